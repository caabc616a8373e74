section MBASE
variable {P : Nat}
theorem s_madeOrNone [NeZero P] (hP : 2 < P) (hB : P < 2 ^ 31) {draft rows : Nat → Int64} {sorts : Nat → Int32} {R : Nat → Nat → Fin P} {S : Nat → Nat} {d t c : Nat} (hr : rK c rows R) (hS : sK sorts S c) (hc : c ≤ 60) (hd : d = 2 ∨ d = 3) (ht : t < 5) {x : Nat → Fin P} (h : vo draft (wd d t) x) (hx : ldV x (wd d t) < wd d t) : ∃ sorts' rows' dr', m_madeOrNone (nI d) (lN P) (nI c) sorts rows draft (nI t) = some ((plc (wd d t) t (nmV x (wd d t)) c S R).1, nI (plc (wd d t) t (nmV x (wd d t)) c S R).2.1, sorts', rows', dr') ∧ sK sorts' (plc (wd d t) t (nmV x (wd d t)) c S R).2.2.1 (plc (wd d t) t (nmV x (wd d t)) c S R).2.1 ∧ rK (plc (wd d t) t (nmV x (wd d t)) c S R).2.1 rows' (plc (wd d t) t (nmV x (wd d t)) c S R).2.2.2 := by
  obtain ⟨s', r', d', g1, g2, g3⟩ := s_made hP hB hr hS hc hd ht h hx
  refine ⟨s', r', d', ?_, g2, g3⟩
  unfold m_madeOrNone
  rw [s_isNothing hP hB hd ht h, if_neg (by omega), Option.bind_some, if_pos rfl, g1, Option.bind_some]
theorem s_madeOrNone0 [NeZero P] (hP : 2 < P) (hB : P < 2 ^ 31) {draft rows : Nat → Int64} {sorts : Nat → Int32} {d t c : Nat} (hd : d = 2 ∨ d = 3) (ht : t < 5) {x : Nat → Fin P} (h : vo draft (wd d t) x) (hx : ldV x (wd d t) = wd d t) : m_madeOrNone (nI d) (lN P) (nI c) sorts rows draft (nI t) = some (-1, nI c, sorts, rows, draft) := by
  unfold m_madeOrNone
  rw [s_isNothing hP hB hd ht h, if_pos hx, Option.bind_some, if_neg (by decide)]
/-- a flat square as lines -/
def sqM (w : Nat) (Q : Nat → Fin P) : Mx P := fun i j => Q (i * w + j)
theorem s_squareRank [NeZero P] (hP : 2 < P) (hB : P < 2 ^ 31) {rows fr : Nat → Int64} {R : Nat → Nat → Fin P} {cc : Nat} (h : rK cc rows R) {a d : Nat} (ha : a < cc) (hd : d = 2 ∨ d = 3) : ∃ fr', m_squareRank (nI d) (lN P) rows fr (nI a) = some (nI (gj (d + 1) (sqM (d + 1) (R a)) (d + 1)).1, fr') := by
  have h60 := h.1
  have key := loop2 (f1 := m_squareRank_L2 (nI d) rows (nI a)) (f2 := fun i => m_squareRank_L12 (nI d) rows (nI a) (nI i)) (d := fr) (d + 1) (d + 1) (fun i j => 20 * i + j) (fun i j i' j' _ _ _ _ e => by omega) (sqM (d + 1) (R a)) ?_ ?_ ?_ ?_
  · obtain ⟨fr1, g1, g2, -⟩ := key
    obtain ⟨fr2, k1, -⟩ := s_reduce hP hB (M := sqM (d + 1) (R a)) (h := d + 1) (w := d + 1) (u := d + 1) (fr := fr1) (fun i j hi hj => g2 i j hi hj) (by omega) (by omega) (by omega)
    refine ⟨fr2, ?_⟩
    unfold m_squareRank
    simp (disch := omega) only [↓Option.bind_some, ↓Option.elim_some, ↓Option.elim_none, Option.bind_some, Option.elim_some, Option.elim_none, Option.some.injEq, Sum.inl.injEq, Sum.inr.injEq, ↓reduceIte, m_side, lit_nI, lz_I, nI_add, pk_mul, pk_sub, nI_ge, nI_le, nI_lt, nI_nlt, gi_t, nI_clamp, nI_eq, pk_rem, Nat.zero_add, Nat.reduceAdd, Nat.reduceMul, Nat.reduceSub, Nat.reduceMod, Nat.reduceEqDiff, reduceCtorEq, Nat.one_ne_zero, Nat.zero_ne_one, g1, k1]
  · intro i d1 hi
    unfold m_squareRank_L2
    simp (disch := omega) only [↓Option.bind_some, ↓Option.elim_some, ↓Option.elim_none, Option.bind_some, Option.elim_some, Option.elim_none, Option.some.injEq, Sum.inl.injEq, Sum.inr.injEq, ↓reduceIte, m_side, lit_nI, lz_I, nI_add, pk_mul, pk_sub, nI_ge, nI_le, nI_lt, nI_nlt, gi_t, nI_clamp, nI_eq, pk_rem, Nat.zero_add, Nat.reduceAdd, Nat.reduceMul, Nat.reduceSub, Nat.reduceMod, Nat.reduceEqDiff, reduceCtorEq, Nat.one_ne_zero, Nat.zero_ne_one]
  · intro i j d1 hi hj _
    refine ⟨vp_updL d1 (20 * i + j) (fL (sqM (d + 1) (R a) i j)), ?_, pk_uLs, fun m hm => pk_uLn hm⟩
    unfold m_squareRank_L12 sqM
    rcases hd with rfl | rfl <;> simp (disch := omega) only [↓Option.bind_some, ↓Option.elim_some, ↓Option.elim_none, Option.bind_some, Option.elim_some, Option.elim_none, Option.some.injEq, Sum.inl.injEq, Sum.inr.injEq, ↓reduceIte, m_side, lit_nI, lz_I, nI_add, pk_mul, pk_sub, nI_ge, nI_le, nI_lt, nI_nlt, gi_t, nI_clamp, nI_eq, pk_rem, Nat.zero_add, Nat.reduceAdd, Nat.reduceMul, Nat.reduceSub, Nat.reduceMod, Nat.reduceEqDiff, reduceCtorEq, Nat.one_ne_zero, Nat.zero_ne_one, s_of h, s_set d1]
  · intro i d1 hi
    unfold m_squareRank_L12
    simp (disch := omega) only [↓Option.bind_some, ↓Option.elim_some, ↓Option.elim_none, Option.bind_some, Option.elim_some, Option.elim_none, Option.some.injEq, Sum.inl.injEq, Sum.inr.injEq, ↓reduceIte, m_side, lit_nI, lz_I, nI_add, pk_mul, pk_sub, nI_ge, nI_le, nI_lt, nI_nlt, gi_t, nI_clamp, nI_eq, pk_rem, Nat.zero_add, Nat.reduceAdd, Nat.reduceMul, Nat.reduceSub, Nat.reduceMod, Nat.reduceEqDiff, reduceCtorEq, Nat.one_ne_zero, Nat.zero_ne_one]
  · intro d1
    unfold m_squareRank_L2
    simp (disch := omega) only [↓Option.bind_some, ↓Option.elim_some, ↓Option.elim_none, Option.bind_some, Option.elim_some, Option.elim_none, Option.some.injEq, Sum.inl.injEq, Sum.inr.injEq, ↓reduceIte, m_side, lit_nI, lz_I, nI_add, pk_mul, pk_sub, nI_ge, nI_le, nI_lt, nI_nlt, gi_t, nI_clamp, nI_eq, pk_rem, Nat.zero_add, Nat.reduceAdd, Nat.reduceMul, Nat.reduceSub, Nat.reduceMod, Nat.reduceEqDiff, reduceCtorEq, Nat.one_ne_zero, Nat.zero_ne_one]
/-- a square with the square of ones behind it -/
def agM [NeZero P] (w : Nat) (Q : Nat → Fin P) : Mx P := fun i j => if j < w then Q (i * w + j) else if j = w + i then 1 else 0
/-- what elimination leaves behind -/
def ivF [NeZero P] (w : Nat) (Q : Nat → Fin P) : Nat → Fin P := fun m => (gj w (agM w Q) w).2 (m / w) (w + m % w)
theorem s_isTurned [NeZero P] (hP : 2 < P) (hB : P < 2 ^ 31) {rows fr tu : Nat → Int64} {R : Nat → Nat → Fin P} {cc : Nat} (h : rK cc rows R) {a d : Nat} (ha : a < cc) (hd : d = 2 ∨ d = 3) : ∃ b fr' tu', m_isTurned (nI d) (lN P) rows fr tu (nI a) = some (b, fr', tu') ∧ ((gj (d + 1) (agM (d + 1) (R a)) (d + 1)).1 = d + 1 → b = nI 1 ∧ vo tu' ((d + 1) * (d + 1)) (ivF (d + 1) (R a))) ∧ (¬ (gj (d + 1) (agM (d + 1) (R a)) (d + 1)).1 = d + 1 → b = nI 0) := by
  have h60 := h.1
  have key := loopM (f := m_isTurned_L2 (nI d) rows (nI a)) (d := fr) (s := 0) (N := d + 1) (by omega) (fun i m => m / 20 = i ∧ m % 20 < 2 * (d + 1)) (fun m => agM (d + 1) (R a) (m / 20) (m % 20)) ?_ ?_
  · obtain ⟨fr1, g1, g2, -⟩ := key
    obtain ⟨fr2, k1, k2⟩ := s_reduce hP hB (M := agM (d + 1) (R a)) (h := d + 1) (w := 2 * (d + 1)) (u := d + 1) (fr := fr1) (fun i j hi hj => by
      have := g2 i (20 * i + j) (by omega) hi ⟨by omega, by omega⟩
      rw [this]
      rw [show (20 * i + j) / 20 = i by omega, show (20 * i + j) % 20 = j by omega]) (by omega) (by omega) (by omega)
    by_cases hf : (gj (d + 1) (agM (d + 1) (R a)) (d + 1)).1 = d + 1
    · have key3 := loop2 (f1 := m_isTurned_L101 (nI d) fr2) (f2 := fun i => m_isTurned_L111 (nI d) fr2 (nI i)) (d := tu) (d + 1) (d + 1) (fun i j => i * (d + 1) + j) (fun i j i' j' h1 h2 h3 h4 e => by rcases hd with rfl | rfl <;> omega) (fun i j => (gj (d + 1) (agM (d + 1) (R a)) (d + 1)).2 i ((d + 1) + j)) ?_ ?_ ?_ ?_
      · obtain ⟨tu', t1, t2, -⟩ := key3
        refine ⟨nI 1, fr2, tu', ?_, fun _ => ⟨rfl, fun m hm => ?_⟩, fun q => absurd hf q⟩
        · unfold m_isTurned
          simp (disch := omega) only [↓Option.bind_some, ↓Option.elim_some, ↓Option.elim_none, Option.bind_some, Option.elim_some, Option.elim_none, Option.some.injEq, Sum.inl.injEq, Sum.inr.injEq, ↓reduceIte, m_side, lit_nI, lz_I, nI_add, pk_mul, pk_sub, nI_ge, nI_le, nI_lt, nI_nlt, gi_t, nI_clamp, nI_eq, pk_rem, Nat.zero_add, Nat.reduceAdd, Nat.reduceMul, Nat.reduceSub, Nat.reduceMod, Nat.reduceEqDiff, reduceCtorEq, Nat.one_ne_zero, Nat.zero_ne_one, g1, k1, hf, t1]
        · have q1 : m / (d + 1) < d + 1 := Nat.div_lt_of_lt_mul hm
          have q2 : m % (d + 1) < d + 1 := Nat.mod_lt _ (by omega)
          have := t2 (m / (d + 1)) (m % (d + 1)) q1 q2
          rw [show m / (d + 1) * (d + 1) + m % (d + 1) = m by rw [Nat.mul_comm]; exact Nat.div_add_mod m (d + 1)] at this
          exact this
      · intro i d1 hi
        unfold m_isTurned_L101
        simp (disch := omega) only [↓Option.bind_some, ↓Option.elim_some, ↓Option.elim_none, Option.bind_some, Option.elim_some, Option.elim_none, Option.some.injEq, Sum.inl.injEq, Sum.inr.injEq, ↓reduceIte, m_side, lit_nI, lz_I, nI_add, pk_mul, pk_sub, nI_ge, nI_le, nI_lt, nI_nlt, gi_t, nI_clamp, nI_eq, pk_rem, Nat.zero_add, Nat.reduceAdd, Nat.reduceMul, Nat.reduceSub, Nat.reduceMod, Nat.reduceEqDiff, reduceCtorEq, Nat.one_ne_zero, Nat.zero_ne_one]
      · intro i j d1 hi hj _
        refine ⟨vp_updL d1 (i * (d + 1) + j) (fL ((gj (d + 1) (agM (d + 1) (R a)) (d + 1)).2 i ((d + 1) + j))), ?_, pk_uLs, fun m hm => pk_uLn hm⟩
        have := k2 i ((d + 1) + j) hi (by omega)
        unfold m_isTurned_L111
        rcases hd with rfl | rfl <;> simp (disch := omega) only [↓Option.bind_some, ↓Option.elim_some, ↓Option.elim_none, Option.bind_some, Option.elim_some, Option.elim_none, Option.some.injEq, Sum.inl.injEq, Sum.inr.injEq, ↓reduceIte, m_side, lit_nI, lz_I, nI_add, pk_mul, pk_sub, nI_ge, nI_le, nI_lt, nI_nlt, gi_t, nI_clamp, nI_eq, pk_rem, Nat.zero_add, Nat.reduceAdd, Nat.reduceMul, Nat.reduceSub, Nat.reduceMod, Nat.reduceEqDiff, reduceCtorEq, Nat.one_ne_zero, Nat.zero_ne_one, s_at fr2, this]
      · intro i d1 hi
        unfold m_isTurned_L111
        simp (disch := omega) only [↓Option.bind_some, ↓Option.elim_some, ↓Option.elim_none, Option.bind_some, Option.elim_some, Option.elim_none, Option.some.injEq, Sum.inl.injEq, Sum.inr.injEq, ↓reduceIte, m_side, lit_nI, lz_I, nI_add, pk_mul, pk_sub, nI_ge, nI_le, nI_lt, nI_nlt, gi_t, nI_clamp, nI_eq, pk_rem, Nat.zero_add, Nat.reduceAdd, Nat.reduceMul, Nat.reduceSub, Nat.reduceMod, Nat.reduceEqDiff, reduceCtorEq, Nat.one_ne_zero, Nat.zero_ne_one]
      · intro d1
        unfold m_isTurned_L101
        simp (disch := omega) only [↓Option.bind_some, ↓Option.elim_some, ↓Option.elim_none, Option.bind_some, Option.elim_some, Option.elim_none, Option.some.injEq, Sum.inl.injEq, Sum.inr.injEq, ↓reduceIte, m_side, lit_nI, lz_I, nI_add, pk_mul, pk_sub, nI_ge, nI_le, nI_lt, nI_nlt, gi_t, nI_clamp, nI_eq, pk_rem, Nat.zero_add, Nat.reduceAdd, Nat.reduceMul, Nat.reduceSub, Nat.reduceMod, Nat.reduceEqDiff, reduceCtorEq, Nat.one_ne_zero, Nat.zero_ne_one]
    · have hle := (gj_le (d + 1) (agM (d + 1) (R a)) (d + 1)).1
      refine ⟨nI 0, fr2, tu, ?_, fun q => absurd q hf, fun _ => rfl⟩
      unfold m_isTurned
      simp (disch := omega) only [↓Option.bind_some, ↓Option.elim_some, ↓Option.elim_none, Option.bind_some, Option.elim_some, Option.elim_none, Option.some.injEq, Sum.inl.injEq, Sum.inr.injEq, ↓reduceIte, m_side, lit_nI, lz_I, nI_add, pk_mul, pk_sub, nI_ge, nI_le, nI_lt, nI_nlt, gi_t, nI_clamp, nI_eq, pk_rem, Nat.zero_add, Nat.reduceAdd, Nat.reduceMul, Nat.reduceSub, Nat.reduceMod, Nat.reduceEqDiff, reduceCtorEq, Nat.one_ne_zero, Nat.zero_ne_one, g1, k1]
  · intro i d1 _ hi _ _
    have key2 := loopM (f := m_isTurned_L12 (nI d) rows (nI a) (nI i)) (d := d1) (s := 0) (N := d + 1) (by omega) (fun j m => m = 20 * i + j ∨ m = 20 * i + ((d + 1) + j)) (fun m => agM (d + 1) (R a) (m / 20) (m % 20)) ?_ ?_
    · obtain ⟨d2, g1, g2, g3⟩ := key2
      refine ⟨d2, ?_, ?_, ?_⟩
      · unfold m_isTurned_L2
        simp (disch := omega) only [↓Option.bind_some, ↓Option.elim_some, ↓Option.elim_none, Option.bind_some, Option.elim_some, Option.elim_none, Option.some.injEq, Sum.inl.injEq, Sum.inr.injEq, ↓reduceIte, m_side, lit_nI, lz_I, nI_add, pk_mul, pk_sub, nI_ge, nI_le, nI_lt, nI_nlt, gi_t, nI_clamp, nI_eq, pk_rem, Nat.zero_add, Nat.reduceAdd, Nat.reduceMul, Nat.reduceSub, Nat.reduceMod, Nat.reduceEqDiff, reduceCtorEq, Nat.one_ne_zero, Nat.zero_ne_one, g1]
      · rintro m ⟨m1, m2⟩
        by_cases e : m % 20 < d + 1
        · exact g2 (m % 20) m (by omega) e (Or.inl (by omega))
        · exact g2 (m % 20 - (d + 1)) m (by omega) (by omega) (Or.inr (by omega))
      · intro m hm
        exact g3 m (fun j j1 j2 j3 => hm ⟨by omega, by omega⟩)
    · intro j d2 _ hj _ _
      refine ⟨vp_updL (vp_updL d2 (20 * i + j) (fL (R a (i * (d + 1) + j)))) (20 * i + ((d + 1) + j)) (fL (if i = j then (1 : Fin P) else 0)), ?_, ?_, ?_⟩
      · unfold m_isTurned_L12
        by_cases e : i = j
        · rw [if_pos e]
          rcases hd with rfl | rfl <;> simp (disch := omega) only [↓Option.bind_some, ↓Option.elim_some, ↓Option.elim_none, Option.bind_some, Option.elim_some, Option.elim_none, Option.some.injEq, Sum.inl.injEq, Sum.inr.injEq, ↓reduceIte, m_side, lit_nI, lz_I, nI_add, pk_mul, pk_sub, nI_ge, nI_le, nI_lt, nI_nlt, gi_t, nI_clamp, nI_eq, pk_rem, Nat.zero_add, Nat.reduceAdd, Nat.reduceMul, Nat.reduceSub, Nat.reduceMod, Nat.reduceEqDiff, reduceCtorEq, Nat.one_ne_zero, Nat.zero_ne_one, s_of h, s_set, e, lo64 (P := P) hP]
        · rw [if_neg e]
          rcases hd with rfl | rfl <;> simp (disch := omega) only [↓Option.bind_some, ↓Option.elim_some, ↓Option.elim_none, Option.bind_some, Option.elim_some, Option.elim_none, Option.some.injEq, Sum.inl.injEq, Sum.inr.injEq, ↓reduceIte, m_side, lit_nI, lz_I, nI_add, pk_mul, pk_sub, nI_ge, nI_le, nI_lt, nI_nlt, gi_t, nI_clamp, nI_eq, pk_rem, Nat.zero_add, Nat.reduceAdd, Nat.reduceMul, Nat.reduceSub, Nat.reduceMod, Nat.reduceEqDiff, reduceCtorEq, Nat.one_ne_zero, Nat.zero_ne_one, s_of h, s_set, e, lz64 (P := P)]
      · rintro m hm
        unfold agM
        by_cases e : m = 20 * i + ((d + 1) + j)
        · rw [e, pk_uLs, show (20 * i + ((d + 1) + j)) / 20 = i by omega, show (20 * i + ((d + 1) + j)) % 20 = (d + 1) + j by omega]
          by_cases e2 : i = j
          · rw [if_pos e2, if_neg (show ¬ (d + 1) + j < d + 1 by omega), if_pos (show (d + 1) + j = (d + 1) + i by omega)]
          · rw [if_neg e2, if_neg (show ¬ (d + 1) + j < d + 1 by omega), if_neg (show ¬ (d + 1) + j = (d + 1) + i by omega)]
        · have e3 : m = 20 * i + j := by omega
          rw [pk_uLn e, e3, pk_uLs, show (20 * i + j) / 20 = i by omega, show (20 * i + j) % 20 = j by omega, if_pos hj]
      · intro m hm
        rw [pk_uLn (fun q => hm (Or.inr q)), pk_uLn (fun q => hm (Or.inl q))]
    · intro d2
      unfold m_isTurned_L12
      simp (disch := omega) only [↓Option.bind_some, ↓Option.elim_some, ↓Option.elim_none, Option.bind_some, Option.elim_some, Option.elim_none, Option.some.injEq, Sum.inl.injEq, Sum.inr.injEq, ↓reduceIte, m_side, lit_nI, lz_I, nI_add, pk_mul, pk_sub, nI_ge, nI_le, nI_lt, nI_nlt, gi_t, nI_clamp, nI_eq, pk_rem, Nat.zero_add, Nat.reduceAdd, Nat.reduceMul, Nat.reduceSub, Nat.reduceMod, Nat.reduceEqDiff, reduceCtorEq, Nat.one_ne_zero, Nat.zero_ne_one]
  · intro d1
    unfold m_isTurned_L2
    simp (disch := omega) only [↓Option.bind_some, ↓Option.elim_some, ↓Option.elim_none, Option.bind_some, Option.elim_some, Option.elim_none, Option.some.injEq, Sum.inl.injEq, Sum.inr.injEq, ↓reduceIte, m_side, lit_nI, lz_I, nI_add, pk_mul, pk_sub, nI_ge, nI_le, nI_lt, nI_nlt, gi_t, nI_clamp, nI_eq, pk_rem, Nat.zero_add, Nat.reduceAdd, Nat.reduceMul, Nat.reduceSub, Nat.reduceMod, Nat.reduceEqDiff, reduceCtorEq, Nat.one_ne_zero, Nat.zero_ne_one]
/-- the squares whose lines are on a line -/
def bs3 [NeZero P] (L : Nat → Fin P) : Nat → Nat → Fin P
  | 0, 1 => L 2
  | 0, 2 => - L 1
  | 1, 0 => - L 2
  | 1, 2 => L 0
  | 2, 0 => L 1
  | 2, 1 => - L 0
  | _, _ => 0
def bsM [NeZero P] (d : Nat) (L : Nat → Fin P) : Mx P := if d = 2 then bs3 L else sk4 L
/-- the two rows of a line's base, as elimination makes them -/
def baF [NeZero P] (d : Nat) (L : Nat → Fin P) (i : Nat) : Nat → Fin P := (gj (d + 1) (bsM d L) (d + 1)).2 i
theorem s_baseJ [NeZero P] (hP : 2 < P) (hB : P < 2 ^ 31) {fr one two : Nat → Int64} {M : Mx P} {d : Nat} (hd : d = 2 ∨ d = 3) (hf : fok fr M (d + 1) (d + 1)) : ∃ fr' o t, m_base_J170 (nI d) (lN P) fr one two = some (fr', o, t) ∧ vo o (d + 1) ((gj (d + 1) M (d + 1)).2 0) ∧ vo t (d + 1) ((gj (d + 1) M (d + 1)).2 1) := by
  obtain ⟨fr2, k1, k2⟩ := s_reduce hP hB (M := M) (h := d + 1) (w := d + 1) (u := d + 1) (fr := fr) hf (by omega) (by omega) (by omega)
  have key := it_inv (f := m_base_L189 (nI d) fr2) (fun k s => s.1 = nI k ∧ vo s.2.1 k ((gj (d + 1) M (d + 1)).2 0) ∧ vo s.2.2 k ((gj (d + 1) M (d + 1)).2 1)) (d + 1) (fun r => vo r.1 (d + 1) ((gj (d + 1) M (d + 1)).2 0) ∧ vo r.2 (d + 1) ((gj (d + 1) M (d + 1)).2 1)) ?_ ?_ (nI 0, one, two) ⟨rfl, fun j hj => by omega, fun j hj => by omega⟩
  · obtain ⟨⟨o, t⟩, h1, h2, h3⟩ := key
    refine ⟨fr2, o, t, ?_, h2, h3⟩
    unfold m_base_J170
    simp (disch := omega) only [↓Option.bind_some, ↓Option.elim_some, ↓Option.elim_none, Option.bind_some, Option.elim_some, Option.elim_none, Option.some.injEq, Sum.inl.injEq, Sum.inr.injEq, ↓reduceIte, m_side, lit_nI, lz_I, nI_add, pk_mul, pk_sub, nI_ge, nI_le, nI_lt, nI_nlt, gi_t, nI_clamp, nI_eq, pk_rem, Nat.zero_add, Nat.reduceAdd, Nat.reduceMul, Nat.reduceSub, Nat.reduceMod, Nat.reduceEqDiff, reduceCtorEq, Nat.one_ne_zero, Nat.zero_ne_one, k1, h1]
  · rintro k ⟨k', o, t⟩ hk ⟨e1, h1, h2⟩
    dsimp only at e1 h1 h2
    subst e1
    have a0 := k2 0 k (by omega) hk
    rw [Nat.mul_zero, Nat.zero_add] at a0
    have a1 := k2 1 k (by omega) hk
    refine ⟨(nI (k + 1), vp_updL o k (fL ((gj (d + 1) M (d + 1)).2 0 k)), vp_updL t k (fL ((gj (d + 1) M (d + 1)).2 1 k))), ?_, rfl, ?_, ?_⟩
    · unfold m_base_L189
      simp (disch := omega) only [↓Option.bind_some, ↓Option.elim_some, ↓Option.elim_none, Option.bind_some, Option.elim_some, Option.elim_none, Option.some.injEq, Sum.inl.injEq, Sum.inr.injEq, ↓reduceIte, m_side, lit_nI, lz_I, nI_add, pk_mul, pk_sub, nI_ge, nI_le, nI_lt, nI_nlt, gi_t, nI_clamp, nI_eq, pk_rem, Nat.zero_add, Nat.reduceAdd, Nat.reduceMul, Nat.reduceSub, Nat.reduceMod, Nat.reduceEqDiff, reduceCtorEq, Nat.one_ne_zero, Nat.zero_ne_one, s_at fr2, a0, a1, Nat.mul_zero]
    · intro j hj
      dsimp only
      by_cases e : j = k
      · rw [e, pk_uLs]
      · rw [pk_uLn e]
        exact h1 j (by omega)
    · intro j hj
      dsimp only
      by_cases e : j = k
      · rw [e, pk_uLs]
      · rw [pk_uLn e]
        exact h2 j (by omega)
  · rintro ⟨k', o, t⟩ ⟨e1, h1, h2⟩
    dsimp only at e1 h1 h2
    subst e1
    refine ⟨(o, t), ?_, h1, h2⟩
    unfold m_base_L189
    simp (disch := omega) only [↓Option.bind_some, ↓Option.elim_some, ↓Option.elim_none, Option.bind_some, Option.elim_some, Option.elim_none, Option.some.injEq, Sum.inl.injEq, Sum.inr.injEq, ↓reduceIte, m_side, lit_nI, lz_I, nI_add, pk_mul, pk_sub, nI_ge, nI_le, nI_lt, nI_nlt, gi_t, nI_clamp, nI_eq, pk_rem, Nat.zero_add, Nat.reduceAdd, Nat.reduceMul, Nat.reduceSub, Nat.reduceMod, Nat.reduceEqDiff, reduceCtorEq, Nat.one_ne_zero, Nat.zero_ne_one]
theorem s_base2f [NeZero P] {fr1 : Nat → Int64} (L : Nat → Fin P) (g2 : ∀ i j, i < 3 → j < 3 → fr1 (20 * i + j) = fL (0 : Fin P)) : fok (vp_updL (vp_updL (vp_updL (vp_updL (vp_updL (vp_updL fr1 1 (fL (L 2))) 2 (fL (- L 1))) 20 (fL (- L 2))) 22 (fL (L 0))) 40 (fL (L 1))) 41 (fL (- L 0))) (bs3 L) 3 3 := by
  intro i j hi hj
  have hz := g2 i j hi hj
  by_cases e1 : i = 0 ∧ j = 1
  · obtain ⟨rfl, rfl⟩ := e1
    rw [pk_uLn (by omega), pk_uLn (by omega), pk_uLn (by omega), pk_uLn (by omega), pk_uLn (by omega)]
    exact pk_uLs
  by_cases e2 : i = 0 ∧ j = 2
  · obtain ⟨rfl, rfl⟩ := e2
    rw [pk_uLn (by omega), pk_uLn (by omega), pk_uLn (by omega), pk_uLn (by omega)]
    exact pk_uLs
  by_cases e3 : i = 1 ∧ j = 0
  · obtain ⟨rfl, rfl⟩ := e3
    rw [pk_uLn (by omega), pk_uLn (by omega), pk_uLn (by omega)]
    exact pk_uLs
  by_cases e4 : i = 1 ∧ j = 2
  · obtain ⟨rfl, rfl⟩ := e4
    rw [pk_uLn (by omega), pk_uLn (by omega)]
    exact pk_uLs
  by_cases e5 : i = 2 ∧ j = 0
  · obtain ⟨rfl, rfl⟩ := e5
    rw [pk_uLn (by omega)]
    exact pk_uLs
  by_cases e6 : i = 2 ∧ j = 1
  · obtain ⟨rfl, rfl⟩ := e6
    exact pk_uLs
  rw [pk_uLn (by omega), pk_uLn (by omega), pk_uLn (by omega), pk_uLn (by omega), pk_uLn (by omega), pk_uLn (by omega), hz]
  rcases (show (i = 0 ∧ j = 0) ∨ (i = 1 ∧ j = 1) ∨ (i = 2 ∧ j = 2) by omega) with ⟨rfl, rfl⟩ | ⟨rfl, rfl⟩ | ⟨rfl, rfl⟩ <;> rfl
theorem s_base2 [NeZero P] (hP : 2 < P) (hB : P < 2 ^ 31) {rows fr fr1 one two : Nat → Int64} {R : Nat → Nat → Fin P} {cc : Nat} (h : rK cc rows R) {a : Nat} (ha : a < cc) (g1 : itX m_base_L2 (nI 0, fr) = some fr1) : m_base (nI 2) (lN P) rows fr one two (nI a) = m_base_J170 (nI 2) (lN P) (vp_updL (vp_updL (vp_updL (vp_updL (vp_updL (vp_updL fr1 1 (fL (R a 2))) 2 (fL (- R a 1))) 20 (fL (- R a 2))) 22 (fL (R a 0))) 40 (fL (R a 1))) 41 (fL (- R a 0))) one two := by
  have h60 := h.1
  have o0 := s_of h ha (k := 0) (by omega)
  have o1 := s_of h ha (k := 1) (by omega)
  have o2 := s_of h ha (k := 2) (by omega)
  have st : ∀ (f : Nat → Int64) (i j : Nat) (v : Int64), i < 3 → j < 3 → m_set f (nI i) (nI j) v = some (vp_updL f (20 * i + j) v) := fun f i j v hi hj => s_set f (by omega) (by omega) v
  unfold m_base
  rw [lz_I, g1, Option.bind_some, if_pos (show nI 2 = (2 : Int32) from rfl), show (2 : Int32) = nI 2 from rfl, show (1 : Int32) = nI 1 from rfl, o2, Option.bind_some, st _ 0 1 _ (by omega) (by omega), Option.bind_some, o1, Option.bind_some, s_less0 hP hB, Option.bind_some, st _ 0 2 _ (by omega) (by omega), Option.bind_some, Option.bind_some, s_less0 hP hB, Option.bind_some, st _ 1 0 _ (by omega) (by omega), Option.bind_some, o0, Option.bind_some, st _ 1 2 _ (by omega) (by omega), Option.bind_some, Option.bind_some, st _ 2 0 _ (by omega) (by omega), Option.bind_some, Option.bind_some, s_less0 hP hB, Option.bind_some, st _ 2 1 _ (by omega) (by omega), Option.bind_some]
theorem s_baseZ [NeZero P] (fr : Nat → Int64) : ∃ fr1, itX m_base_L2 (nI 0, fr) = some fr1 ∧ ∀ i j, i < 4 → j < 4 → fr1 (20 * i + j) = fL (0 : Fin P) := by
  have key := loop2 (f1 := m_base_L2) (f2 := fun i => m_base_L9 (nI i)) (d := fr) 4 4 (fun i j => 20 * i + j) (fun i j i' j' _ _ _ _ e => by omega) (fun _ _ => (0 : Fin P)) ?_ ?_ ?_ ?_
  · obtain ⟨fr1, g1, g2, -⟩ := key
    exact ⟨fr1, g1, g2⟩
  · intro i d1 hi
    unfold m_base_L2
    simp (disch := omega) only [↓Option.bind_some, ↓Option.elim_some, ↓Option.elim_none, Option.bind_some, Option.elim_some, Option.elim_none, Option.some.injEq, Sum.inl.injEq, Sum.inr.injEq, ↓reduceIte, m_side, lit_nI, lz_I, nI_add, pk_mul, pk_sub, nI_ge, nI_le, nI_lt, nI_nlt, gi_t, nI_clamp, nI_eq, pk_rem, Nat.zero_add, Nat.reduceAdd, Nat.reduceMul, Nat.reduceSub, Nat.reduceMod, Nat.reduceEqDiff, reduceCtorEq, Nat.one_ne_zero, Nat.zero_ne_one]
  · intro i j d1 hi hj _
    refine ⟨vp_updL d1 (20 * i + j) (fL (0 : Fin P)), ?_, pk_uLs, fun m hm => pk_uLn hm⟩
    unfold m_base_L9
    simp (disch := omega) only [↓Option.bind_some, ↓Option.elim_some, ↓Option.elim_none, Option.bind_some, Option.elim_some, Option.elim_none, Option.some.injEq, Sum.inl.injEq, Sum.inr.injEq, ↓reduceIte, m_side, lit_nI, lz_I, nI_add, pk_mul, pk_sub, nI_ge, nI_le, nI_lt, nI_nlt, gi_t, nI_clamp, nI_eq, pk_rem, Nat.zero_add, Nat.reduceAdd, Nat.reduceMul, Nat.reduceSub, Nat.reduceMod, Nat.reduceEqDiff, reduceCtorEq, Nat.one_ne_zero, Nat.zero_ne_one, s_set d1, lz64 (P := P)]
  · intro i d1 hi
    unfold m_base_L9
    simp (disch := omega) only [↓Option.bind_some, ↓Option.elim_some, ↓Option.elim_none, Option.bind_some, Option.elim_some, Option.elim_none, Option.some.injEq, Sum.inl.injEq, Sum.inr.injEq, ↓reduceIte, m_side, lit_nI, lz_I, nI_add, pk_mul, pk_sub, nI_ge, nI_le, nI_lt, nI_nlt, gi_t, nI_clamp, nI_eq, pk_rem, Nat.zero_add, Nat.reduceAdd, Nat.reduceMul, Nat.reduceSub, Nat.reduceMod, Nat.reduceEqDiff, reduceCtorEq, Nat.one_ne_zero, Nat.zero_ne_one]
  · intro d1
    unfold m_base_L2
    simp (disch := omega) only [↓Option.bind_some, ↓Option.elim_some, ↓Option.elim_none, Option.bind_some, Option.elim_some, Option.elim_none, Option.some.injEq, Sum.inl.injEq, Sum.inr.injEq, ↓reduceIte, m_side, lit_nI, lz_I, nI_add, pk_mul, pk_sub, nI_ge, nI_le, nI_lt, nI_nlt, gi_t, nI_clamp, nI_eq, pk_rem, Nat.zero_add, Nat.reduceAdd, Nat.reduceMul, Nat.reduceSub, Nat.reduceMod, Nat.reduceEqDiff, reduceCtorEq, Nat.one_ne_zero, Nat.zero_ne_one]
theorem s_base3 [NeZero P] (hP : 2 < P) (hB : P < 2 ^ 31) {rows fr fr1 one two : Nat → Int64} {R : Nat → Nat → Fin P} {cc : Nat} (h : rK cc rows R) {a : Nat} (ha : a < cc) (g1 : itX m_base_L2 (nI 0, fr) = some fr1) : ∃ fr3, m_base (nI 3) (lN P) rows fr one two (nI a) = m_base_J170 (nI 3) (lN P) fr3 one two ∧ fok fr3 (sk4 (R a)) 4 4 := by
  have h60 := h.1
  have key2 := loop2 (f1 := m_base_L133 (lN P) rows (nI a)) (f2 := fun i => m_base_L140 (lN P) rows (nI a) (nI i)) (d := fr1) 4 4 (fun i j => 20 * i + j) (fun i j i' j' _ _ _ _ e => by omega) (sk4 (R a)) ?_ ?_ ?_ ?_
  · obtain ⟨fr3, l1, l2, -⟩ := key2
    refine ⟨fr3, ?_, fun i j hi hj => l2 i j hi hj⟩
    unfold m_base
    rw [lz_I, g1, Option.bind_some, if_neg (show ¬ nI 3 = (2 : Int32) by decide), l1, Option.bind_some]
  · intro i d1 hi
    unfold m_base_L133
    simp (disch := omega) only [↓Option.bind_some, ↓Option.elim_some, ↓Option.elim_none, Option.bind_some, Option.elim_some, Option.elim_none, Option.some.injEq, Sum.inl.injEq, Sum.inr.injEq, ↓reduceIte, m_side, lit_nI, lz_I, nI_add, pk_mul, pk_sub, nI_ge, nI_le, nI_lt, nI_nlt, gi_t, nI_clamp, nI_eq, pk_rem, Nat.zero_add, Nat.reduceAdd, Nat.reduceMul, Nat.reduceSub, Nat.reduceMod, Nat.reduceEqDiff, reduceCtorEq, Nat.one_ne_zero, Nat.zero_ne_one]
  · intro i j d1 hi hj _
    refine ⟨vp_updL d1 (20 * i + j) (fL (sk4 (R a) i j)), ?_, pk_uLs, fun m hm => pk_uLn hm⟩
    unfold m_base_L140
    simp (disch := omega) only [↓Option.bind_some, ↓Option.elim_some, ↓Option.elim_none, Option.bind_some, Option.elim_some, Option.elim_none, Option.some.injEq, Sum.inl.injEq, Sum.inr.injEq, ↓reduceIte, m_side, lit_nI, lz_I, nI_add, pk_mul, pk_sub, nI_ge, nI_le, nI_lt, nI_nlt, gi_t, nI_clamp, nI_eq, pk_rem, Nat.zero_add, Nat.reduceAdd, Nat.reduceMul, Nat.reduceSub, Nat.reduceMod, Nat.reduceEqDiff, reduceCtorEq, Nat.one_ne_zero, Nat.zero_ne_one, s_entry hP hB h, s_set d1]
  · intro i d1 hi
    unfold m_base_L140
    simp (disch := omega) only [↓Option.bind_some, ↓Option.elim_some, ↓Option.elim_none, Option.bind_some, Option.elim_some, Option.elim_none, Option.some.injEq, Sum.inl.injEq, Sum.inr.injEq, ↓reduceIte, m_side, lit_nI, lz_I, nI_add, pk_mul, pk_sub, nI_ge, nI_le, nI_lt, nI_nlt, gi_t, nI_clamp, nI_eq, pk_rem, Nat.zero_add, Nat.reduceAdd, Nat.reduceMul, Nat.reduceSub, Nat.reduceMod, Nat.reduceEqDiff, reduceCtorEq, Nat.one_ne_zero, Nat.zero_ne_one]
  · intro d1
    unfold m_base_L133
    simp (disch := omega) only [↓Option.bind_some, ↓Option.elim_some, ↓Option.elim_none, Option.bind_some, Option.elim_some, Option.elim_none, Option.some.injEq, Sum.inl.injEq, Sum.inr.injEq, ↓reduceIte, m_side, lit_nI, lz_I, nI_add, pk_mul, pk_sub, nI_ge, nI_le, nI_lt, nI_nlt, gi_t, nI_clamp, nI_eq, pk_rem, Nat.zero_add, Nat.reduceAdd, Nat.reduceMul, Nat.reduceSub, Nat.reduceMod, Nat.reduceEqDiff, reduceCtorEq, Nat.one_ne_zero, Nat.zero_ne_one]
theorem bsM_2 [NeZero P] (L : Nat → Fin P) : bsM 2 L = bs3 L := by
  unfold bsM
  rw [if_pos rfl]
theorem bsM_3 [NeZero P] (L : Nat → Fin P) : bsM 3 L = sk4 L := by
  unfold bsM
  rw [if_neg (by decide)]
theorem s_base [NeZero P] (hP : 2 < P) (hB : P < 2 ^ 31) {rows fr one two : Nat → Int64} {R : Nat → Nat → Fin P} {cc : Nat} (h : rK cc rows R) {a d : Nat} (ha : a < cc) (hd : d = 2 ∨ d = 3) : ∃ fr' o t, m_base (nI d) (lN P) rows fr one two (nI a) = some (fr', o, t) ∧ vo o (d + 1) (baF d (R a) 0) ∧ vo t (d + 1) (baF d (R a) 1) := by
  have h60 := h.1
  obtain ⟨fr1, g1, g2⟩ := s_baseZ (P := P) fr
  have hj : ∃ fr3, m_base (nI d) (lN P) rows fr one two (nI a) = m_base_J170 (nI d) (lN P) fr3 one two ∧ fok fr3 (bsM d (R a)) (d + 1) (d + 1) := by
    rcases hd with rfl | rfl
    · rw [bsM_2]
      exact ⟨_, s_base2 hP hB h ha g1, s_base2f (R a) (fun i j hi hj => g2 i j (by omega) (by omega))⟩
    · rw [bsM_3]
      exact s_base3 hP hB h ha g1
  obtain ⟨fr3, l1, l2⟩ := hj
  obtain ⟨fr2, o, t, k1, k2, k3⟩ := s_baseJ hP hB (one := one) (two := two) hd l2
  exact ⟨fr2, o, t, l1.trans k1, k2, k3⟩
/-- the sum of all Qij xi yj -/
def frm [NeZero P] (w : Nat) (Q x y : Nat → Fin P) : Fin P := sF (fun i => sF (fun j => Q (i * w + j) * (x i * y j)) w) w
theorem s_form [NeZero P] (hP : 2 < P) (hB : P < 2 ^ 31) {rows one two : Nat → Int64} {R : Nat → Nat → Fin P} {cc : Nat} (h : rK cc rows R) {a d b1 b2 : Nat} (ha : a < cc) (hd : d = 2 ∨ d = 3) (h1 : b1 < 2) (h2 : b2 < 2) {x y : Nat → Fin P} (hx : vo (if b1 = 0 then two else one) (d + 1) x) (hy : vo (if b2 = 0 then two else one) (d + 1) y) : m_form (nI d) (lN P) rows one two (nI a) (nI b1) (nI b2) = some (fL (frm (d + 1) (R a) x y)) := by
  have h60 := h.1
  have key := loopS (f := m_form_L6 (nI d) (lN P) rows one two (nI a) (nI b1) (nI b2)) (d + 1) 0 (fun i => sF (fun j => R a (i * (d + 1) + j) * (x i * y j)) (d + 1)) ?_ ?_
  · unfold m_form
    simp (disch := omega) only [↓Option.bind_some, ↓Option.elim_some, ↓Option.elim_none, Option.bind_some, Option.elim_some, Option.elim_none, Option.some.injEq, Sum.inl.injEq, Sum.inr.injEq, ↓reduceIte, m_side, lit_nI, lz_I, nI_add, pk_mul, pk_sub, nI_ge, nI_le, nI_lt, nI_nlt, gi_t, nI_clamp, nI_eq, pk_rem, Nat.zero_add, Nat.reduceAdd, Nat.reduceMul, Nat.reduceSub, Nat.reduceMod, Nat.reduceEqDiff, reduceCtorEq, Nat.one_ne_zero, Nat.zero_ne_one, lz64 (P := P), key]
    congr 1
    unfold frm
    grind
  · intro i c hi
    have key2 := loopS (f := m_form_L18 (nI d) (lN P) rows one two (nI a) (nI b1) (nI b2) (nI i)) (d + 1) c (fun j => R a (i * (d + 1) + j) * (x i * y j)) ?_ ?_
    · unfold m_form_L6
      simp (disch := omega) only [↓Option.bind_some, ↓Option.elim_some, ↓Option.elim_none, Option.bind_some, Option.elim_some, Option.elim_none, Option.some.injEq, Sum.inl.injEq, Sum.inr.injEq, ↓reduceIte, m_side, lit_nI, lz_I, nI_add, pk_mul, pk_sub, nI_ge, nI_le, nI_lt, nI_nlt, gi_t, nI_clamp, nI_eq, pk_rem, Nat.zero_add, Nat.reduceAdd, Nat.reduceMul, Nat.reduceSub, Nat.reduceMod, Nat.reduceEqDiff, reduceCtorEq, Nat.one_ne_zero, Nat.zero_ne_one, key2]
    · intro j e hj
      have x1 := hx i hi
      have y1 := hy j hj
      unfold m_form_L18
      rcases (show b1 = 0 ∨ b1 = 1 by omega) with rfl | rfl <;> rcases (show b2 = 0 ∨ b2 = 1 by omega) with rfl | rfl <;> rcases hd with rfl | rfl <;> simp only [↓reduceIte, Nat.one_ne_zero] at x1 y1 <;> simp (disch := omega) only [↓Option.bind_some, ↓Option.elim_some, ↓Option.elim_none, Option.bind_some, Option.elim_some, Option.elim_none, Option.some.injEq, Sum.inl.injEq, Sum.inr.injEq, ↓reduceIte, m_side, lit_nI, lz_I, nI_add, pk_mul, pk_sub, nI_ge, nI_le, nI_lt, nI_nlt, gi_t, nI_clamp, nI_eq, pk_rem, Nat.zero_add, Nat.reduceAdd, Nat.reduceMul, Nat.reduceSub, Nat.reduceMod, Nat.reduceEqDiff, reduceCtorEq, Nat.one_ne_zero, Nat.zero_ne_one, s_of h, x1, y1, s_times hP hB, s_less hP hB, s_over hP hB, n_plus hP hB, lz64 (P := P), lo64 (P := P) hP, lPz hP hB]
    · intro e
      unfold m_form_L18
      simp (disch := omega) only [↓Option.bind_some, ↓Option.elim_some, ↓Option.elim_none, Option.bind_some, Option.elim_some, Option.elim_none, Option.some.injEq, Sum.inl.injEq, Sum.inr.injEq, ↓reduceIte, m_side, lit_nI, lz_I, nI_add, pk_mul, pk_sub, nI_ge, nI_le, nI_lt, nI_nlt, gi_t, nI_clamp, nI_eq, pk_rem, Nat.zero_add, Nat.reduceAdd, Nat.reduceMul, Nat.reduceSub, Nat.reduceMod, Nat.reduceEqDiff, reduceCtorEq, Nat.one_ne_zero, Nat.zero_ne_one]
  · intro c
    unfold m_form_L6
    simp (disch := omega) only [↓Option.bind_some, ↓Option.elim_some, ↓Option.elim_none, Option.bind_some, Option.elim_some, Option.elim_none, Option.some.injEq, Sum.inl.injEq, Sum.inr.injEq, ↓reduceIte, m_side, lit_nI, lz_I, nI_add, pk_mul, pk_sub, nI_ge, nI_le, nI_lt, nI_nlt, gi_t, nI_clamp, nI_eq, pk_rem, Nat.zero_add, Nat.reduceAdd, Nat.reduceMul, Nat.reduceSub, Nat.reduceMod, Nat.reduceEqDiff, reduceCtorEq, Nat.one_ne_zero, Nat.zero_ne_one]
end MBASE
