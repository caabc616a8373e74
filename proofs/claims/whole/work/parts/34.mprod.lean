section MPROD
variable {P : Nat}
theorem vo_sq {d : Nat → Int64} {w : Nat} (hw : 0 < w) {v : Nat → Nat → Fin P} (h : ∀ i j, i < w → j < w → d (i * w + j) = fL (v i j)) : vo d (w * w) (fun m => v (m / w) (m % w)) := by
  intro m hm
  have q1 : m / w < w := Nat.div_lt_of_lt_mul hm
  have q2 : m % w < w := Nat.mod_lt _ hw
  have := h (m / w) (m % w) q1 q2
  rw [show m / w * w + m % w = m by rw [Nat.mul_comm]; exact Nat.div_add_mod m w] at this
  exact this
theorem sq_vo {d : Nat → Int64} {w : Nat} {x : Nat → Fin P} (h : vo d (w * w) x) {i j : Nat} (hi : i < w) (hj : j < w) : d (i * w + j) = fL (x (i * w + j)) := h _ (row_lt hi hj)
theorem ij_inj {w : Nat} (hw : w = 3 ∨ w = 4) : ∀ i j i' j', i < w → j < w → i' < w → j' < w → i * w + j = i' * w + j' → i = i' ∧ j = j' := by
  intro i j i' j' h1 h2 h3 h4 e
  rcases hw with rfl | rfl <;> omega
/-- products of squares -/
theorem loop3 [NeZero P] {f1 : Int32 × (Nat → Int64) → Option ((Int32 × (Nat → Int64)) ⊕ (Nat → Int64))} {f2 : Nat → Int32 × (Nat → Int64) → Option ((Int32 × (Nat → Int64)) ⊕ (Nat → Int64))} {f3 : Nat → Nat → Int32 × (Nat → Int64) → Option ((Int32 × (Nat → Int64)) ⊕ (Nat → Int64))} {d : Nat → Int64} (w : Nat) (hw : w = 3 ∨ w = 4) (hz : ∀ m, m < w * w → d m = fL (0 : Fin P)) (v : Nat → Nat → Nat → Fin P) (hout1 : ∀ i d1, i < w → f1 (nI i, d1) = (itX (f2 i) (nI 0, d1)).bind fun r => some (.inl (nI (i + 1), r))) (hout2 : ∀ i j d1, i < w → j < w → f2 i (nI j, d1) = (itX (f3 i j) (nI 0, d1)).bind fun r => some (.inl (nI (j + 1), r))) (step : ∀ (i j k : Nat) (d1 : Nat → Int64) (a : Fin P), i < w → j < w → k < w → d1 (i * w + j) = fL a → f3 i j (nI k, d1) = some (.inl (nI (k + 1), vp_updL d1 (i * w + j) (fL (a + v i j k))))) (stop3 : ∀ i j d1, i < w → j < w → f3 i j (nI w, d1) = some (.inr d1)) (stop2 : ∀ i d1, i < w → f2 i (nI w, d1) = some (.inr d1)) (stop1 : ∀ d1 : Nat → Int64, f1 (nI w, d1) = some (.inr d1)) : ∃ d', itX f1 (nI 0, d) = some d' ∧ vo d' (w * w) (fun m => sF (v (m / w) (m % w)) w) := by
  have key := loop2 (f1 := f1) (f2 := f2) (d := d) w w (fun i j => i * w + j) (ij_inj hw) (fun i j => sF (v i j) w) hout1 ?_ stop2 stop1
  · obtain ⟨d', h1, h2, -⟩ := key
    exact ⟨d', h1, vo_sq (by omega) h2⟩
  · intro i j d1 hi hj e
    rw [hz _ (row_lt hi hj)] at e
    obtain ⟨d2, g1, g2, g3⟩ := loopA (f := f3 i j) (d := d1) w (i * w + j) e (v i j) (fun k d1 a hk ha => step i j k d1 a hi hj hk ha) (fun d1 => stop3 i j d1 hi hj)
    refine ⟨d2, by rw [hout2 i j d1 hi hj, g1, Option.bind_some], ?_, g3⟩
    rw [g2]
    congr 1
    grind
/-- a square times a row -/
theorem loopV [NeZero P] {f1 : Int32 × (Nat → Int64) → Option ((Int32 × (Nat → Int64)) ⊕ (Nat → Int64))} {f2 : Nat → Int32 × (Nat → Int64) → Option ((Int32 × (Nat → Int64)) ⊕ (Nat → Int64))} {d : Nat → Int64} (w : Nat) (hz : ∀ m, m < w → d m = fL (0 : Fin P)) (v : Nat → Nat → Fin P) (hout1 : ∀ i d1, i < w → f1 (nI i, d1) = (itX (f2 i) (nI 0, d1)).bind fun r => some (.inl (nI (i + 1), r))) (step : ∀ (i j : Nat) (d1 : Nat → Int64) (a : Fin P), i < w → j < w → d1 i = fL a → f2 i (nI j, d1) = some (.inl (nI (j + 1), vp_updL d1 i (fL (a + v i j))))) (stop2 : ∀ i d1, i < w → f2 i (nI w, d1) = some (.inr d1)) (stop1 : ∀ d1 : Nat → Int64, f1 (nI w, d1) = some (.inr d1)) : ∃ d', itX f1 (nI 0, d) = some d' ∧ vo d' w (fun i => sF (v i) w) := by
  have key := loop1 (f := f1) (d := d) (N := w) (fun i => i) (fun i j _ _ e => e) (fun i => sF (v i) w) ?_ stop1
  · obtain ⟨d', h1, h2, -⟩ := key
    exact ⟨d', h1, h2⟩
  · intro i d1 hi q1 _
    have e : d1 i = fL (0 : Fin P) := by rw [q1 i (fun j hj => by omega)]; exact hz i hi
    obtain ⟨d2, g1, g2, g3⟩ := loopA (f := f2 i) (d := d1) w i e (v i) (fun k d1 a hk ha => step i k d1 a hi hk ha) (fun d1 => stop2 i d1 hi)
    refine ⟨d2, by rw [hout1 i d1 hi, g1, Option.bind_some], ?_, g3⟩
    rw [g2]
    congr 1
    grind
/-- a square with ones behind it, laid into the frame -/
theorem loopG [NeZero P] {f1 : Int32 × (Nat → Int64) → Option ((Int32 × (Nat → Int64)) ⊕ (Nat → Int64))} {f2 : Nat → Int32 × (Nat → Int64) → Option ((Int32 × (Nat → Int64)) ⊕ (Nat → Int64))} {d : Nat → Int64} (w : Nat) (hw : w ≤ 10) (Q : Nat → Fin P) (hout1 : ∀ i d1, i < w → f1 (nI i, d1) = (itX (f2 i) (nI 0, d1)).bind fun r => some (.inl (nI (i + 1), r))) (step : ∀ (i j : Nat) (d1 : Nat → Int64), i < w → j < w → f2 i (nI j, d1) = some (.inl (nI (j + 1), vp_updL (vp_updL d1 (20 * i + j) (fL (Q (i * w + j)))) (20 * i + (w + j)) (fL (if i = j then (1 : Fin P) else 0))))) (stop2 : ∀ i d1, i < w → f2 i (nI w, d1) = some (.inr d1)) (stop1 : ∀ d1 : Nat → Int64, f1 (nI w, d1) = some (.inr d1)) : ∃ d', itX f1 (nI 0, d) = some d' ∧ fok d' (agM w Q) w (2 * w) := by
  have key := loopM (f := f1) (d := d) (s := 0) (N := w) (by omega) (fun i m => m / 20 = i ∧ m % 20 < 2 * w) (fun m => agM w Q (m / 20) (m % 20)) ?_ stop1
  · obtain ⟨fr1, g1, g2, -⟩ := key
    refine ⟨fr1, g1, fun i j hi hj => ?_⟩
    have := g2 i (20 * i + j) (by omega) hi ⟨by omega, by omega⟩
    rw [this, show (20 * i + j) / 20 = i by omega, show (20 * i + j) % 20 = j by omega]
  · intro i d1 _ hi _ _
    have key2 := loopM (f := f2 i) (d := d1) (s := 0) (N := w) (by omega) (fun j m => m = 20 * i + j ∨ m = 20 * i + (w + j)) (fun m => agM w Q (m / 20) (m % 20)) ?_ (fun d1 => stop2 i d1 hi)
    · obtain ⟨d2, g1, g2, g3⟩ := key2
      refine ⟨d2, by rw [hout1 i d1 hi, g1, Option.bind_some], ?_, ?_⟩
      · rintro m ⟨m1, m2⟩
        by_cases e : m % 20 < w
        · exact g2 (m % 20) m (by omega) e (Or.inl (by omega))
        · exact g2 (m % 20 - w) m (by omega) (by omega) (Or.inr (by omega))
      · intro m hm
        exact g3 m (fun j j1 j2 j3 => hm ⟨by omega, by omega⟩)
    · intro j d2 _ hj _ _
      refine ⟨_, step i j d2 hi hj, ?_, ?_⟩
      · rintro m hm
        unfold agM
        by_cases e : m = 20 * i + (w + j)
        · rw [e, pk_uLs, show (20 * i + (w + j)) / 20 = i by omega, show (20 * i + (w + j)) % 20 = w + j by omega]
          by_cases e2 : i = j
          · rw [if_pos e2, if_neg (show ¬ w + j < w by omega), if_pos (show w + j = w + i by omega)]
          · rw [if_neg e2, if_neg (show ¬ w + j < w by omega), if_neg (show ¬ w + j = w + i by omega)]
        · have e3 : m = 20 * i + j := by omega
          rw [pk_uLn e, e3, pk_uLs, show (20 * i + j) / 20 = i by omega, show (20 * i + j) % 20 = j by omega, if_pos hj]
      · intro m hm
        rw [pk_uLn (fun q => hm (Or.inr q)), pk_uLn (fun q => hm (Or.inl q))]
def prF [NeZero P] (w : Nat) (A B : Nat → Fin P) : Nat → Fin P := fun m => sF (fun k => A (m / w * w + k) * B (k * w + m % w)) w
def trF (w : Nat) (A : Nat → Fin P) : Nat → Fin P := fun m => A (m % w * w + m / w)
theorem s_product [NeZero P] (hP : 2 < P) (hB : P < 2 ^ 31) {rows draft : Nat → Int64} {R : Nat → Nat → Fin P} {cc : Nat} (h : rK cc rows R) {a b d : Nat} (ha : a < cc) (hb : b < cc) (hd : d = 2 ∨ d = 3) : ∃ d', m_product (nI d) (lN P) rows draft (nI a) (nI b) = some d' ∧ vo d' ((d + 1) * (d + 1)) (prF (d + 1) (R a) (R b)) := by
  have h60 := h.1
  obtain ⟨d0, c1, c2⟩ := s_clear (P := P) draft
  have key := loop3 (f1 := m_product_L6 (nI d) (lN P) rows (nI a) (nI b)) (f2 := fun i => m_product_L17 (nI d) (lN P) rows (nI a) (nI b) (nI i)) (f3 := fun i j => m_product_L29 (nI d) (lN P) rows (nI a) (nI b) (nI i) (nI j)) (d := d0) (d + 1) (by omega) (fun m hm => c2 m (by rcases hd with rfl | rfl <;> omega)) (fun i j k => R a (i * (d + 1) + k) * R b (k * (d + 1) + j)) ?_ ?_ ?_ ?_ ?_ ?_
  · obtain ⟨d', h1, h2⟩ := key
    refine ⟨d', ?_, h2⟩
    unfold m_product
    simp (disch := omega) only [↓Option.bind_some, ↓Option.elim_some, ↓Option.elim_none, Option.bind_some, Option.elim_some, Option.elim_none, Option.some.injEq, Sum.inl.injEq, Sum.inr.injEq, ↓reduceIte, m_side, lit_nI, lz_I, nI_add, pk_mul, pk_sub, nI_ge, nI_le, nI_lt, nI_nlt, gi_t, nI_clamp, nI_eq, pk_rem, Nat.zero_add, Nat.reduceAdd, Nat.reduceMul, Nat.reduceSub, Nat.reduceMod, Nat.reduceEqDiff, reduceCtorEq, Nat.one_ne_zero, Nat.zero_ne_one, c1, h1]
  · intro i d1 hi
    unfold m_product_L6
    simp (disch := omega) only [↓Option.bind_some, ↓Option.elim_some, ↓Option.elim_none, Option.bind_some, Option.elim_some, Option.elim_none, Option.some.injEq, Sum.inl.injEq, Sum.inr.injEq, ↓reduceIte, m_side, lit_nI, lz_I, nI_add, pk_mul, pk_sub, nI_ge, nI_le, nI_lt, nI_nlt, gi_t, nI_clamp, nI_eq, pk_rem, Nat.zero_add, Nat.reduceAdd, Nat.reduceMul, Nat.reduceSub, Nat.reduceMod, Nat.reduceEqDiff, reduceCtorEq, Nat.one_ne_zero, Nat.zero_ne_one]
  · intro i j d1 hi hj
    unfold m_product_L17
    simp (disch := omega) only [↓Option.bind_some, ↓Option.elim_some, ↓Option.elim_none, Option.bind_some, Option.elim_some, Option.elim_none, Option.some.injEq, Sum.inl.injEq, Sum.inr.injEq, ↓reduceIte, m_side, lit_nI, lz_I, nI_add, pk_mul, pk_sub, nI_ge, nI_le, nI_lt, nI_nlt, gi_t, nI_clamp, nI_eq, pk_rem, Nat.zero_add, Nat.reduceAdd, Nat.reduceMul, Nat.reduceSub, Nat.reduceMod, Nat.reduceEqDiff, reduceCtorEq, Nat.one_ne_zero, Nat.zero_ne_one]
  · intro i j k d1 c hi hj hk hc
    unfold m_product_L29
    rcases hd with rfl | rfl <;> simp (disch := omega) only [↓Option.bind_some, ↓Option.elim_some, ↓Option.elim_none, Option.bind_some, Option.elim_some, Option.elim_none, Option.some.injEq, Sum.inl.injEq, Sum.inr.injEq, ↓reduceIte, m_side, lit_nI, lz_I, nI_add, pk_mul, pk_sub, nI_ge, nI_le, nI_lt, nI_nlt, gi_t, nI_clamp, nI_eq, pk_rem, Nat.zero_add, Nat.reduceAdd, Nat.reduceMul, Nat.reduceSub, Nat.reduceMod, Nat.reduceEqDiff, reduceCtorEq, Nat.one_ne_zero, Nat.zero_ne_one, s_of h, hc, s_times hP hB, s_less hP hB, s_over hP hB, n_plus hP hB, lz64 (P := P), lo64 (P := P) hP, lPz hP hB]
  · intro i j d1 hi hj
    unfold m_product_L29
    simp (disch := omega) only [↓Option.bind_some, ↓Option.elim_some, ↓Option.elim_none, Option.bind_some, Option.elim_some, Option.elim_none, Option.some.injEq, Sum.inl.injEq, Sum.inr.injEq, ↓reduceIte, m_side, lit_nI, lz_I, nI_add, pk_mul, pk_sub, nI_ge, nI_le, nI_lt, nI_nlt, gi_t, nI_clamp, nI_eq, pk_rem, Nat.zero_add, Nat.reduceAdd, Nat.reduceMul, Nat.reduceSub, Nat.reduceMod, Nat.reduceEqDiff, reduceCtorEq, Nat.one_ne_zero, Nat.zero_ne_one]
  · intro i d1 hi
    unfold m_product_L17
    simp (disch := omega) only [↓Option.bind_some, ↓Option.elim_some, ↓Option.elim_none, Option.bind_some, Option.elim_some, Option.elim_none, Option.some.injEq, Sum.inl.injEq, Sum.inr.injEq, ↓reduceIte, m_side, lit_nI, lz_I, nI_add, pk_mul, pk_sub, nI_ge, nI_le, nI_lt, nI_nlt, gi_t, nI_clamp, nI_eq, pk_rem, Nat.zero_add, Nat.reduceAdd, Nat.reduceMul, Nat.reduceSub, Nat.reduceMod, Nat.reduceEqDiff, reduceCtorEq, Nat.one_ne_zero, Nat.zero_ne_one]
  · intro d1
    unfold m_product_L6
    simp (disch := omega) only [↓Option.bind_some, ↓Option.elim_some, ↓Option.elim_none, Option.bind_some, Option.elim_some, Option.elim_none, Option.some.injEq, Sum.inl.injEq, Sum.inr.injEq, ↓reduceIte, m_side, lit_nI, lz_I, nI_add, pk_mul, pk_sub, nI_ge, nI_le, nI_lt, nI_nlt, gi_t, nI_clamp, nI_eq, pk_rem, Nat.zero_add, Nat.reduceAdd, Nat.reduceMul, Nat.reduceSub, Nat.reduceMod, Nat.reduceEqDiff, reduceCtorEq, Nat.one_ne_zero, Nat.zero_ne_one]
theorem s_squared [NeZero P] (hP : 2 < P) (hB : P < 2 ^ 31) {rows draft one turned : Nat → Int64} {R : Nat → Nat → Fin P} {cc : Nat} (h : rK cc rows R) {a b d t : Nat} (ha : a < cc) (hb : b < cc) (hd : d = 2 ∨ d = 3) (ht : t < 5) {N : Nat → Fin P} (hN : vo turned ((d + 1) * (d + 1)) N) : ∃ d' o', m_squared (nI d) (lN P) rows draft one turned (nI a) (nI b) (nI t) = some (d', o') ∧ vo d' ((d + 1) * (d + 1)) (prF (d + 1) (prF (d + 1) (if t = 3 then R a else trF (d + 1) N) (R b)) N) := by
  have h60 := h.1
  obtain ⟨d0, c1, c2⟩ := s_clear (P := P) draft
  have tr : ∀ i k, i < d + 1 → k < d + 1 → trF (d + 1) N (i * (d + 1) + k) = N (k * (d + 1) + i) := by
    intro i k hi hk
    unfold trF
    rw [show (i * (d + 1) + k) % (d + 1) = k by rw [Nat.mul_comm, Nat.mul_add_mod]; exact Nat.mod_eq_of_lt hk, show (i * (d + 1) + k) / (d + 1) = i by rw [Nat.mul_comm, Nat.mul_add_div (by omega), Nat.div_eq_of_lt hk, Nat.add_zero]]
  have key := loop2 (f1 := m_squared_L3 (nI d) (lN P) rows turned (nI a) (nI b) (nI t)) (f2 := fun i => m_squared_L15 (nI d) (lN P) rows turned (nI a) (nI b) (nI t) (nI i)) (d := one) (d + 1) (d + 1) (fun i j => i * (d + 1) + j) (ij_inj (by omega)) (fun i j => sF (fun k => (if t = 3 then R a else trF (d + 1) N) (i * (d + 1) + k) * R b (k * (d + 1) + j)) (d + 1)) ?_ ?_ ?_ ?_
  · obtain ⟨o', h1, h2, -⟩ := key
    have h3 := vo_sq (w := d + 1) (by omega) h2
    generalize (if t = 3 then R a else trF (d + 1) N) = A at *
    have key2 := loop3 (f1 := m_squared_L152 (nI d) (lN P) o' turned) (f2 := fun i => m_squared_L164 (nI d) (lN P) o' turned (nI i)) (f3 := fun i j => m_squared_L176 (nI d) (lN P) o' turned (nI i) (nI j)) (d := d0) (d + 1) (by omega) (fun m hm => c2 m (by rcases hd with rfl | rfl <;> omega)) (fun i j k => prF (d + 1) A (R b) (i * (d + 1) + k) * N (k * (d + 1) + j)) ?_ ?_ ?_ ?_ ?_ ?_
    · obtain ⟨d', k1, k2⟩ := key2
      refine ⟨d', o', ?_, k2⟩
      unfold m_squared
      simp (disch := omega) only [↓Option.bind_some, ↓Option.elim_some, ↓Option.elim_none, Option.bind_some, Option.elim_some, Option.elim_none, Option.some.injEq, Sum.inl.injEq, Sum.inr.injEq, ↓reduceIte, m_side, lit_nI, lz_I, nI_add, pk_mul, pk_sub, nI_ge, nI_le, nI_lt, nI_nlt, gi_t, nI_clamp, nI_eq, pk_rem, Nat.zero_add, Nat.reduceAdd, Nat.reduceMul, Nat.reduceSub, Nat.reduceMod, Nat.reduceEqDiff, reduceCtorEq, Nat.one_ne_zero, Nat.zero_ne_one, h1, c1, k1]
    · intro i d1 hi
      unfold m_squared_L152
      simp (disch := omega) only [↓Option.bind_some, ↓Option.elim_some, ↓Option.elim_none, Option.bind_some, Option.elim_some, Option.elim_none, Option.some.injEq, Sum.inl.injEq, Sum.inr.injEq, ↓reduceIte, m_side, lit_nI, lz_I, nI_add, pk_mul, pk_sub, nI_ge, nI_le, nI_lt, nI_nlt, gi_t, nI_clamp, nI_eq, pk_rem, Nat.zero_add, Nat.reduceAdd, Nat.reduceMul, Nat.reduceSub, Nat.reduceMod, Nat.reduceEqDiff, reduceCtorEq, Nat.one_ne_zero, Nat.zero_ne_one]
    · intro i j d1 hi hj
      unfold m_squared_L164
      simp (disch := omega) only [↓Option.bind_some, ↓Option.elim_some, ↓Option.elim_none, Option.bind_some, Option.elim_some, Option.elim_none, Option.some.injEq, Sum.inl.injEq, Sum.inr.injEq, ↓reduceIte, m_side, lit_nI, lz_I, nI_add, pk_mul, pk_sub, nI_ge, nI_le, nI_lt, nI_nlt, gi_t, nI_clamp, nI_eq, pk_rem, Nat.zero_add, Nat.reduceAdd, Nat.reduceMul, Nat.reduceSub, Nat.reduceMod, Nat.reduceEqDiff, reduceCtorEq, Nat.one_ne_zero, Nat.zero_ne_one]
    · intro i j k d1 c hi hj hk hc
      have n1 := sq_vo hN hk hj
      have n2 := sq_vo (x := prF (d + 1) A (R b)) h3 hi hk
      unfold m_squared_L176
      rcases hd with rfl | rfl <;> simp (disch := omega) only [↓Option.bind_some, ↓Option.elim_some, ↓Option.elim_none, Option.bind_some, Option.elim_some, Option.elim_none, Option.some.injEq, Sum.inl.injEq, Sum.inr.injEq, ↓reduceIte, m_side, lit_nI, lz_I, nI_add, pk_mul, pk_sub, nI_ge, nI_le, nI_lt, nI_nlt, gi_t, nI_clamp, nI_eq, pk_rem, Nat.zero_add, Nat.reduceAdd, Nat.reduceMul, Nat.reduceSub, Nat.reduceMod, Nat.reduceEqDiff, reduceCtorEq, Nat.one_ne_zero, Nat.zero_ne_one, n1, n2, hc, s_times hP hB, s_less hP hB, s_over hP hB, n_plus hP hB, lz64 (P := P), lo64 (P := P) hP, lPz hP hB]
    · intro i j d1 hi hj
      unfold m_squared_L176
      simp (disch := omega) only [↓Option.bind_some, ↓Option.elim_some, ↓Option.elim_none, Option.bind_some, Option.elim_some, Option.elim_none, Option.some.injEq, Sum.inl.injEq, Sum.inr.injEq, ↓reduceIte, m_side, lit_nI, lz_I, nI_add, pk_mul, pk_sub, nI_ge, nI_le, nI_lt, nI_nlt, gi_t, nI_clamp, nI_eq, pk_rem, Nat.zero_add, Nat.reduceAdd, Nat.reduceMul, Nat.reduceSub, Nat.reduceMod, Nat.reduceEqDiff, reduceCtorEq, Nat.one_ne_zero, Nat.zero_ne_one]
    · intro i d1 hi
      unfold m_squared_L164
      simp (disch := omega) only [↓Option.bind_some, ↓Option.elim_some, ↓Option.elim_none, Option.bind_some, Option.elim_some, Option.elim_none, Option.some.injEq, Sum.inl.injEq, Sum.inr.injEq, ↓reduceIte, m_side, lit_nI, lz_I, nI_add, pk_mul, pk_sub, nI_ge, nI_le, nI_lt, nI_nlt, gi_t, nI_clamp, nI_eq, pk_rem, Nat.zero_add, Nat.reduceAdd, Nat.reduceMul, Nat.reduceSub, Nat.reduceMod, Nat.reduceEqDiff, reduceCtorEq, Nat.one_ne_zero, Nat.zero_ne_one]
    · intro d1
      unfold m_squared_L152
      simp (disch := omega) only [↓Option.bind_some, ↓Option.elim_some, ↓Option.elim_none, Option.bind_some, Option.elim_some, Option.elim_none, Option.some.injEq, Sum.inl.injEq, Sum.inr.injEq, ↓reduceIte, m_side, lit_nI, lz_I, nI_add, pk_mul, pk_sub, nI_ge, nI_le, nI_lt, nI_nlt, gi_t, nI_clamp, nI_eq, pk_rem, Nat.zero_add, Nat.reduceAdd, Nat.reduceMul, Nat.reduceSub, Nat.reduceMod, Nat.reduceEqDiff, reduceCtorEq, Nat.one_ne_zero, Nat.zero_ne_one]
  · intro i d1 hi
    unfold m_squared_L3
    simp (disch := omega) only [↓Option.bind_some, ↓Option.elim_some, ↓Option.elim_none, Option.bind_some, Option.elim_some, Option.elim_none, Option.some.injEq, Sum.inl.injEq, Sum.inr.injEq, ↓reduceIte, m_side, lit_nI, lz_I, nI_add, pk_mul, pk_sub, nI_ge, nI_le, nI_lt, nI_nlt, gi_t, nI_clamp, nI_eq, pk_rem, Nat.zero_add, Nat.reduceAdd, Nat.reduceMul, Nat.reduceSub, Nat.reduceMod, Nat.reduceEqDiff, reduceCtorEq, Nat.one_ne_zero, Nat.zero_ne_one]
  · intro i j d1 hi hj _
    have key2 := loopS (f := m_squared_L30 (nI d) (lN P) rows turned (nI a) (nI b) (nI t) (nI i) (nI j)) (d + 1) 0 (fun k => (if t = 3 then R a else trF (d + 1) N) (i * (d + 1) + k) * R b (k * (d + 1) + j)) ?_ ?_
    · refine ⟨vp_updL d1 (i * (d + 1) + j) (fL (0 + sF (fun k => (if t = 3 then R a else trF (d + 1) N) (i * (d + 1) + k) * R b (k * (d + 1) + j)) (d + 1))), ?_, ?_, fun m hm => pk_uLn hm⟩
      · generalize (0 : Fin P) + sF (fun k => (if t = 3 then R a else trF (d + 1) N) (i * (d + 1) + k) * R b (k * (d + 1) + j)) (d + 1) = z at *
        unfold m_squared_L15
        rcases hd with rfl | rfl <;> simp (disch := omega) only [↓Option.bind_some, ↓Option.elim_some, ↓Option.elim_none, Option.bind_some, Option.elim_some, Option.elim_none, Option.some.injEq, Sum.inl.injEq, Sum.inr.injEq, ↓reduceIte, m_side, lit_nI, lz_I, nI_add, pk_mul, pk_sub, nI_ge, nI_le, nI_lt, nI_nlt, gi_t, nI_clamp, nI_eq, pk_rem, Nat.zero_add, Nat.reduceAdd, Nat.reduceMul, Nat.reduceSub, Nat.reduceMod, Nat.reduceEqDiff, reduceCtorEq, Nat.one_ne_zero, Nat.zero_ne_one, lz64 (P := P), key2]
      · rw [pk_uLs]
        congr 1
        grind
    · intro k c hk
      have n1 := sq_vo hN hk hi
      have n2 := tr i k hi hk
      by_cases e : t = 3
      · subst e
        rw [if_pos rfl]
        unfold m_squared_L30
        rcases hd with rfl | rfl <;> simp (disch := omega) only [↓Option.bind_some, ↓Option.elim_some, ↓Option.elim_none, Option.bind_some, Option.elim_some, Option.elim_none, Option.some.injEq, Sum.inl.injEq, Sum.inr.injEq, ↓reduceIte, m_side, lit_nI, lz_I, nI_add, pk_mul, pk_sub, nI_ge, nI_le, nI_lt, nI_nlt, gi_t, nI_clamp, nI_eq, pk_rem, Nat.zero_add, Nat.reduceAdd, Nat.reduceMul, Nat.reduceSub, Nat.reduceMod, Nat.reduceEqDiff, reduceCtorEq, Nat.one_ne_zero, Nat.zero_ne_one, s_of h, s_times hP hB, s_less hP hB, s_over hP hB, n_plus hP hB, lz64 (P := P), lo64 (P := P) hP, lPz hP hB]
      · rw [if_neg e, n2]
        unfold m_squared_L30
        rcases hd with rfl | rfl <;> simp (disch := omega) only [↓Option.bind_some, ↓Option.elim_some, ↓Option.elim_none, Option.bind_some, Option.elim_some, Option.elim_none, Option.some.injEq, Sum.inl.injEq, Sum.inr.injEq, ↓reduceIte, m_side, lit_nI, lz_I, nI_add, pk_mul, pk_sub, nI_ge, nI_le, nI_lt, nI_nlt, gi_t, nI_clamp, nI_eq, pk_rem, Nat.zero_add, Nat.reduceAdd, Nat.reduceMul, Nat.reduceSub, Nat.reduceMod, Nat.reduceEqDiff, reduceCtorEq, Nat.one_ne_zero, Nat.zero_ne_one, s_of h, e, n1, s_times hP hB, s_less hP hB, s_over hP hB, n_plus hP hB, lz64 (P := P), lo64 (P := P) hP, lPz hP hB]
    · intro c
      unfold m_squared_L30
      simp (disch := omega) only [↓Option.bind_some, ↓Option.elim_some, ↓Option.elim_none, Option.bind_some, Option.elim_some, Option.elim_none, Option.some.injEq, Sum.inl.injEq, Sum.inr.injEq, ↓reduceIte, m_side, lit_nI, lz_I, nI_add, pk_mul, pk_sub, nI_ge, nI_le, nI_lt, nI_nlt, gi_t, nI_clamp, nI_eq, pk_rem, Nat.zero_add, Nat.reduceAdd, Nat.reduceMul, Nat.reduceSub, Nat.reduceMod, Nat.reduceEqDiff, reduceCtorEq, Nat.one_ne_zero, Nat.zero_ne_one]
  · intro i d1 hi
    unfold m_squared_L15
    simp (disch := omega) only [↓Option.bind_some, ↓Option.elim_some, ↓Option.elim_none, Option.bind_some, Option.elim_some, Option.elim_none, Option.some.injEq, Sum.inl.injEq, Sum.inr.injEq, ↓reduceIte, m_side, lit_nI, lz_I, nI_add, pk_mul, pk_sub, nI_ge, nI_le, nI_lt, nI_nlt, gi_t, nI_clamp, nI_eq, pk_rem, Nat.zero_add, Nat.reduceAdd, Nat.reduceMul, Nat.reduceSub, Nat.reduceMod, Nat.reduceEqDiff, reduceCtorEq, Nat.one_ne_zero, Nat.zero_ne_one]
  · intro d1
    unfold m_squared_L3
    simp (disch := omega) only [↓Option.bind_some, ↓Option.elim_some, ↓Option.elim_none, Option.bind_some, Option.elim_some, Option.elim_none, Option.some.injEq, Sum.inl.injEq, Sum.inr.injEq, ↓reduceIte, m_side, lit_nI, lz_I, nI_add, pk_mul, pk_sub, nI_ge, nI_le, nI_lt, nI_nlt, gi_t, nI_clamp, nI_eq, pk_rem, Nat.zero_add, Nat.reduceAdd, Nat.reduceMul, Nat.reduceSub, Nat.reduceMod, Nat.reduceEqDiff, reduceCtorEq, Nat.one_ne_zero, Nat.zero_ne_one]
end MPROD
