section CGRID
variable {P : Nat}
theorem eloopM {Hh : Type} {emb : (Nat → Int64) → Hh} {f : Int32 × Hh → Option ((Int32 × Hh) ⊕ Hh)} {d : Nat → Int64} {N : Nat} (own : Nat → Nat → Prop) (val : Nat → Fin P) (step : ∀ (k : Nat) (d1 : Nat → Int64), k < N → ∃ d2, f (nI k, emb d1) = some (.inl (nI (k + 1), emb d2)) ∧ (∀ m, own k m → d2 m = fL (val m)) ∧ ∀ m, ¬ own k m → d2 m = d1 m) (stop : ∀ d1 : Nat → Int64, f (nI N, emb d1) = some (.inr (emb d1))) : ∃ d', itX f (nI 0, emb d) = some (emb d') ∧ (∀ i m, i < N → own i m → d' m = fL (val m)) ∧ ∀ m, (∀ i, i < N → ¬ own i m) → d' m = d m := by
  have key := it_inv (f := f) (fun k z => z.1 = nI k ∧ ∃ d1, z.2 = emb d1 ∧ (∀ i m, i < k → own i m → d1 m = fL (val m)) ∧ ∀ m, (∀ i, i < k → ¬ own i m) → d1 m = d m) N (fun r => ∃ d', r = emb d' ∧ (∀ i m, i < N → own i m → d' m = fL (val m)) ∧ ∀ m, (∀ i, i < N → ¬ own i m) → d' m = d m) ?_ ?_ (nI 0, emb d) ⟨rfl, d, rfl, fun i m h1 => by omega, fun m _ => rfl⟩
  · obtain ⟨r, h1, d', h2, h3⟩ := key
    exact ⟨d', by rw [h1, h2], h3⟩
  · rintro k ⟨k', z⟩ hk ⟨e1, d1, e2, h1, h2⟩
    dsimp only at e1 e2
    subst e1
    subst e2
    obtain ⟨d2, g1, g2, g3⟩ := step k d1 hk
    refine ⟨_, g1, rfl, d2, rfl, ?_, ?_⟩
    · intro i m hi ho
      by_cases e : own k m
      · exact g2 m e
      · rw [g3 m e]
        by_cases e3 : i = k
        · rw [e3] at ho
          exact absurd ho e
        · exact h1 i m (by omega) ho
    · intro m hm
      rw [g3 m (hm k (by omega))]
      exact h2 m (fun i a => hm i (by omega))
  · rintro ⟨k', z⟩ ⟨e1, d1, e2, h1, h2⟩
    dsimp only at e1 e2
    subst e1
    subst e2
    exact ⟨emb d1, stop d1, d1, rfl, h1, h2⟩
/-- hp with a grid of N lines of k longs at a, the lines behind it -/
def hG (hp : cH) (a N k : Nat) (d : Nat → Int64) : cH := fun b => if b = a then some (.inl (3, N, .inr (.inr (.inr (.inr (fun i => if i < N then some (a + 1 + i) else none)))))) else if a < b ∧ b ≤ a + N then some (.inl (1, k, .inr (.inl (fun j => if j < k then d (20 * (b - a - 1) + j) else 0)))) else hp b
theorem hG_a {hp : cH} {a N k : Nat} {d : Nat → Int64} : hG hp a N k d a = some (.inl (3, N, .inr (.inr (.inr (.inr (fun i => if i < N then some (a + 1 + i) else none)))))) := by
  unfold hG
  rw [if_pos rfl]
theorem hG_l {hp : cH} {a N k i : Nat} {d : Nat → Int64} (hi : i < N) : hG hp a N k d (a + 1 + i) = some (.inl (1, k, .inr (.inl (fun j => if j < k then d (20 * i + j) else 0)))) := by
  unfold hG
  rw [if_neg (by omega), if_pos (by omega), show a + 1 + i - a - 1 = i by omega]
theorem hG_o {hp : cH} {a N k b : Nat} {d : Nat → Int64} (h : b < a ∨ a + N < b) : hG hp a N k d b = hp b := by
  unfold hG
  rw [if_neg (by omega), if_neg (by omega)]
theorem nM_h {hp : cH} {sz N k : Nat} (hN : N ≤ 9) (hk : k ≤ 16) : nM hp sz (nI N) (nI k) = some (hG hp sz N k (fun _ => 0), sz + 1 + N) := by
  unfold nM
  rw [nI_clamp (by omega), nI_clamp (by omega), if_pos ⟨⟨nI_pos (by omega), hN⟩, nI_pos (by omega), hk⟩]
  congr 2
  funext b
  unfold mMul hG
  simp only [ite_self]
theorem lR_h {hp : cH} {a N k i : Nat} {d : Nat → Int64} (hi : i < N) (hN : N < 2 ^ 31) : lR 3 (hG hp a N k d) a (nI i) = some (some (a + 1 + i)) := by
  unfold lR aR
  rw [hG_a]
  show (if gi (nI i) N then some ((fun i => if i < N then some (a + 1 + i) else none) (nI i).toNatClampNeg) else none) = _
  rw [if_pos (gi_nI hi hN), nI_clamp (by omega)]
  (try dsimp only)
  rw [if_pos hi]
theorem aN_h {hp : cH} {a N k : Nat} {d : Nat → Int64} : aN (hG hp a N k d) a = some (nI N) := by
  unfold aN
  rw [hG_a]
  rfl
theorem hG_up {hp : cH} {a N k i : Nat} {d d' : Nat → Int64} {f : Nat → Int64} (hi : i < N) (h1 : ∀ j, f j = if j < k then d' (20 * i + j) else 0) (h2 : ∀ l j, l < N → l ≠ i → j < k → d' (20 * l + j) = d (20 * l + j)) : va_up (hG hp a N k d) (a + 1 + i) (some (.inl (1, k, .inr (.inl f)))) = hG hp a N k d' := by
  funext b
  by_cases e : b = a + 1 + i
  · subst e
    rw [hG_l hi]
    rw [show f = fun j => if j < k then d' (20 * i + j) else 0 from funext h1]
    simp [va_up]
  · have e0 : va_up (hG hp a N k d) (a + 1 + i) (some (.inl (1, k, .inr (.inl f)))) b = hG hp a N k d b := by simp [va_up, e]
    rw [e0]
    by_cases e1 : b = a
    · subst e1
      rw [hG_a, hG_a]
    · by_cases e2 : a < b ∧ b ≤ a + N
      · have e3 : b = a + 1 + (b - a - 1) := by omega
        rw [e3, hG_l (by omega), hG_l (by omega)]
        have hfun : (fun j => if j < k then d (20 * (b - a - 1) + j) else 0) = (fun j => if j < k then d' (20 * (b - a - 1) + j) else 0) := by
          funext j
          by_cases e4 : j < k
          · rw [if_pos e4, if_pos e4, h2 _ j (by omega) (by omega) e4]
          · rw [if_neg e4, if_neg e4]
        rw [hfun]
      · rw [hG_o (by omega), hG_o (by omega)]
theorem sJ_g {hp : cH} {a N k i j : Nat} {d : Nat → Int64} (hi : i < N) (hj : j < k) (hk : k ≤ 20) (v : Int64) : sJ (hG hp a N k d) (a + 1 + i) (nI j) v = some (hG hp a N k (vp_updL d (20 * i + j) v)) := by
  unfold sJ aJ
  rw [hG_l hi]
  show (if gi (nI j) k then some _ else none) = _
  rw [if_pos (gi_nI hj (by omega)), nI_clamp (by omega)]
  congr 1
  refine hG_up hi (fun l => ?_) (fun l m hl hne hm => by rw [pk_uLn (by omega)])
  unfold vp_updL
  (try dsimp only)
  by_cases e : l = j
  · subst e
    rw [if_pos rfl, if_pos hj, if_pos rfl]
  · rw [if_neg e]
    by_cases e2 : l < k
    · rw [if_pos e2, if_pos e2, if_neg (by omega)]
    · rw [if_neg e2, if_neg e2]
theorem lJ_g {hp : cH} {a N k i j : Nat} {d : Nat → Int64} (hi : i < N) (hj : j < k) (hk : k ≤ 20) : lJ (hG hp a N k d) (a + 1 + i) (nI j) = some (d (20 * i + j)) := by
  unfold lJ aJ
  rw [hG_l hi]
  show (if gi (nI j) k then some ((fun j => if j < k then d (20 * i + j) else 0) (nI j).toNatClampNeg) else none) = _
  rw [if_pos (gi_nI hj (by omega)), nI_clamp (by omega)]
  (try dsimp only)
  rw [if_pos hj]
theorem gq_h {hp : cH} {a N k : Nat} {d : Nat → Int64} {M : Mx P} (h : fok d M N k) : gq (hG hp a N k d) a N k M (fun i => a + 1 + i) := by
  refine ⟨⟨_, hG_a, fun i hi => by (try dsimp only); rw [if_pos hi]⟩, fun i hi => ⟨_, hG_l hi, fun j hj => by (try dsimp only); rw [if_pos hj]; exact h i j hi hj⟩, fun i j _ _ e => by have e2 : a + 1 + i = a + 1 + j := e; omega⟩
theorem gro.ng {hp : cH} {sz N k : Nat} {d : Nat → Int64} : gro hp sz (hG hp sz N k d) (sz + 1 + N) := ⟨fun b hb => hG_o (by omega), by omega⟩
theorem eV.q {w so ro fo sz : Nat} {hp : cH} (h : eV P w so ro fo hp sz) (N k : Nat) (d : Nat → Int64) : eV P w so ro fo (hG hp sz N k d) (sz + 1 + N) := h.g gro.ng
theorem vA.ldg {hp : cH} {sz a n N k : Nat} {x : Nat → Fin P} {d : Nat → Int64} (h : vA hp sz a n x) {j : Nat} (hj : j < n) (hn : n < 2 ^ 31) : lJ (hG hp sz N k d) a (nI j) = some (fL (x j)) := (h.g gro.ng).ld hj hn
/-- the lines of a square, laid into a grid -/
theorem e_linesOf [NeZero P] (hP : 2 < P) (hB : P < 2 ^ 31) {hp : cH} {w so ro fo sz q k : Nat} {Q : Nat → Fin P} (he : eV P w so ro fo hp sz) (hw : w = 3 ∨ w = 4) (hQ : vA hp sz q (w * w) Q) (hk : w ≤ k) (hk2 : k ≤ 2 * w) : ∃ d', f_X2_linesOf hp sz ro q (nI k) = some (sz, hG hp sz w k d', sz + 1 + w) ∧ fok d' (fun i j => if j < w then Q (i * w + j) else 0) w k := by
  have key := eloopM (P := P) (f := fun s => f_X2_linesOf_L13 ro q sz s.1 s.2) (emb := hG hp sz w k) (d := fun _ => 0) (N := w) (fun i m => m / 20 = i ∧ m % 20 < w) (fun m => Q (m / 20 * w + m % 20)) ?_ ?_
  · obtain ⟨d', k1, k2, k3⟩ := key
    refine ⟨d', ?_, fun i j hi hj => ?_⟩
    · unfold f_X2_linesOf
      simp (disch := omega) only [Option.bind_some, Option.elim_some, Option.elim_none, Option.some.injEq, Sum.inl.injEq, Sum.inr.injEq, ↓reduceIte, m_side, lit_nI, lz_I, nI_add, pk_mul, pk_sub, nI_ge, nI_le, nI_lt, nI_nlt, gi_t, nI_clamp, nI_eq, pk_rem, Nat.zero_add, Nat.reduceAdd, Nat.reduceMul, Nat.reduceSub, Nat.reduceMod, Nat.reduceEqDiff, reduceCtorEq, Nat.one_ne_zero, Nat.zero_ne_one, he.w4, he.r4, he.f4, he.o4, he.w2, he.f2, he.o2, he.o0, he.p0, he.tm hP hB, he.pl hP hB, he.mi hP hB, he.rc hP hB, he.ng hB, nM_h, k1]
    · (try dsimp only)
      by_cases e : j < w
      · rw [if_pos e]
        have := k2 i (20 * i + j) hi ⟨by omega, by omega⟩
        rw [this, show (20 * i + j) / 20 = i by omega, show (20 * i + j) % 20 = j by omega]
      · rw [if_neg e, k3 _ (fun l hl => by omega), fL_z]
  · intro i d1 hi
    obtain ⟨f, f1, f2⟩ := (hQ.g (gro.ng (N := w) (k := k) (d := d1))).1
    have hr := row_lt hi (show 0 < w by omega)
    have hr2 : (i + 1) * w ≤ w * w := Nat.mul_le_mul (by omega) (Nat.le_refl w)
    rw [Nat.add_mul, Nat.one_mul] at hr2
    have hws : w * w ≤ 16 := by rcases hw with rfl | rfl <;> decide
    refine ⟨fun m => if m / 20 = i ∧ m % 20 < w then fL (Q (i * w + m % 20)) else d1 m, ?_, ?_, ?_⟩
    · have hc : cpJ (hG hp sz w k d1) q (nI (i * w)) (sz + 1 + i) (nI 0) (nI w) = some (hG hp sz w k (fun m => if m / 20 = i ∧ m % 20 < w then fL (Q (i * w + m % 20)) else d1 m)) := by
        unfold cpJ aJ
        rw [f1]
        show (match hG hp sz w k d1 (sz + 1 + i) with | some (.inl (1, n, .inr (.inl f))) => some (n, f) | _ => none).bind _ = _
        rw [hG_l hi]
        show (if _ then some _ else none) = _
        rw [nI_clamp (by omega), nI_clamp (by omega), nI_clamp (by omega), if_pos]
        · congr 1
          refine hG_up hi (fun j => ?_) (fun l j hl hne hj => ?_)
          · unfold va_cpy
            by_cases e : j < w
            · rw [if_pos (by omega), if_pos (show j < k by omega)]
              rw [show (20 * i + j) / 20 = i by omega, show (20 * i + j) % 20 = j by omega, if_pos ⟨rfl, e⟩, Nat.sub_zero]
              exact f2 _ (by omega)
            · rw [if_neg (by omega)]
              (try dsimp only)
              by_cases e2 : j < k
              · rw [if_pos e2, if_pos e2, if_neg (by omega)]
              · rw [if_neg e2, if_neg e2]
          · (try dsimp only)
            rw [if_neg (by omega)]
        · refine ⟨⟨nI_pos (by omega), nI_pos (by omega), nI_pos (by omega)⟩, ?_⟩
          (try dsimp only)
          omega
      unfold f_X2_linesOf_L13
      simp (disch := omega) only [Option.bind_some, Option.elim_some, Option.elim_none, Option.some.injEq, Sum.inl.injEq, Sum.inr.injEq, ↓reduceIte, m_side, lit_nI, lz_I, nI_add, pk_mul, pk_sub, nI_ge, nI_le, nI_lt, nI_nlt, gi_t, nI_clamp, nI_eq, pk_rem, Nat.zero_add, Nat.reduceAdd, Nat.reduceMul, Nat.reduceSub, Nat.reduceMod, Nat.reduceEqDiff, reduceCtorEq, Nat.one_ne_zero, Nat.zero_ne_one, fun d => (he.q w k d).w2, lR_h, hc]
    · rintro m ⟨m1, m2⟩
      (try dsimp only)
      rw [if_pos ⟨m1, m2⟩, m1]
    · intro m hm
      (try dsimp only)
      rw [if_neg hm]
  · intro d1
    unfold f_X2_linesOf_L13
    simp (disch := omega) only [Option.bind_some, Option.elim_some, Option.elim_none, Option.some.injEq, Sum.inl.injEq, Sum.inr.injEq, ↓reduceIte, m_side, lit_nI, lz_I, nI_add, pk_mul, pk_sub, nI_ge, nI_le, nI_lt, nI_nlt, gi_t, nI_clamp, nI_eq, pk_rem, Nat.zero_add, Nat.reduceAdd, Nat.reduceMul, Nat.reduceSub, Nat.reduceMod, Nat.reduceEqDiff, reduceCtorEq, Nat.one_ne_zero, Nat.zero_ne_one, fun d => (he.q w k d).w2]
/-- elimination on a new grid -/
theorem e_elim [NeZero P] (hP : 2 < P) (hB : P < 2 ^ 31) {hp : cH} {w so ro fo sz N k u : Nat} {d : Nat → Int64} {M : Mx P} (he : eV P w so ro fo hp sz) (hM : fok d M N k) (hN : N ≤ 9) (hk : k ≤ 16) (hu : u ≤ k) : ∃ hp' g', f_X2_eliminate (hG hp sz N k d) ro sz (nI u) = some (nI (gj N M u).1, hp') ∧ gq hp' sz N k (gj N M u).2 g' ∧ (∀ i, i < N → g' i < sz + 1 + N) ∧ gro hp sz hp' (sz + 1 + N) := by
  obtain ⟨hp', g', e1, e2, e3, e4⟩ := t_elim hP hB (he.q N k d).R (gq_h hM) (by omega) (by omega) hu
  refine ⟨hp', g', e1, e2, fun i hi => ?_, ?_⟩
  · rcases e4 (g' i) (Or.inr ⟨i, hi, rfl⟩) with q | ⟨l, hl, q⟩
    · omega
    · have q2 : g' i = sz + 1 + l := q
      omega
  · refine ⟨fun b hb => ?_, by omega⟩
    rw [e3 b (fun q => ?_), hG_o (by omega)]
    rcases q with q | ⟨l, hl, q⟩
    · omega
    · have q2 : b = sz + 1 + l := q
      omega
end CGRID
