section CVEC
variable {P : Nat}
/-- loops over pairs that count them -/
theorem epair {Hh : Type} {emb : (Nat → Int64) → Hh} {f1 : Int32 × Int32 × Hh → Option ((Int32 × Int32 × Hh) ⊕ Hh)} {f2 : Nat → Int32 × Int32 × Hh → Option ((Int32 × Int32 × Hh) ⊕ (Int32 × Hh))} {d : Nat → Int64} (w o : Nat) (ho : o ≤ 1) (st : Nat → Nat) (h0 : st 0 = 0) (hst : ∀ i, i < w → st (i + 1) = st i + (w - i - o)) (Inv : Nat → (Nat → Int64) → Prop) (hi0 : Inv 0 d) (hout : ∀ i c d1, i < w → f1 (nI c, nI i, emb d1) = (itX (f2 i) (nI c, nI (i + o), emb d1)).bind fun r => some (.inl (r.1, nI (i + 1), r.2))) (step : ∀ (i j : Nat) (d1 : Nat → Int64), i + o ≤ j → j < w → Inv (st i + (j - i - o)) d1 → ∃ d2, f2 i (nI (st i + (j - i - o)), nI j, emb d1) = some (.inl (nI (st i + (j - i - o) + 1), nI (j + 1), emb d2)) ∧ Inv (st i + (j - i - o) + 1) d2) (stop2 : ∀ i c d1, i < w → f2 i (nI c, nI w, emb d1) = some (.inr (nI c, emb d1))) (stop1 : ∀ c d1, f1 (nI c, nI w, emb d1) = some (.inr (emb d1))) : ∃ d', itX f1 (nI 0, nI 0, emb d) = some (emb d') ∧ Inv (st w) d' := by
  have key := it_inv (f := f1) (fun i s => s.1 = nI (st i) ∧ s.2.1 = nI i ∧ ∃ d1, s.2.2 = emb d1 ∧ Inv (st i) d1) w (fun r => ∃ d', r = emb d' ∧ Inv (st w) d') ?_ ?_ (nI 0, nI 0, emb d) ⟨by rw [h0], rfl, d, rfl, by rw [h0]; exact hi0⟩
  · obtain ⟨r, k1, d', k2, k3⟩ := key
    exact ⟨d', by rw [k1, k2], k3⟩
  · rintro i ⟨c, i', z⟩ hi ⟨e1, e2, d1, e3, h1⟩
    dsimp only at e1 e2 e3
    subst e1
    subst e2
    subst e3
    have key := it_inv (f := f2 i) (fun k s => s.1 = nI (st i + k) ∧ s.2.1 = nI (i + o + k) ∧ ∃ d1, s.2.2 = emb d1 ∧ Inv (st i + k) d1) (w - i - o) (fun r => r.1 = nI (st (i + 1)) ∧ ∃ d', r.2 = emb d' ∧ Inv (st (i + 1)) d') ?_ ?_ (nI (st i), nI (i + o), emb d1) ⟨rfl, rfl, d1, rfl, h1⟩
    · obtain ⟨⟨c2, z2⟩, k1, k2, d2, k3, k4⟩ := key
      dsimp only at k2 k3
      subst k2
      subst k3
      exact ⟨(nI (st (i + 1)), nI (i + 1), emb d2), by rw [hout i (st i) d1 hi, k1, Option.bind_some], rfl, rfl, d2, rfl, k4⟩
    · rintro k ⟨c2, j2, z2⟩ hk ⟨e1, e2, d2, e3, g1⟩
      dsimp only at e1 e2 e3
      subst e1
      subst e2
      subst e3
      have hs := step i (i + o + k) d2 (by omega) (by omega)
      rw [show i + o + k - i - o = k by omega] at hs
      obtain ⟨d3, s1, s2⟩ := hs g1
      exact ⟨_, s1, rfl, rfl, d3, rfl, s2⟩
    · rintro ⟨c2, j2, z2⟩ ⟨e1, e2, d2, e3, g1⟩
      dsimp only at e1 e2 e3
      subst e1
      subst e2
      subst e3
      by_cases hio : i + o ≤ w
      · refine ⟨(nI (st i + (w - i - o)), emb d2), ?_, ?_, d2, rfl, ?_⟩
        · rw [show i + o + (w - i - o) = w by omega]
          exact stop2 i _ d2 hi
        · rw [hst i hi]
        · rw [hst i hi]
          exact g1
      · exfalso
        omega
  · rintro ⟨c, i', z⟩ ⟨e1, e2, d1, e3, h1⟩
    dsimp only at e1 e2 e3
    subst e1
    subst e2
    subst e3
    exact ⟨emb d1, stop1 _ d1, d1, rfl, h1⟩
theorem e_turned [NeZero P] (hP : 2 < P) (hB : P < 2 ^ 31) {hp : cH} {w so ro fo sz q : Nat} {Q : Nat → Fin P} (he : eV P w so ro fo hp sz) (hw : w = 3 ∨ w = 4) (hQ : vA hp sz q (w * w) Q) : ∃ hp', f_X2_turned hp sz ro q = some (sz, hp', sz + 1) ∧ vA hp' (sz + 1) sz (w * w) (trF w Q) ∧ gro hp sz hp' (sz + 1) := by
  have hws : w * w ≤ 16 := by rcases hw with rfl | rfl <;> decide
  have key := eloop2 (f1 := fun s => f_X2_turned_L14 ro q sz s.1 s.2) (f2 := fun i s => f_X2_turned_L25 ro q sz (nI i) s.1 s.2) (emb := hW hp sz (w * w)) (d := fun _ => 0) w w (fun i j => j * w + i) (fun i j i' j' a b c e z => (ij_inj hw j i j' i' b a e c z).symm) (fun i j => Q (i * w + j)) ?_ ?_ ?_ ?_
  · obtain ⟨d', k1, k2, -⟩ := key
    refine ⟨hW hp sz (w * w) d', ?_, vA_hW (vo_sq (v := fun j i => Q (i * w + j)) (by omega) (fun j i hj hi => k2 i j hi hj)), gro.nw⟩
    unfold f_X2_turned
    simp (disch := omega) only [Option.bind_some, Option.elim_some, Option.elim_none, Option.some.injEq, Sum.inl.injEq, Sum.inr.injEq, ↓reduceIte, m_side, lit_nI, lz_I, nI_add, pk_mul, pk_sub, nI_ge, nI_le, nI_lt, nI_nlt, gi_t, nI_clamp, nI_eq, pk_rem, Nat.zero_add, Nat.reduceAdd, Nat.reduceMul, Nat.reduceSub, Nat.reduceMod, Nat.reduceEqDiff, reduceCtorEq, Nat.one_ne_zero, Nat.zero_ne_one, he.w4, he.r4, he.f4, he.o4, he.w2, he.f2, he.o2, he.o0, he.p0, he.tm hP hB, he.pl hP hB, he.mi hP hB, he.rc hP hB, he.ng hB, nJ_h, k1]
  · intro i d1 hi
    unfold f_X2_turned_L14
    simp (disch := omega) only [Option.bind_some, Option.elim_some, Option.elim_none, Option.some.injEq, Sum.inl.injEq, Sum.inr.injEq, ↓reduceIte, m_side, lit_nI, lz_I, nI_add, pk_mul, pk_sub, nI_ge, nI_le, nI_lt, nI_nlt, gi_t, nI_clamp, nI_eq, pk_rem, Nat.zero_add, Nat.reduceAdd, Nat.reduceMul, Nat.reduceSub, Nat.reduceMod, Nat.reduceEqDiff, reduceCtorEq, Nat.one_ne_zero, Nat.zero_ne_one, fun n d => (he.h n d).w4, fun n d => (he.h n d).r4, fun n d => (he.h n d).f4, fun n d => (he.h n d).o4, fun n d => (he.h n d).w2, fun n d => (he.h n d).f2, fun n d => (he.h n d).o2, fun n d => (he.h n d).o0, fun n d => (he.h n d).p0, fun n d => (he.h n d).tm hP hB, fun n d => (he.h n d).pl hP hB, fun n d => (he.h n d).mi hP hB, fun n d => (he.h n d).rc hP hB, fun n d => (he.h n d).ng hB]
  · intro i j d1 hi hj
    have h1 := row_lt hi hj
    have h2 := row_lt hj hi
    unfold f_X2_turned_L25
    simp (disch := omega) only [Option.bind_some, Option.elim_some, Option.elim_none, Option.some.injEq, Sum.inl.injEq, Sum.inr.injEq, ↓reduceIte, m_side, lit_nI, lz_I, nI_add, pk_mul, pk_sub, nI_ge, nI_le, nI_lt, nI_nlt, gi_t, nI_clamp, nI_eq, pk_rem, Nat.zero_add, Nat.reduceAdd, Nat.reduceMul, Nat.reduceSub, Nat.reduceMod, Nat.reduceEqDiff, reduceCtorEq, Nat.one_ne_zero, Nat.zero_ne_one, fun n d => (he.h n d).w4, fun n d => (he.h n d).r4, fun n d => (he.h n d).f4, fun n d => (he.h n d).o4, fun n d => (he.h n d).w2, fun n d => (he.h n d).f2, fun n d => (he.h n d).o2, fun n d => (he.h n d).o0, fun n d => (he.h n d).p0, fun n d => (he.h n d).tm hP hB, fun n d => (he.h n d).pl hP hB, fun n d => (he.h n d).mi hP hB, fun n d => (he.h n d).rc hP hB, fun n d => (he.h n d).ng hB, hQ.ldh, sJ_h]
  · intro i d1 hi
    unfold f_X2_turned_L25
    simp (disch := omega) only [Option.bind_some, Option.elim_some, Option.elim_none, Option.some.injEq, Sum.inl.injEq, Sum.inr.injEq, ↓reduceIte, m_side, lit_nI, lz_I, nI_add, pk_mul, pk_sub, nI_ge, nI_le, nI_lt, nI_nlt, gi_t, nI_clamp, nI_eq, pk_rem, Nat.zero_add, Nat.reduceAdd, Nat.reduceMul, Nat.reduceSub, Nat.reduceMod, Nat.reduceEqDiff, reduceCtorEq, Nat.one_ne_zero, Nat.zero_ne_one, fun n d => (he.h n d).w4, fun n d => (he.h n d).r4, fun n d => (he.h n d).f4, fun n d => (he.h n d).o4, fun n d => (he.h n d).w2, fun n d => (he.h n d).f2, fun n d => (he.h n d).o2, fun n d => (he.h n d).o0, fun n d => (he.h n d).p0, fun n d => (he.h n d).tm hP hB, fun n d => (he.h n d).pl hP hB, fun n d => (he.h n d).mi hP hB, fun n d => (he.h n d).rc hP hB, fun n d => (he.h n d).ng hB]
  · intro d1
    unfold f_X2_turned_L14
    simp (disch := omega) only [Option.bind_some, Option.elim_some, Option.elim_none, Option.some.injEq, Sum.inl.injEq, Sum.inr.injEq, ↓reduceIte, m_side, lit_nI, lz_I, nI_add, pk_mul, pk_sub, nI_ge, nI_le, nI_lt, nI_nlt, gi_t, nI_clamp, nI_eq, pk_rem, Nat.zero_add, Nat.reduceAdd, Nat.reduceMul, Nat.reduceSub, Nat.reduceMod, Nat.reduceEqDiff, reduceCtorEq, Nat.one_ne_zero, Nat.zero_ne_one, fun n d => (he.h n d).w4, fun n d => (he.h n d).r4, fun n d => (he.h n d).f4, fun n d => (he.h n d).o4, fun n d => (he.h n d).w2, fun n d => (he.h n d).f2, fun n d => (he.h n d).o2, fun n d => (he.h n d).o0, fun n d => (he.h n d).p0, fun n d => (he.h n d).tm hP hB, fun n d => (he.h n d).pl hP hB, fun n d => (he.h n d).mi hP hB, fun n d => (he.h n d).rc hP hB, fun n d => (he.h n d).ng hB]
theorem e_product [NeZero P] (hP : 2 < P) (hB : P < 2 ^ 31) {hp : cH} {w so ro fo sz p q : Nat} {A B : Nat → Fin P} (he : eV P w so ro fo hp sz) (hw : w = 3 ∨ w = 4) (hA : vA hp sz p (w * w) A) (hQ : vA hp sz q (w * w) B) : ∃ hp', f_X2_product hp sz ro p q = some (sz, hp', sz + 1) ∧ vA hp' (sz + 1) sz (w * w) (prF w A B) ∧ gro hp sz hp' (sz + 1) := by
  have hws : w * w ≤ 16 := by rcases hw with rfl | rfl <;> decide
  have key := eloop2 (f1 := fun s => f_X2_product_L15 ro p q sz s.1 s.2) (f2 := fun i s => f_X2_product_L27 ro p q sz (nI i) s.1 s.2) (emb := hW hp sz (w * w)) (d := fun _ => 0) w w (fun i j => i * w + j) (ij_inj hw) (fun i j => sF (fun k => A (i * w + k) * B (k * w + j)) w) ?_ ?_ ?_ ?_
  · obtain ⟨d', k1, k2, -⟩ := key
    refine ⟨hW hp sz (w * w) d', ?_, vA_hW (vo_sq (v := fun i j => sF (fun k => A (i * w + k) * B (k * w + j)) w) (by omega) k2), gro.nw⟩
    unfold f_X2_product
    simp (disch := omega) only [Option.bind_some, Option.elim_some, Option.elim_none, Option.some.injEq, Sum.inl.injEq, Sum.inr.injEq, ↓reduceIte, m_side, lit_nI, lz_I, nI_add, pk_mul, pk_sub, nI_ge, nI_le, nI_lt, nI_nlt, gi_t, nI_clamp, nI_eq, pk_rem, Nat.zero_add, Nat.reduceAdd, Nat.reduceMul, Nat.reduceSub, Nat.reduceMod, Nat.reduceEqDiff, reduceCtorEq, Nat.one_ne_zero, Nat.zero_ne_one, he.w4, he.r4, he.f4, he.o4, he.w2, he.f2, he.o2, he.o0, he.p0, he.tm hP hB, he.pl hP hB, he.mi hP hB, he.rc hP hB, he.ng hB, nJ_h, k1]
  · intro i d1 hi
    unfold f_X2_product_L15
    simp (disch := omega) only [Option.bind_some, Option.elim_some, Option.elim_none, Option.some.injEq, Sum.inl.injEq, Sum.inr.injEq, ↓reduceIte, m_side, lit_nI, lz_I, nI_add, pk_mul, pk_sub, nI_ge, nI_le, nI_lt, nI_nlt, gi_t, nI_clamp, nI_eq, pk_rem, Nat.zero_add, Nat.reduceAdd, Nat.reduceMul, Nat.reduceSub, Nat.reduceMod, Nat.reduceEqDiff, reduceCtorEq, Nat.one_ne_zero, Nat.zero_ne_one, fun n d => (he.h n d).w4, fun n d => (he.h n d).r4, fun n d => (he.h n d).f4, fun n d => (he.h n d).o4, fun n d => (he.h n d).w2, fun n d => (he.h n d).f2, fun n d => (he.h n d).o2, fun n d => (he.h n d).o0, fun n d => (he.h n d).p0, fun n d => (he.h n d).tm hP hB, fun n d => (he.h n d).pl hP hB, fun n d => (he.h n d).mi hP hB, fun n d => (he.h n d).rc hP hB, fun n d => (he.h n d).ng hB]
  · intro i j d1 hi hj
    have h1 := row_lt hi hj
    have key2 := loopS (f := fun s => f_X2_product_L42 (hW hp sz (w * w) d1) ro p q (nI i) (nI j) s.1 s.2) w 0 (fun k => A (i * w + k) * B (k * w + j)) ?_ ?_
    · have e : (0 : Fin P) + sF (fun k => A (i * w + k) * B (k * w + j)) w = sF (fun k => A (i * w + k) * B (k * w + j)) w := by grind
      rw [e] at key2
      unfold f_X2_product_L27
      simp (disch := omega) only [Option.bind_some, Option.elim_some, Option.elim_none, Option.some.injEq, Sum.inl.injEq, Sum.inr.injEq, ↓reduceIte, m_side, lit_nI, lz_I, nI_add, pk_mul, pk_sub, nI_ge, nI_le, nI_lt, nI_nlt, gi_t, nI_clamp, nI_eq, pk_rem, Nat.zero_add, Nat.reduceAdd, Nat.reduceMul, Nat.reduceSub, Nat.reduceMod, Nat.reduceEqDiff, reduceCtorEq, Nat.one_ne_zero, Nat.zero_ne_one, fun n d => (he.h n d).w4, fun n d => (he.h n d).r4, fun n d => (he.h n d).f4, fun n d => (he.h n d).o4, fun n d => (he.h n d).w2, fun n d => (he.h n d).f2, fun n d => (he.h n d).o2, fun n d => (he.h n d).o0, fun n d => (he.h n d).p0, fun n d => (he.h n d).tm hP hB, fun n d => (he.h n d).pl hP hB, fun n d => (he.h n d).mi hP hB, fun n d => (he.h n d).rc hP hB, fun n d => (he.h n d).ng hB, lz64 (P := P), key2, sJ_h]
    · intro k c hk
      have h2 := row_lt hi hk
      have h3 := row_lt hk hj
      unfold f_X2_product_L42
      simp (disch := omega) only [Option.bind_some, Option.elim_some, Option.elim_none, Option.some.injEq, Sum.inl.injEq, Sum.inr.injEq, ↓reduceIte, m_side, lit_nI, lz_I, nI_add, pk_mul, pk_sub, nI_ge, nI_le, nI_lt, nI_nlt, gi_t, nI_clamp, nI_eq, pk_rem, Nat.zero_add, Nat.reduceAdd, Nat.reduceMul, Nat.reduceSub, Nat.reduceMod, Nat.reduceEqDiff, reduceCtorEq, Nat.one_ne_zero, Nat.zero_ne_one, fun n d => (he.h n d).w4, fun n d => (he.h n d).r4, fun n d => (he.h n d).f4, fun n d => (he.h n d).o4, fun n d => (he.h n d).w2, fun n d => (he.h n d).f2, fun n d => (he.h n d).o2, fun n d => (he.h n d).o0, fun n d => (he.h n d).p0, fun n d => (he.h n d).tm hP hB, fun n d => (he.h n d).pl hP hB, fun n d => (he.h n d).mi hP hB, fun n d => (he.h n d).rc hP hB, fun n d => (he.h n d).ng hB, hA.ldh, hQ.ldh]
    · intro c
      unfold f_X2_product_L42
      simp (disch := omega) only [Option.bind_some, Option.elim_some, Option.elim_none, Option.some.injEq, Sum.inl.injEq, Sum.inr.injEq, ↓reduceIte, m_side, lit_nI, lz_I, nI_add, pk_mul, pk_sub, nI_ge, nI_le, nI_lt, nI_nlt, gi_t, nI_clamp, nI_eq, pk_rem, Nat.zero_add, Nat.reduceAdd, Nat.reduceMul, Nat.reduceSub, Nat.reduceMod, Nat.reduceEqDiff, reduceCtorEq, Nat.one_ne_zero, Nat.zero_ne_one, fun n d => (he.h n d).w4, fun n d => (he.h n d).r4, fun n d => (he.h n d).f4, fun n d => (he.h n d).o4, fun n d => (he.h n d).w2, fun n d => (he.h n d).f2, fun n d => (he.h n d).o2, fun n d => (he.h n d).o0, fun n d => (he.h n d).p0, fun n d => (he.h n d).tm hP hB, fun n d => (he.h n d).pl hP hB, fun n d => (he.h n d).mi hP hB, fun n d => (he.h n d).rc hP hB, fun n d => (he.h n d).ng hB]
  · intro i d1 hi
    unfold f_X2_product_L27
    simp (disch := omega) only [Option.bind_some, Option.elim_some, Option.elim_none, Option.some.injEq, Sum.inl.injEq, Sum.inr.injEq, ↓reduceIte, m_side, lit_nI, lz_I, nI_add, pk_mul, pk_sub, nI_ge, nI_le, nI_lt, nI_nlt, gi_t, nI_clamp, nI_eq, pk_rem, Nat.zero_add, Nat.reduceAdd, Nat.reduceMul, Nat.reduceSub, Nat.reduceMod, Nat.reduceEqDiff, reduceCtorEq, Nat.one_ne_zero, Nat.zero_ne_one, fun n d => (he.h n d).w4, fun n d => (he.h n d).r4, fun n d => (he.h n d).f4, fun n d => (he.h n d).o4, fun n d => (he.h n d).w2, fun n d => (he.h n d).f2, fun n d => (he.h n d).o2, fun n d => (he.h n d).o0, fun n d => (he.h n d).p0, fun n d => (he.h n d).tm hP hB, fun n d => (he.h n d).pl hP hB, fun n d => (he.h n d).mi hP hB, fun n d => (he.h n d).rc hP hB, fun n d => (he.h n d).ng hB]
  · intro d1
    unfold f_X2_product_L15
    simp (disch := omega) only [Option.bind_some, Option.elim_some, Option.elim_none, Option.some.injEq, Sum.inl.injEq, Sum.inr.injEq, ↓reduceIte, m_side, lit_nI, lz_I, nI_add, pk_mul, pk_sub, nI_ge, nI_le, nI_lt, nI_nlt, gi_t, nI_clamp, nI_eq, pk_rem, Nat.zero_add, Nat.reduceAdd, Nat.reduceMul, Nat.reduceSub, Nat.reduceMod, Nat.reduceEqDiff, reduceCtorEq, Nat.one_ne_zero, Nat.zero_ne_one, fun n d => (he.h n d).w4, fun n d => (he.h n d).r4, fun n d => (he.h n d).f4, fun n d => (he.h n d).o4, fun n d => (he.h n d).w2, fun n d => (he.h n d).f2, fun n d => (he.h n d).o2, fun n d => (he.h n d).o0, fun n d => (he.h n d).p0, fun n d => (he.h n d).tm hP hB, fun n d => (he.h n d).pl hP hB, fun n d => (he.h n d).mi hP hB, fun n d => (he.h n d).rc hP hB, fun n d => (he.h n d).ng hB]
/-- the row of the dual, of three or six numbers -/
def flF [NeZero P] (n : Nat) (L : Nat → Fin P) : Nat → Fin P := fun k => if k % 3 = 1 then - L (n - 1 - k) else L (n - 1 - k)
theorem e_flipped [NeZero P] (hP : 2 < P) (hB : P < 2 ^ 31) {hp : cH} {w so ro fo sz a n : Nat} {L : Nat → Fin P} (he : eV P w so ro fo hp sz) (hn : n ≤ 64) (hL : vA hp sz a n L) : ∃ hp', f_X4_flipped hp sz so a = some (sz, hp', sz + 1) ∧ vA hp' (sz + 1) sz n (flF n L) ∧ gro hp sz hp' (sz + 1) := by
  have key := eloopP (f := fun s => f_X4_flipped_L7 so a sz s.1 s.2) (emb := hW hp sz n) (d := fun _ => 0) n (flF n L) ?_ ?_
  · obtain ⟨d', k1, k2⟩ := key
    refine ⟨hW hp sz n d', ?_, vA_hW k2, gro.nw⟩
    unfold f_X4_flipped
    simp (disch := omega) only [Option.bind_some, Option.elim_some, Option.elim_none, Option.some.injEq, Sum.inl.injEq, Sum.inr.injEq, ↓reduceIte, m_side, lit_nI, lz_I, nI_add, pk_mul, pk_sub, nI_ge, nI_le, nI_lt, nI_nlt, gi_t, nI_clamp, nI_eq, pk_rem, Nat.zero_add, Nat.reduceAdd, Nat.reduceMul, Nat.reduceSub, Nat.reduceMod, Nat.reduceEqDiff, reduceCtorEq, Nat.one_ne_zero, Nat.zero_ne_one, hL.len, nJ_h, k1]
  · intro k d1 hk
    unfold f_X4_flipped_L7 flF
    by_cases e : k % 3 = 1
    · simp (disch := omega) only [Option.bind_some, Option.elim_some, Option.elim_none, Option.some.injEq, Sum.inl.injEq, Sum.inr.injEq, ↓reduceIte, m_side, lit_nI, lz_I, nI_add, pk_mul, pk_sub, nI_ge, nI_le, nI_lt, nI_nlt, gi_t, nI_clamp, nI_eq, pk_rem, Nat.zero_add, Nat.reduceAdd, Nat.reduceMul, Nat.reduceSub, Nat.reduceMod, Nat.reduceEqDiff, reduceCtorEq, Nat.one_ne_zero, Nat.zero_ne_one, fun n d => (he.h n d).w4, fun n d => (he.h n d).r4, fun n d => (he.h n d).f4, fun n d => (he.h n d).o4, fun n d => (he.h n d).w2, fun n d => (he.h n d).f2, fun n d => (he.h n d).o2, fun n d => (he.h n d).o0, fun n d => (he.h n d).p0, fun n d => (he.h n d).tm hP hB, fun n d => (he.h n d).pl hP hB, fun n d => (he.h n d).mi hP hB, fun n d => (he.h n d).rc hP hB, fun n d => (he.h n d).ng hB, hL.lenh, hL.ldh, e, sJ_h]
    · simp (disch := omega) only [Option.bind_some, Option.elim_some, Option.elim_none, Option.some.injEq, Sum.inl.injEq, Sum.inr.injEq, ↓reduceIte, m_side, lit_nI, lz_I, nI_add, pk_mul, pk_sub, nI_ge, nI_le, nI_lt, nI_nlt, gi_t, nI_clamp, nI_eq, pk_rem, Nat.zero_add, Nat.reduceAdd, Nat.reduceMul, Nat.reduceSub, Nat.reduceMod, Nat.reduceEqDiff, reduceCtorEq, Nat.one_ne_zero, Nat.zero_ne_one, fun n d => (he.h n d).w4, fun n d => (he.h n d).r4, fun n d => (he.h n d).f4, fun n d => (he.h n d).o4, fun n d => (he.h n d).w2, fun n d => (he.h n d).f2, fun n d => (he.h n d).o2, fun n d => (he.h n d).o0, fun n d => (he.h n d).p0, fun n d => (he.h n d).tm hP hB, fun n d => (he.h n d).pl hP hB, fun n d => (he.h n d).mi hP hB, fun n d => (he.h n d).rc hP hB, fun n d => (he.h n d).ng hB, hL.lenh, hL.ldh, e, sJ_h]
  · intro d1
    unfold f_X4_flipped_L7
    simp (disch := omega) only [Option.bind_some, Option.elim_some, Option.elim_none, Option.some.injEq, Sum.inl.injEq, Sum.inr.injEq, ↓reduceIte, m_side, lit_nI, lz_I, nI_add, pk_mul, pk_sub, nI_ge, nI_le, nI_lt, nI_nlt, gi_t, nI_clamp, nI_eq, pk_rem, Nat.zero_add, Nat.reduceAdd, Nat.reduceMul, Nat.reduceSub, Nat.reduceMod, Nat.reduceEqDiff, reduceCtorEq, Nat.one_ne_zero, Nat.zero_ne_one, hL.lenh]
theorem e_wedge [NeZero P] (hP : 2 < P) (hB : P < 2 ^ 31) {hp : cH} {w so ro fo sz a b : Nat} {x y : Nat → Fin P} (he : eV P w so ro fo hp sz) (hw : w = 3 ∨ w = 4) (hx : vA hp sz a w x) (hy : vA hp sz b w y) : ∃ hp', f_X4_wedge hp sz so a b = some (sz, hp', sz + 1) ∧ vA hp' (sz + 1) sz (swi w w) (wgF w x y) ∧ gro hp sz hp' (sz + 1) := by
  have hs := swi_w hw
  have key := epair (f1 := fun s => f_X4_wedge_L22 so a b sz s.1 s.2.1 s.2.2) (f2 := fun i s => f_X4_wedge_L37 so a b sz (nI i) s.1 s.2.1 s.2.2) (emb := hW hp sz (swi w w)) (d := fun _ => 0) w 1 (by omega) (swi w) rfl (fun i hi => swi_s hw hi) (fun c d => vo d c (wgF w x y)) (fun j hj => by omega) ?_ ?_ ?_ ?_
  · obtain ⟨d', k1, k2⟩ := key
    refine ⟨hW hp sz (swi w w) d', ?_, vA_hW k2, gro.nw⟩
    have e1 : nI (w * (w - 1)) / nI 2 = nI (swi w w) := by
      rw [pk_div (by rcases hw with rfl | rfl <;> decide) (by decide) (by decide), hs.1]
    unfold f_X4_wedge
    simp (disch := omega) only [Option.bind_some, Option.elim_some, Option.elim_none, Option.some.injEq, Sum.inl.injEq, Sum.inr.injEq, ↓reduceIte, m_side, lit_nI, lz_I, nI_add, pk_mul, pk_sub, nI_ge, nI_le, nI_lt, nI_nlt, gi_t, nI_clamp, nI_eq, pk_rem, Nat.zero_add, Nat.reduceAdd, Nat.reduceMul, Nat.reduceSub, Nat.reduceMod, Nat.reduceEqDiff, reduceCtorEq, Nat.one_ne_zero, Nat.zero_ne_one, he.w4, he.r4, he.f4, he.o4, he.w2, he.f2, he.o2, he.o0, he.p0, he.tm hP hB, he.pl hP hB, he.mi hP hB, he.rc hP hB, he.ng hB, e1, nJ_h, k1]
  · intro i c d1 hi
    unfold f_X4_wedge_L22
    simp (disch := omega) only [Option.bind_some, Option.elim_some, Option.elim_none, Option.some.injEq, Sum.inl.injEq, Sum.inr.injEq, ↓reduceIte, m_side, lit_nI, lz_I, nI_add, pk_mul, pk_sub, nI_ge, nI_le, nI_lt, nI_nlt, gi_t, nI_clamp, nI_eq, pk_rem, Nat.zero_add, Nat.reduceAdd, Nat.reduceMul, Nat.reduceSub, Nat.reduceMod, Nat.reduceEqDiff, reduceCtorEq, Nat.one_ne_zero, Nat.zero_ne_one, fun n d => (he.h n d).w4, fun n d => (he.h n d).r4, fun n d => (he.h n d).f4, fun n d => (he.h n d).o4, fun n d => (he.h n d).w2, fun n d => (he.h n d).f2, fun n d => (he.h n d).o2, fun n d => (he.h n d).o0, fun n d => (he.h n d).p0, fun n d => (he.h n d).tm hP hB, fun n d => (he.h n d).pl hP hB, fun n d => (he.h n d).mi hP hB, fun n d => (he.h n d).rc hP hB, fun n d => (he.h n d).ng hB]
  · intro i j d1 hij hj hv
    have hp2 := wIJ hw (show i < j by omega) hj
    refine ⟨vp_updL d1 (swi w i + (j - i - 1)) (fL (wgF w x y (swi w i + (j - i - 1)))), ?_, ?_⟩
    · have e2 : wgF w x y (swi w i + (j - i - 1)) = x i * y j - x j * y i := by
        unfold wgF bkt
        rw [hp2.1, hp2.2.1]
      rw [e2]
      unfold f_X4_wedge_L37
      simp (disch := omega) only [Option.bind_some, Option.elim_some, Option.elim_none, Option.some.injEq, Sum.inl.injEq, Sum.inr.injEq, ↓reduceIte, m_side, lit_nI, lz_I, nI_add, pk_mul, pk_sub, nI_ge, nI_le, nI_lt, nI_nlt, gi_t, nI_clamp, nI_eq, pk_rem, Nat.zero_add, Nat.reduceAdd, Nat.reduceMul, Nat.reduceSub, Nat.reduceMod, Nat.reduceEqDiff, reduceCtorEq, Nat.one_ne_zero, Nat.zero_ne_one, fun n d => (he.h n d).w4, fun n d => (he.h n d).r4, fun n d => (he.h n d).f4, fun n d => (he.h n d).o4, fun n d => (he.h n d).w2, fun n d => (he.h n d).f2, fun n d => (he.h n d).o2, fun n d => (he.h n d).o0, fun n d => (he.h n d).p0, fun n d => (he.h n d).tm hP hB, fun n d => (he.h n d).pl hP hB, fun n d => (he.h n d).mi hP hB, fun n d => (he.h n d).rc hP hB, fun n d => (he.h n d).ng hB, hx.ldh, hy.ldh, sJ_h]
    · intro k hk
      (try dsimp only)
      by_cases e : k = swi w i + (j - i - 1)
      · rw [e, pk_uLs]
      · rw [pk_uLn e]
        exact hv k (by omega)
  · intro i c d1 hi
    unfold f_X4_wedge_L37
    simp (disch := omega) only [Option.bind_some, Option.elim_some, Option.elim_none, Option.some.injEq, Sum.inl.injEq, Sum.inr.injEq, ↓reduceIte, m_side, lit_nI, lz_I, nI_add, pk_mul, pk_sub, nI_ge, nI_le, nI_lt, nI_nlt, gi_t, nI_clamp, nI_eq, pk_rem, Nat.zero_add, Nat.reduceAdd, Nat.reduceMul, Nat.reduceSub, Nat.reduceMod, Nat.reduceEqDiff, reduceCtorEq, Nat.one_ne_zero, Nat.zero_ne_one, fun n d => (he.h n d).w4, fun n d => (he.h n d).r4, fun n d => (he.h n d).f4, fun n d => (he.h n d).o4, fun n d => (he.h n d).w2, fun n d => (he.h n d).f2, fun n d => (he.h n d).o2, fun n d => (he.h n d).o0, fun n d => (he.h n d).p0, fun n d => (he.h n d).tm hP hB, fun n d => (he.h n d).pl hP hB, fun n d => (he.h n d).mi hP hB, fun n d => (he.h n d).rc hP hB, fun n d => (he.h n d).ng hB]
  · intro c d1
    unfold f_X4_wedge_L22
    simp (disch := omega) only [Option.bind_some, Option.elim_some, Option.elim_none, Option.some.injEq, Sum.inl.injEq, Sum.inr.injEq, ↓reduceIte, m_side, lit_nI, lz_I, nI_add, pk_mul, pk_sub, nI_ge, nI_le, nI_lt, nI_nlt, gi_t, nI_clamp, nI_eq, pk_rem, Nat.zero_add, Nat.reduceAdd, Nat.reduceMul, Nat.reduceSub, Nat.reduceMod, Nat.reduceEqDiff, reduceCtorEq, Nat.one_ne_zero, Nat.zero_ne_one, fun n d => (he.h n d).w4, fun n d => (he.h n d).r4, fun n d => (he.h n d).f4, fun n d => (he.h n d).o4, fun n d => (he.h n d).w2, fun n d => (he.h n d).f2, fun n d => (he.h n d).o2, fun n d => (he.h n d).o0, fun n d => (he.h n d).p0, fun n d => (he.h n d).tm hP hB, fun n d => (he.h n d).pl hP hB, fun n d => (he.h n d).mi hP hB, fun n d => (he.h n d).rc hP hB, fun n d => (he.h n d).ng hB]
/-- the square of a wedge -/
def skF [NeZero P] (w : Nat) (L : Nat → Fin P) (i j : Nat) : Fin P := if i < j then L (swi w i + (j - i - 1)) else if j < i then - L (swi w j + (i - j - 1)) else 0
theorem e_skew [NeZero P] (hP : 2 < P) (hB : P < 2 ^ 31) {hp : cH} {w so ro fo sz a : Nat} {L : Nat → Fin P} (he : eV P w so ro fo hp sz) (hw : w = 3 ∨ w = 4) (hL : vA hp sz a (swi w w) L) : ∃ hp', f_X4_skew hp sz so a = some (sz, hp', sz + 1) ∧ vA hp' (sz + 1) sz (w * w) (fun m => skF w L (m / w) (m % w)) ∧ gro hp sz hp' (sz + 1) := by
  have hs := swi_w hw
  have hws : w * w ≤ 16 := by rcases hw with rfl | rfl <;> decide
  have key := epair (f1 := fun s => f_X4_skew_L17 so a sz s.1 s.2.1 s.2.2) (f2 := fun i s => f_X4_skew_L32 so a sz (nI i) s.1 s.2.1 s.2.2) (emb := hW hp sz (w * w)) (d := fun _ => 0) w 1 (by omega) (swi w) rfl (fun i hi => swi_s hw hi) (fun c d => (∀ i, i < w → d (i * w + i) = fL (0 : Fin P)) ∧ ∀ i j, i < j → j < w → swi w i + (j - i - 1) < c → d (i * w + j) = fL (L (swi w i + (j - i - 1))) ∧ d (j * w + i) = fL (- L (swi w i + (j - i - 1)))) ⟨fun i hi => fL_z.symm, fun i j _ _ hc => by omega⟩ ?_ ?_ ?_ ?_
  · obtain ⟨d', k1, k2, k3⟩ := key
    refine ⟨hW hp sz (w * w) d', ?_, vA_hW (vo_sq (v := skF w L) (by omega) (fun i j hi hj => ?_)), gro.nw⟩
    · unfold f_X4_skew
      simp (disch := omega) only [Option.bind_some, Option.elim_some, Option.elim_none, Option.some.injEq, Sum.inl.injEq, Sum.inr.injEq, ↓reduceIte, m_side, lit_nI, lz_I, nI_add, pk_mul, pk_sub, nI_ge, nI_le, nI_lt, nI_nlt, gi_t, nI_clamp, nI_eq, pk_rem, Nat.zero_add, Nat.reduceAdd, Nat.reduceMul, Nat.reduceSub, Nat.reduceMod, Nat.reduceEqDiff, reduceCtorEq, Nat.one_ne_zero, Nat.zero_ne_one, he.w4, he.r4, he.f4, he.o4, he.w2, he.f2, he.o2, he.o0, he.p0, he.tm hP hB, he.pl hP hB, he.mi hP hB, he.rc hP hB, he.ng hB, nJ_h, k1]
    · unfold skF
      rcases Nat.lt_trichotomy i j with c | c | c
      · rw [if_pos c]
        exact (k3 i j c hj (wIJ hw c hj).2.2).1
      · rw [if_neg (by omega), if_neg (by omega), c]
        exact k2 j hj
      · rw [if_neg (by omega), if_pos c]
        exact (k3 j i c hi (wIJ hw c hi).2.2).2
  · intro i c d1 hi
    unfold f_X4_skew_L17
    simp (disch := omega) only [Option.bind_some, Option.elim_some, Option.elim_none, Option.some.injEq, Sum.inl.injEq, Sum.inr.injEq, ↓reduceIte, m_side, lit_nI, lz_I, nI_add, pk_mul, pk_sub, nI_ge, nI_le, nI_lt, nI_nlt, gi_t, nI_clamp, nI_eq, pk_rem, Nat.zero_add, Nat.reduceAdd, Nat.reduceMul, Nat.reduceSub, Nat.reduceMod, Nat.reduceEqDiff, reduceCtorEq, Nat.one_ne_zero, Nat.zero_ne_one, fun n d => (he.h n d).w4, fun n d => (he.h n d).r4, fun n d => (he.h n d).f4, fun n d => (he.h n d).o4, fun n d => (he.h n d).w2, fun n d => (he.h n d).f2, fun n d => (he.h n d).o2, fun n d => (he.h n d).o0, fun n d => (he.h n d).p0, fun n d => (he.h n d).tm hP hB, fun n d => (he.h n d).pl hP hB, fun n d => (he.h n d).mi hP hB, fun n d => (he.h n d).rc hP hB, fun n d => (he.h n d).ng hB]
  · intro i j d1 hij hj hv
    have hp2 := wIJ hw (show i < j by omega) hj
    have r1 := row_lt (show i < w by omega) hj
    have r2 := row_lt hj (show i < w by omega)
    refine ⟨vp_updL (vp_updL d1 (i * w + j) (fL (L (swi w i + (j - i - 1))))) (j * w + i) (fL (- L (swi w i + (j - i - 1)))), ?_, ?_, ?_⟩
    · unfold f_X4_skew_L32
      simp (disch := omega) only [Option.bind_some, Option.elim_some, Option.elim_none, Option.some.injEq, Sum.inl.injEq, Sum.inr.injEq, ↓reduceIte, m_side, lit_nI, lz_I, nI_add, pk_mul, pk_sub, nI_ge, nI_le, nI_lt, nI_nlt, gi_t, nI_clamp, nI_eq, pk_rem, Nat.zero_add, Nat.reduceAdd, Nat.reduceMul, Nat.reduceSub, Nat.reduceMod, Nat.reduceEqDiff, reduceCtorEq, Nat.one_ne_zero, Nat.zero_ne_one, fun n d => (he.h n d).w4, fun n d => (he.h n d).r4, fun n d => (he.h n d).f4, fun n d => (he.h n d).o4, fun n d => (he.h n d).w2, fun n d => (he.h n d).f2, fun n d => (he.h n d).o2, fun n d => (he.h n d).o0, fun n d => (he.h n d).p0, fun n d => (he.h n d).tm hP hB, fun n d => (he.h n d).pl hP hB, fun n d => (he.h n d).mi hP hB, fun n d => (he.h n d).rc hP hB, fun n d => (he.h n d).ng hB, hL.ldh, sJ_h]
    · intro k hk
      have n1 : k * w + k ≠ j * w + i := fun e => by have := ij_inj hw k k j i hk hk hj (by omega) e; omega
      have n2 : k * w + k ≠ i * w + j := fun e => by have := ij_inj hw k k i j hk hk (by omega) hj e; omega
      rw [pk_uLn n1, pk_uLn n2]
      exact hv.1 k hk
    · intro a b hab hb hc
      by_cases e : a = i ∧ b = j
      · obtain ⟨rfl, rfl⟩ := e
        have n1 : a * w + b ≠ b * w + a := fun e => by have := ij_inj hw a b b a (by omega) hb hb (by omega) e; omega
        rw [pk_uLs, pk_uLn n1, pk_uLs]
        exact ⟨rfl, rfl⟩
      · have n1 : a * w + b ≠ j * w + i := fun q => by have := ij_inj hw a b j i (by omega) hb hj (by omega) q; omega
        have n2 : a * w + b ≠ i * w + j := fun q => e (ij_inj hw a b i j (by omega) hb (by omega) hj q)
        have n3 : b * w + a ≠ j * w + i := fun q => by have := ij_inj hw b a j i hb (by omega) hj (by omega) q; omega
        have n4 : b * w + a ≠ i * w + j := fun q => by have := ij_inj hw b a i j hb (by omega) (by omega) hj q; omega
        rw [pk_uLn n1, pk_uLn n2, pk_uLn n3, pk_uLn n4]
        refine hv.2 a b hab hb ?_
        have hpp := wIJ hw hab hb
        rcases Nat.lt_or_ge (swi w a + (b - a - 1)) (swi w i + (j - i - 1)) with c | c
        · exact c
        · exfalso
          have e5 : swi w a + (b - a - 1) = swi w i + (j - i - 1) := by omega
          rw [e5, hp2.1] at hpp
          rw [hp2.2.1] at hpp
          exact e ⟨hpp.1.symm, hpp.2.1.symm⟩
  · intro i c d1 hi
    unfold f_X4_skew_L32
    simp (disch := omega) only [Option.bind_some, Option.elim_some, Option.elim_none, Option.some.injEq, Sum.inl.injEq, Sum.inr.injEq, ↓reduceIte, m_side, lit_nI, lz_I, nI_add, pk_mul, pk_sub, nI_ge, nI_le, nI_lt, nI_nlt, gi_t, nI_clamp, nI_eq, pk_rem, Nat.zero_add, Nat.reduceAdd, Nat.reduceMul, Nat.reduceSub, Nat.reduceMod, Nat.reduceEqDiff, reduceCtorEq, Nat.one_ne_zero, Nat.zero_ne_one, fun n d => (he.h n d).w4, fun n d => (he.h n d).r4, fun n d => (he.h n d).f4, fun n d => (he.h n d).o4, fun n d => (he.h n d).w2, fun n d => (he.h n d).f2, fun n d => (he.h n d).o2, fun n d => (he.h n d).o0, fun n d => (he.h n d).p0, fun n d => (he.h n d).tm hP hB, fun n d => (he.h n d).pl hP hB, fun n d => (he.h n d).mi hP hB, fun n d => (he.h n d).rc hP hB, fun n d => (he.h n d).ng hB]
  · intro c d1
    unfold f_X4_skew_L17
    simp (disch := omega) only [Option.bind_some, Option.elim_some, Option.elim_none, Option.some.injEq, Sum.inl.injEq, Sum.inr.injEq, ↓reduceIte, m_side, lit_nI, lz_I, nI_add, pk_mul, pk_sub, nI_ge, nI_le, nI_lt, nI_nlt, gi_t, nI_clamp, nI_eq, pk_rem, Nat.zero_add, Nat.reduceAdd, Nat.reduceMul, Nat.reduceSub, Nat.reduceMod, Nat.reduceEqDiff, reduceCtorEq, Nat.one_ne_zero, Nat.zero_ne_one, fun n d => (he.h n d).w4, fun n d => (he.h n d).r4, fun n d => (he.h n d).f4, fun n d => (he.h n d).o4, fun n d => (he.h n d).w2, fun n d => (he.h n d).f2, fun n d => (he.h n d).o2, fun n d => (he.h n d).o0, fun n d => (he.h n d).p0, fun n d => (he.h n d).tm hP hB, fun n d => (he.h n d).pl hP hB, fun n d => (he.h n d).mi hP hB, fun n d => (he.h n d).rc hP hB, fun n d => (he.h n d).ng hB]
theorem e_lineOf [NeZero P] (hP : 2 < P) (hB : P < 2 ^ 31) {hp : cH} {w so ro fo sz q i : Nat} {Q : Nat → Fin P} (he : eV P w so ro fo hp sz) (hw : w = 3 ∨ w = 4) (hQ : vA hp sz q (w * w) Q) (hi : i < w) (c : Fin P) : ∃ hp', f_X4_lineOf hp sz so q (nI i) (fL c) = some (sz, hp', sz + 1) ∧ vA hp' (sz + 1) sz w (fun j => c * Q (i * w + j)) ∧ gro hp sz hp' (sz + 1) := by
  have hws : w * w ≤ 16 := by rcases hw with rfl | rfl <;> decide
  have key := eloopP (f := fun s => f_X4_lineOf_L11 so q (nI i) (fL c) sz s.1 s.2) (emb := hW hp sz w) (d := fun _ => 0) w (fun j => c * Q (i * w + j)) ?_ ?_
  · obtain ⟨d', k1, k2⟩ := key
    refine ⟨hW hp sz w d', ?_, vA_hW k2, gro.nw⟩
    unfold f_X4_lineOf
    simp (disch := omega) only [Option.bind_some, Option.elim_some, Option.elim_none, Option.some.injEq, Sum.inl.injEq, Sum.inr.injEq, ↓reduceIte, m_side, lit_nI, lz_I, nI_add, pk_mul, pk_sub, nI_ge, nI_le, nI_lt, nI_nlt, gi_t, nI_clamp, nI_eq, pk_rem, Nat.zero_add, Nat.reduceAdd, Nat.reduceMul, Nat.reduceSub, Nat.reduceMod, Nat.reduceEqDiff, reduceCtorEq, Nat.one_ne_zero, Nat.zero_ne_one, he.w4, he.r4, he.f4, he.o4, he.w2, he.f2, he.o2, he.o0, he.p0, he.tm hP hB, he.pl hP hB, he.mi hP hB, he.rc hP hB, he.ng hB, nJ_h, k1]
  · intro k d1 hk
    have h1 := row_lt hi hk
    unfold f_X4_lineOf_L11
    simp (disch := omega) only [Option.bind_some, Option.elim_some, Option.elim_none, Option.some.injEq, Sum.inl.injEq, Sum.inr.injEq, ↓reduceIte, m_side, lit_nI, lz_I, nI_add, pk_mul, pk_sub, nI_ge, nI_le, nI_lt, nI_nlt, gi_t, nI_clamp, nI_eq, pk_rem, Nat.zero_add, Nat.reduceAdd, Nat.reduceMul, Nat.reduceSub, Nat.reduceMod, Nat.reduceEqDiff, reduceCtorEq, Nat.one_ne_zero, Nat.zero_ne_one, fun n d => (he.h n d).w4, fun n d => (he.h n d).r4, fun n d => (he.h n d).f4, fun n d => (he.h n d).o4, fun n d => (he.h n d).w2, fun n d => (he.h n d).f2, fun n d => (he.h n d).o2, fun n d => (he.h n d).o0, fun n d => (he.h n d).p0, fun n d => (he.h n d).tm hP hB, fun n d => (he.h n d).pl hP hB, fun n d => (he.h n d).mi hP hB, fun n d => (he.h n d).rc hP hB, fun n d => (he.h n d).ng hB, hQ.ldh, sJ_h]
  · intro d1
    unfold f_X4_lineOf_L11
    simp (disch := omega) only [Option.bind_some, Option.elim_some, Option.elim_none, Option.some.injEq, Sum.inl.injEq, Sum.inr.injEq, ↓reduceIte, m_side, lit_nI, lz_I, nI_add, pk_mul, pk_sub, nI_ge, nI_le, nI_lt, nI_nlt, gi_t, nI_clamp, nI_eq, pk_rem, Nat.zero_add, Nat.reduceAdd, Nat.reduceMul, Nat.reduceSub, Nat.reduceMod, Nat.reduceEqDiff, reduceCtorEq, Nat.one_ne_zero, Nat.zero_ne_one, fun n d => (he.h n d).w4, fun n d => (he.h n d).r4, fun n d => (he.h n d).f4, fun n d => (he.h n d).o4, fun n d => (he.h n d).w2, fun n d => (he.h n d).f2, fun n d => (he.h n d).o2, fun n d => (he.h n d).o0, fun n d => (he.h n d).p0, fun n d => (he.h n d).tm hP hB, fun n d => (he.h n d).pl hP hB, fun n d => (he.h n d).mi hP hB, fun n d => (he.h n d).rc hP hB, fun n d => (he.h n d).ng hB]
end CVEC
