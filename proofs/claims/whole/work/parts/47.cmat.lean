section CMAT
variable {P : Nat}
theorem e_rankOfSquare [NeZero P] (hP : 2 < P) (hB : P < 2 ^ 31) {hp : cH} {w so ro fo sz q : Nat} {Q : Nat → Fin P} (he : eV P w so ro fo hp sz) (hw : w = 3 ∨ w = 4) (hQ : vA hp sz q (w * w) Q) : ∃ hp' sz', f_X2_rankOfSquare hp sz ro q = some (nI (gj w (sqM w Q) w).1, hp', sz') ∧ gro hp sz hp' sz' := by
  obtain ⟨d1, a1, a2⟩ := e_linesOf hP hB he hw hQ (k := w) (by omega) (by omega)
  obtain ⟨hp2, g2, b1, b2, b3, b4⟩ := e_elim hP hB he (M := sqM w Q) (fok_congr a2 (fun i j hi hj => by (try dsimp only); rw [if_pos hj]; rfl)) (by omega) (by omega) (u := w) (Nat.le_refl w)
  refine ⟨hp2, sz + 1 + w, ?_, b4⟩
  unfold f_X2_rankOfSquare
  simp (disch := omega) only [Option.bind_some, Option.elim_some, Option.elim_none, Option.some.injEq, Sum.inl.injEq, Sum.inr.injEq, ↓reduceIte, m_side, lit_nI, lz_I, nI_add, pk_mul, pk_sub, nI_ge, nI_le, nI_lt, nI_nlt, gi_t, nI_clamp, nI_eq, pk_rem, Nat.zero_add, Nat.reduceAdd, Nat.reduceMul, Nat.reduceSub, Nat.reduceMod, Nat.reduceEqDiff, reduceCtorEq, Nat.one_ne_zero, Nat.zero_ne_one, he.w4, he.r4, he.f4, he.o4, he.w2, he.f2, he.o2, he.o0, he.p0, he.tm hP hB, he.pl hP hB, he.mi hP hB, he.rc hP hB, he.ng hB, a1, fun d => (he.q w w d).w2, fun d => (he.q w w d).o2, b1]
theorem gq_fa {hp : cH} {a h w : Nat} {M : Mx P} {g : Nat → Nat} (H : gq hp a h w M g) {i : Nat} (hi : i < h) : fa hp (g i) w (M i) := H.2.1 i hi
theorem e_inverted [NeZero P] (hP : 2 < P) (hB : P < 2 ^ 31) {hp : cH} {w so ro fo sz q : Nat} {Q : Nat → Fin P} (he : eV P w so ro fo hp sz) (hw : w = 3 ∨ w = 4) (hQ : vA hp sz q (w * w) Q) : ∃ r hp' sz', f_X2_inverted hp sz ro q = some (r, hp', sz') ∧ gro hp sz hp' sz' ∧ ((gj w (agM w Q) w).1 = w → ∃ b, r = some b ∧ vA hp' sz' b (w * w) (ivF w Q)) ∧ (¬ (gj w (agM w Q) w).1 = w → r = none) := by
  have hws : w * w ≤ 16 := by rcases hw with rfl | rfl <;> decide
  obtain ⟨d1, a1, a2⟩ := e_linesOf hP hB he hw hQ (k := 2 * w) (by omega) (by omega)
  have key := eloop1 (P := P) (f := fun s => f_X2_inverted_L14 ro sz s.1 s.2) (emb := hG hp sz w (2 * w)) (d := d1) (N := w) (fun i => 20 * i + (w + i)) (fun i j _ _ e => by omega) (fun _ => 1) ?_ ?_
  · obtain ⟨d2, k1, k2, k3⟩ := key
    obtain ⟨hp2, g2, b1, b2, b3, b4⟩ := e_elim hP hB he (M := agM w Q) (d := d2) (N := w) (k := 2 * w) (fun i j hi hj => by
      unfold agM
      by_cases e : j = w + i
      · rw [if_neg (by omega), if_pos e, e]
        exact k2 i hi
      · rw [k3 _ (fun l hl => by omega), a2 i j hi hj]
        (try dsimp only)
        by_cases e2 : j < w
        · rw [if_pos e2, if_pos e2]
        · rw [if_neg e2, if_neg e2, if_neg e]) (by omega) (by omega) (u := w) (by omega)
    have he2 := he.g b4
    have hle := (gj_le w (agM w Q) w).1
    by_cases hf : (gj w (agM w Q) w).1 = w
    · have key2 := eloopM (P := P) (f := fun s => f_X2_inverted_L72 ro sz (sz + 1 + w) s.1 s.2) (emb := hW hp2 (sz + 1 + w) (w * w)) (d := fun _ => 0) (N := w) (fun i m => i * w ≤ m ∧ m < i * w + w) (ivF w Q) ?_ ?_
      · obtain ⟨d3, l1, l2, -⟩ := key2
        refine ⟨some (sz + 1 + w), hW hp2 (sz + 1 + w) (w * w) d3, sz + 1 + w + 1, ?_, b4.tr gro.nw, fun _ => ⟨_, rfl, vA_hW (fun m hm => ?_)⟩, fun z => absurd hf z⟩
        · unfold f_X2_inverted
          simp (disch := omega) only [Option.bind_some, Option.elim_some, Option.elim_none, Option.some.injEq, Sum.inl.injEq, Sum.inr.injEq, ↓reduceIte, m_side, lit_nI, lz_I, nI_add, pk_mul, pk_sub, nI_ge, nI_le, nI_lt, nI_nlt, gi_t, nI_clamp, nI_eq, pk_rem, Nat.zero_add, Nat.reduceAdd, Nat.reduceMul, Nat.reduceSub, Nat.reduceMod, Nat.reduceEqDiff, reduceCtorEq, Nat.one_ne_zero, Nat.zero_ne_one, he.w4, he.r4, he.f4, he.o4, he.w2, he.f2, he.o2, he.o0, he.p0, he.tm hP hB, he.pl hP hB, he.mi hP hB, he.rc hP hB, he.ng hB, a1, k1, fun d => (he.q w (2 * w) d).w2, fun d => (he.q w (2 * w) d).o2, b1, hf, he2.w2, nJ_h, l1]
        · have q1 : m / w < w := Nat.div_lt_of_lt_mul hm
          have q2 := Nat.div_add_mod m w
          have q3 := Nat.mod_lt m (show 0 < w by omega)
          rw [Nat.mul_comm] at q2
          exact l2 (m / w) m q1 ⟨by omega, by omega⟩
      · intro i d3 hi
        obtain ⟨f, f1, f2⟩ := gq_fa b2 hi
        have hgi := b3 i hi
        have hgc : hW hp2 (sz + 1 + w) (w * w) d3 (g2 i) = some (.inl (1, 2 * w, .inr (.inl f))) := by rw [hW_o (by omega)]; exact f1
        have hr2 : (i + 1) * w ≤ w * w := Nat.mul_le_mul (by omega) (Nat.le_refl w)
        rw [Nat.add_mul, Nat.one_mul] at hr2
        refine ⟨fun m => if i * w ≤ m ∧ m < i * w + w then fL (ivF w Q m) else d3 m, ?_, fun m hm => by (try dsimp only); rw [if_pos hm], fun m hm => by (try dsimp only); rw [if_neg hm]⟩
        have hc : cpJ (hW hp2 (sz + 1 + w) (w * w) d3) (g2 i) (nI w) (sz + 1 + w) (nI (i * w)) (nI w) = some (hW hp2 (sz + 1 + w) (w * w) (fun m => if i * w ≤ m ∧ m < i * w + w then fL (ivF w Q m) else d3 m)) := by
          unfold cpJ aJ
          rw [hgc]
          show (match hW hp2 (sz + 1 + w) (w * w) d3 (sz + 1 + w) with | some (.inl (1, n, .inr (.inl f))) => some (n, f) | _ => none).bind _ = _
          rw [hW_a]
          show (if _ then some _ else none) = _
          rw [nI_clamp (by omega), nI_clamp (by omega), if_pos]
          · congr 1
            unfold hW
            funext b
            by_cases e : b = sz + 1 + w
            · have hfun : va_cpy (w * w, f).2 (w * w, d3).2 w (i * w) w = (fun m => if i * w ≤ m ∧ m < i * w + w then fL (ivF w Q m) else d3 m) := by
                funext m
                unfold va_cpy
                by_cases e2 : i * w ≤ m ∧ m < i * w + w
                · rw [if_pos e2, if_pos e2]
                  have h3 := f2 (w + (m - i * w)) (by omega)
                  have h4 := ivF_at (Q := Q) (i := i) (k := m - i * w) (w := w) (by omega)
                  rw [show i * w + (m - i * w) = m by omega] at h4
                  rw [h4]
                  exact h3
                · rw [if_neg e2, if_neg e2]
              have hfun2 : va_cpy (2 * w, f).2 (w * w, d3).2 w (i * w) w = (fun m => if i * w ≤ m ∧ m < i * w + w then fL (ivF w Q m) else d3 m) := hfun
              simp [va_up, e]
              exact hfun2
            · simp [va_up, e]
          · refine ⟨⟨nI_pos (by omega), nI_pos (by omega), nI_pos (by omega)⟩, ?_⟩
            (try dsimp only)
            omega
        have hld : lR 3 (hW hp2 (sz + 1 + w) (w * w) d3) sz (nI i) = some (some (g2 i)) := by
          have := gq_ld b2 hi (by omega)
          unfold lR aR at this ⊢
          rw [hW_o (by omega)]
          exact this
        unfold f_X2_inverted_L72
        simp (disch := omega) only [Option.bind_some, Option.elim_some, Option.elim_none, Option.some.injEq, Sum.inl.injEq, Sum.inr.injEq, ↓reduceIte, m_side, lit_nI, lz_I, nI_add, pk_mul, pk_sub, nI_ge, nI_le, nI_lt, nI_nlt, gi_t, nI_clamp, nI_eq, pk_rem, Nat.zero_add, Nat.reduceAdd, Nat.reduceMul, Nat.reduceSub, Nat.reduceMod, Nat.reduceEqDiff, reduceCtorEq, Nat.one_ne_zero, Nat.zero_ne_one, fun n d => (he2.h n d).w4, fun n d => (he2.h n d).r4, fun n d => (he2.h n d).f4, fun n d => (he2.h n d).o4, fun n d => (he2.h n d).w2, fun n d => (he2.h n d).f2, fun n d => (he2.h n d).o2, fun n d => (he2.h n d).o0, fun n d => (he2.h n d).p0, fun n d => (he2.h n d).tm hP hB, fun n d => (he2.h n d).pl hP hB, fun n d => (he2.h n d).mi hP hB, fun n d => (he2.h n d).rc hP hB, fun n d => (he2.h n d).ng hB, hld, hc]
      · intro d3
        unfold f_X2_inverted_L72
        simp (disch := omega) only [Option.bind_some, Option.elim_some, Option.elim_none, Option.some.injEq, Sum.inl.injEq, Sum.inr.injEq, ↓reduceIte, m_side, lit_nI, lz_I, nI_add, pk_mul, pk_sub, nI_ge, nI_le, nI_lt, nI_nlt, gi_t, nI_clamp, nI_eq, pk_rem, Nat.zero_add, Nat.reduceAdd, Nat.reduceMul, Nat.reduceSub, Nat.reduceMod, Nat.reduceEqDiff, reduceCtorEq, Nat.one_ne_zero, Nat.zero_ne_one, fun n d => (he2.h n d).w4, fun n d => (he2.h n d).r4, fun n d => (he2.h n d).f4, fun n d => (he2.h n d).o4, fun n d => (he2.h n d).w2, fun n d => (he2.h n d).f2, fun n d => (he2.h n d).o2, fun n d => (he2.h n d).o0, fun n d => (he2.h n d).p0, fun n d => (he2.h n d).tm hP hB, fun n d => (he2.h n d).pl hP hB, fun n d => (he2.h n d).mi hP hB, fun n d => (he2.h n d).rc hP hB, fun n d => (he2.h n d).ng hB]
    · refine ⟨none, hp2, sz + 1 + w, ?_, b4, fun z => absurd z hf, fun _ => rfl⟩
      unfold f_X2_inverted
      simp (disch := omega) only [Option.bind_some, Option.elim_some, Option.elim_none, Option.some.injEq, Sum.inl.injEq, Sum.inr.injEq, ↓reduceIte, m_side, lit_nI, lz_I, nI_add, pk_mul, pk_sub, nI_ge, nI_le, nI_lt, nI_nlt, gi_t, nI_clamp, nI_eq, pk_rem, Nat.zero_add, Nat.reduceAdd, Nat.reduceMul, Nat.reduceSub, Nat.reduceMod, Nat.reduceEqDiff, reduceCtorEq, Nat.one_ne_zero, Nat.zero_ne_one, he.w4, he.r4, he.f4, he.o4, he.w2, he.f2, he.o2, he.o0, he.p0, he.tm hP hB, he.pl hP hB, he.mi hP hB, he.rc hP hB, he.ng hB, a1, k1, fun d => (he.q w (2 * w) d).w2, fun d => (he.q w (2 * w) d).o2, b1, hf, he2.w2]
  · intro i d2 hi _ _
    refine ⟨vp_updL d2 (20 * i + (w + i)) (fL (1 : Fin P)), ?_, pk_uLs, fun m hm => pk_uLn hm⟩
    unfold f_X2_inverted_L14
    simp (disch := omega) only [Option.bind_some, Option.elim_some, Option.elim_none, Option.some.injEq, Sum.inl.injEq, Sum.inr.injEq, ↓reduceIte, m_side, lit_nI, lz_I, nI_add, pk_mul, pk_sub, nI_ge, nI_le, nI_lt, nI_nlt, gi_t, nI_clamp, nI_eq, pk_rem, Nat.zero_add, Nat.reduceAdd, Nat.reduceMul, Nat.reduceSub, Nat.reduceMod, Nat.reduceEqDiff, reduceCtorEq, Nat.one_ne_zero, Nat.zero_ne_one, fun d => (he.q w (2 * w) d).w2, lR_h, sJ_g, lo64 (P := P) hP]
  · intro d2
    unfold f_X2_inverted_L14
    simp (disch := omega) only [Option.bind_some, Option.elim_some, Option.elim_none, Option.some.injEq, Sum.inl.injEq, Sum.inr.injEq, ↓reduceIte, m_side, lit_nI, lz_I, nI_add, pk_mul, pk_sub, nI_ge, nI_le, nI_lt, nI_nlt, gi_t, nI_clamp, nI_eq, pk_rem, Nat.zero_add, Nat.reduceAdd, Nat.reduceMul, Nat.reduceSub, Nat.reduceMod, Nat.reduceEqDiff, reduceCtorEq, Nat.one_ne_zero, Nat.zero_ne_one, fun d => (he.q w (2 * w) d).w2]
/-- an array of rows -/
def gP (hp : cH) (sz a n w : Nat) (A : Nat → Nat) (X : Nat → Nat → Fin P) : Prop := (∃ G, hp a = some (.inl (3, n, .inr (.inr (.inr (.inr G))))) ∧ ∀ i, i < n → G i = some (A i)) ∧ a < sz ∧ ∀ i, i < n → vA hp sz (A i) w (X i)
theorem gP.g {hp hp' : cH} {sz sz' a n w : Nat} {A : Nat → Nat} {X : Nat → Nat → Fin P} (h : gP hp sz a n w A X) (e : gro hp sz hp' sz') : gP hp' sz' a n w A X := by
  obtain ⟨⟨G, h1, h2⟩, h3, h4⟩ := h
  exact ⟨⟨G, by rw [e.1 a (by omega)]; exact h1, h2⟩, by have := e.2; omega, fun i hi => (h4 i hi).g e⟩
theorem gP.ld {hp : cH} {sz a n w : Nat} {A : Nat → Nat} {X : Nat → Nat → Fin P} (h : gP hp sz a n w A X) {i : Nat} (hi : i < n) (hn : n < 2 ^ 31) : lR 3 hp a (nI i) = some (some (A i)) := by
  obtain ⟨⟨G, h1, h2⟩, -, -⟩ := h
  unfold lR aR
  rw [h1]
  show (if gi (nI i) n then some (G (nI i).toNatClampNeg) else none) = _
  rw [if_pos (gi_nI hi hn), nI_clamp (by omega), h2 i hi]
theorem gP.len {hp : cH} {sz a n w : Nat} {A : Nat → Nat} {X : Nat → Nat → Fin P} (h : gP hp sz a n w A X) : aN hp a = some (nI n) := by
  obtain ⟨⟨G, h1, h2⟩, -, -⟩ := h
  unfold aN
  rw [h1]
  rfl
theorem gP.at {hp : cH} {sz a n w : Nat} {A : Nat → Nat} {X : Nat → Nat → Fin P} (h : gP hp sz a n w A X) {i : Nat} (hi : i < n) : vA hp sz (A i) w (X i) := h.2.2 i hi
theorem e_frameOf [NeZero P] (hP : 2 < P) (hB : P < 2 ^ 31) {hp : cH} {w so ro fo sz a : Nat} {A : Nat → Nat} {X : Nat → Nat → Fin P} (he : eV P w so ro fo hp sz) (hw : w = 3 ∨ w = 4) (hX : gP hp sz a (w + 1) w A X) : ∃ r hp' sz', f_X2_frameOf hp sz ro a = some (r, hp', sz') ∧ gro hp sz hp' sz' ∧ (((gj w (clM X) w).1 = w ∧ ∀ j, j < w → (gj w (clM X) w).2 j w ≠ 0) → ∃ b, r = some b ∧ vA hp' sz' b (w * w) (frF w X)) ∧ (¬ ((gj w (clM X) w).1 = w ∧ ∀ j, j < w → (gj w (clM X) w).2 j w ≠ 0) → r = none) := by
  have hws : w * w ≤ 16 := by rcases hw with rfl | rfl <;> decide
  have hXg : ∀ d, gP (hG hp sz w (w + 1) d) (sz + 1 + w) a (w + 1) w A X := fun d => hX.g gro.ng
  have key := eloop2 (P := P) (f1 := fun s => f_X2_frameOf_L17 ro a sz s.1 s.2) (f2 := fun i s => f_X2_frameOf_L28 ro a sz (nI i) s.1 s.2) (emb := hG hp sz w (w + 1)) (d := fun _ => 0) w (w + 1) (fun i j => 20 * i + j) (fun i j i' j' _ _ _ _ e => by omega) (clM X) ?_ ?_ ?_ ?_
  · obtain ⟨d1, k1, k2, -⟩ := key
    obtain ⟨hp2, g2, b1, b2, b3, b4⟩ := e_elim hP hB he (M := clM X) (d := d1) (N := w) (k := w + 1) (fun i j hi hj => k2 i j hi hj) (by omega) (by omega) (u := w) (by omega)
    have he2 := he.g b4
    have hX2 := hX.g b4
    generalize hG : (gj w (clM X) w).2 = G at *
    by_cases hf : (gj w (clM X) w).1 = w
    · have hcol : ∀ (j : Nat) (d2 : Nat → Int64), j < w → G j w ≠ 0 → ∃ d3, itX (fun s => f_X2_frameOf_L126 ro a (sz + 1 + w) (nI j) (fL (G j w)) s.1 s.2) (nI 0, hW hp2 (sz + 1 + w) (w * w) d2) = some (hW hp2 (sz + 1 + w) (w * w) d3) ∧ (∀ i, i < w → d3 (i * w + j) = fL (G j w * X j i)) ∧ ∀ m, (∀ i, i < w → m ≠ i * w + j) → d3 m = d2 m := by
        intro j d2 hj _
        refine eloop1 (P := P) (f := fun s => f_X2_frameOf_L126 ro a (sz + 1 + w) (nI j) (fL (G j w)) s.1 s.2) (emb := hW hp2 (sz + 1 + w) (w * w)) (d := d2) (N := w) (fun i => i * w + j) (fun i i' hi hi' e => (ij_inj hw i j i' j hi hj hi' hj e).1) (fun i => G j w * X j i) ?_ ?_
        · intro i d3 hi _ _
          have r1 := row_lt hi hj
          refine ⟨vp_updL d3 (i * w + j) (fL (G j w * X j i)), ?_, pk_uLs, fun m hm => pk_uLn hm⟩
          have hx := (hX2.g (gro.nw (n := w * w) (d := d3)))
          unfold f_X2_frameOf_L126
          simp (disch := omega) only [Option.bind_some, Option.elim_some, Option.elim_none, Option.some.injEq, Sum.inl.injEq, Sum.inr.injEq, ↓reduceIte, m_side, lit_nI, lz_I, nI_add, pk_mul, pk_sub, nI_ge, nI_le, nI_lt, nI_nlt, gi_t, nI_clamp, nI_eq, pk_rem, Nat.zero_add, Nat.reduceAdd, Nat.reduceMul, Nat.reduceSub, Nat.reduceMod, Nat.reduceEqDiff, reduceCtorEq, Nat.one_ne_zero, Nat.zero_ne_one, fun n d => (he2.h n d).w4, fun n d => (he2.h n d).r4, fun n d => (he2.h n d).f4, fun n d => (he2.h n d).o4, fun n d => (he2.h n d).w2, fun n d => (he2.h n d).f2, fun n d => (he2.h n d).o2, fun n d => (he2.h n d).o0, fun n d => (he2.h n d).p0, fun n d => (he2.h n d).tm hP hB, fun n d => (he2.h n d).pl hP hB, fun n d => (he2.h n d).mi hP hB, fun n d => (he2.h n d).rc hP hB, fun n d => (he2.h n d).ng hB, hx.ld, (hx.at (show j < w + 1 by omega)).ld, sJ_h]
        · intro d3
          unfold f_X2_frameOf_L126
          simp (disch := omega) only [Option.bind_some, Option.elim_some, Option.elim_none, Option.some.injEq, Sum.inl.injEq, Sum.inr.injEq, ↓reduceIte, m_side, lit_nI, lz_I, nI_add, pk_mul, pk_sub, nI_ge, nI_le, nI_lt, nI_nlt, gi_t, nI_clamp, nI_eq, pk_rem, Nat.zero_add, Nat.reduceAdd, Nat.reduceMul, Nat.reduceSub, Nat.reduceMod, Nat.reduceEqDiff, reduceCtorEq, Nat.one_ne_zero, Nat.zero_ne_one, fun n d => (he2.h n d).w4, fun n d => (he2.h n d).r4, fun n d => (he2.h n d).f4, fun n d => (he2.h n d).o4, fun n d => (he2.h n d).w2, fun n d => (he2.h n d).f2, fun n d => (he2.h n d).o2, fun n d => (he2.h n d).o0, fun n d => (he2.h n d).p0, fun n d => (he2.h n d).tm hP hB, fun n d => (he2.h n d).pl hP hB, fun n d => (he2.h n d).mi hP hB, fun n d => (he2.h n d).rc hP hB, fun n d => (he2.h n d).ng hB]
      have hgrd : ∀ (j : Nat) (d2 : Nat → Int64), j < w → lR 3 (hW hp2 (sz + 1 + w) (w * w) d2) sz (nI j) = some (some (g2 j)) ∧ lJ (hW hp2 (sz + 1 + w) (w * w) d2) (g2 j) (nI w) = some (fL (G j w)) := by
        intro j d2 hj
        have hgj := b3 j hj
        refine ⟨?_, ?_⟩
        · have := gq_ld b2 hj (by omega)
          unfold lR aR at this ⊢
          rw [hW_o (by omega)]
          exact this
        · exact l_fa (fa_of (gq_fa b2 hj) (hW_o (by omega))) (by omega) (by omega)
      by_cases hall : ∀ j, j < w → G j w ≠ 0
      · have key2 := it_inv (f := fun s : Int32 × cH => f_X2_frameOf_L94 (sz + 1 + w + 1) ro a sz (sz + 1 + w) s.1 s.2) (fun j s => s.1 = nI j ∧ ∃ d2, s.2 = hW hp2 (sz + 1 + w) (w * w) d2 ∧ ∀ i l, i < w → l < j → d2 (i * w + l) = fL (G l w * X l i)) w (fun r => ∃ d2, r = .inl (hW hp2 (sz + 1 + w) (w * w) d2) ∧ ∀ i l, i < w → l < w → d2 (i * w + l) = fL (G l w * X l i)) ?_ ?_ (nI 0, hW hp2 (sz + 1 + w) (w * w) (fun _ => 0)) ⟨rfl, _, rfl, fun i l _ hl => by omega⟩
        · obtain ⟨r, l1, d2, l2, l3⟩ := key2
          subst l2
          refine ⟨some (sz + 1 + w), hW hp2 (sz + 1 + w) (w * w) d2, sz + 1 + w + 1, ?_, b4.tr gro.nw, fun _ => ⟨_, rfl, vA_hW (vo_congr (vo_sq (v := fun i j => G j w * X j i) (by omega) l3) (fun m hm => by unfold frF; rw [hG]))⟩, fun z => absurd ⟨hf, hall⟩ z⟩
          unfold f_X2_frameOf
          simp (disch := omega) only [Option.bind_some, Option.elim_some, Option.elim_none, Option.some.injEq, Sum.inl.injEq, Sum.inr.injEq, ↓reduceIte, m_side, lit_nI, lz_I, nI_add, pk_mul, pk_sub, nI_ge, nI_le, nI_lt, nI_nlt, gi_t, nI_clamp, nI_eq, pk_rem, Nat.zero_add, Nat.reduceAdd, Nat.reduceMul, Nat.reduceSub, Nat.reduceMod, Nat.reduceEqDiff, reduceCtorEq, Nat.one_ne_zero, Nat.zero_ne_one, he.w4, he.r4, he.f4, he.o4, he.w2, he.f2, he.o2, he.o0, he.p0, he.tm hP hB, he.pl hP hB, he.mi hP hB, he.rc hP hB, he.ng hB, nM_h, k1, fun d => (he.q w (w + 1) d).w2, fun d => (he.q w (w + 1) d).o2, b1, hf, he2.w2, nJ_h, l1]
        · rintro j ⟨j', z⟩ hj ⟨e1, d2, e2, h1⟩
          dsimp only at e1 e2
          subst e1
          subst e2
          obtain ⟨c1, c2⟩ := hgrd j d2 hj
          obtain ⟨d3, m1, m2, m3⟩ := hcol j d2 hj (hall j hj)
          refine ⟨(nI (j + 1), hW hp2 (sz + 1 + w) (w * w) d3), ?_, rfl, d3, rfl, fun i l hi hl => ?_⟩
          · unfold f_X2_frameOf_L94
            simp (disch := omega) only [Option.bind_some, Option.elim_some, Option.elim_none, Option.some.injEq, Sum.inl.injEq, Sum.inr.injEq, ↓reduceIte, m_side, lit_nI, lz_I, nI_add, pk_mul, pk_sub, nI_ge, nI_le, nI_lt, nI_nlt, gi_t, nI_clamp, nI_eq, pk_rem, Nat.zero_add, Nat.reduceAdd, Nat.reduceMul, Nat.reduceSub, Nat.reduceMod, Nat.reduceEqDiff, reduceCtorEq, Nat.one_ne_zero, Nat.zero_ne_one, fun n d => (he2.h n d).w4, fun n d => (he2.h n d).r4, fun n d => (he2.h n d).f4, fun n d => (he2.h n d).o4, fun n d => (he2.h n d).w2, fun n d => (he2.h n d).f2, fun n d => (he2.h n d).o2, fun n d => (he2.h n d).o0, fun n d => (he2.h n d).p0, fun n d => (he2.h n d).tm hP hB, fun n d => (he2.h n d).pl hP hB, fun n d => (he2.h n d).mi hP hB, fun n d => (he2.h n d).rc hP hB, fun n d => (he2.h n d).ng hB, c1, c2, lz64 (P := P), fL_eq hB, hall j hj, m1]
          · by_cases e : l = j
            · rw [e]
              exact m2 i hi
            · rw [m3 _ (fun i' hi' q => e (ij_inj hw i l i' j hi (by omega) hi' hj q).2)]
              exact h1 i l hi (by omega)
        · rintro ⟨j', z⟩ ⟨e1, d2, e2, h1⟩
          dsimp only at e1 e2
          subst e1
          subst e2
          refine ⟨_, ?_, d2, rfl, h1⟩
          unfold f_X2_frameOf_L94
          simp (disch := omega) only [Option.bind_some, Option.elim_some, Option.elim_none, Option.some.injEq, Sum.inl.injEq, Sum.inr.injEq, ↓reduceIte, m_side, lit_nI, lz_I, nI_add, pk_mul, pk_sub, nI_ge, nI_le, nI_lt, nI_nlt, gi_t, nI_clamp, nI_eq, pk_rem, Nat.zero_add, Nat.reduceAdd, Nat.reduceMul, Nat.reduceSub, Nat.reduceMod, Nat.reduceEqDiff, reduceCtorEq, Nat.one_ne_zero, Nat.zero_ne_one, fun n d => (he2.h n d).w4, fun n d => (he2.h n d).r4, fun n d => (he2.h n d).f4, fun n d => (he2.h n d).o4, fun n d => (he2.h n d).w2, fun n d => (he2.h n d).f2, fun n d => (he2.h n d).o2, fun n d => (he2.h n d).o0, fun n d => (he2.h n d).p0, fun n d => (he2.h n d).tm hP hB, fun n d => (he2.h n d).pl hP hB, fun n d => (he2.h n d).mi hP hB, fun n d => (he2.h n d).rc hP hB, fun n d => (he2.h n d).ng hB]
      · have hex : ∃ j, j < w ∧ G j w = 0 ∧ ∀ l, l < j → G l w ≠ 0 := by
          have gen : ∀ n, n ≤ w → (∀ l, l < n → G l w ≠ 0) ∨ ∃ k, k < n ∧ G k w = 0 ∧ ∀ l, l < k → G l w ≠ 0 := by
            intro n
            induction n with
            | zero => intro _; exact Or.inl (fun l hl => by omega)
            | succ n ih =>
              intro hn
              rcases ih (by omega) with u | ⟨k, u, v, c⟩
              · by_cases e : G n w = 0
                · exact Or.inr ⟨n, by omega, e, u⟩
                · refine Or.inl (fun l hl => ?_)
                  by_cases e2 : l = n
                  · rw [e2]; exact e
                  · exact u l (by omega)
              · exact Or.inr ⟨k, by omega, v, c⟩
          rcases gen w (Nat.le_refl w) with u | u
          · exact absurd u hall
          · exact u
        obtain ⟨j0, j1, j2, j3⟩ := hex
        have key2 : ∀ n j d2, j + n = j0 → ∃ d3, itX (fun s => f_X2_frameOf_L94 (sz + 1 + w + 1) ro a sz (sz + 1 + w) s.1 s.2) (nI j, hW hp2 (sz + 1 + w) (w * w) d2) = some (.inr (none, hW hp2 (sz + 1 + w) (w * w) d3, sz + 1 + w + 1)) := by
          intro n
          induction n with
          | zero =>
            intro j d2 e
            have e2 : j = j0 := by omega
            subst e2
            obtain ⟨c1, c2⟩ := hgrd j d2 j1
            refine ⟨d2, ?_⟩
            apply itX_stop
            unfold f_X2_frameOf_L94
            simp (disch := omega) only [Option.bind_some, Option.elim_some, Option.elim_none, Option.some.injEq, Sum.inl.injEq, Sum.inr.injEq, ↓reduceIte, m_side, lit_nI, lz_I, nI_add, pk_mul, pk_sub, nI_ge, nI_le, nI_lt, nI_nlt, gi_t, nI_clamp, nI_eq, pk_rem, Nat.zero_add, Nat.reduceAdd, Nat.reduceMul, Nat.reduceSub, Nat.reduceMod, Nat.reduceEqDiff, reduceCtorEq, Nat.one_ne_zero, Nat.zero_ne_one, fun n d => (he2.h n d).w4, fun n d => (he2.h n d).r4, fun n d => (he2.h n d).f4, fun n d => (he2.h n d).o4, fun n d => (he2.h n d).w2, fun n d => (he2.h n d).f2, fun n d => (he2.h n d).o2, fun n d => (he2.h n d).o0, fun n d => (he2.h n d).p0, fun n d => (he2.h n d).tm hP hB, fun n d => (he2.h n d).pl hP hB, fun n d => (he2.h n d).mi hP hB, fun n d => (he2.h n d).rc hP hB, fun n d => (he2.h n d).ng hB, c1, c2, lz64 (P := P), fL_eq hB, j2]
          | succ n ih =>
            intro j d2 e
            obtain ⟨c1, c2⟩ := hgrd j d2 (by omega)
            obtain ⟨d3, m1, -, -⟩ := hcol j d2 (by omega) (j3 j (by omega))
            obtain ⟨d4, m4⟩ := ih (j + 1) d3 (by omega)
            refine ⟨d4, ?_⟩
            rw [itX_step (s' := (nI (j + 1), hW hp2 (sz + 1 + w) (w * w) d3)), m4]
            unfold f_X2_frameOf_L94
            simp (disch := omega) only [Option.bind_some, Option.elim_some, Option.elim_none, Option.some.injEq, Sum.inl.injEq, Sum.inr.injEq, ↓reduceIte, m_side, lit_nI, lz_I, nI_add, pk_mul, pk_sub, nI_ge, nI_le, nI_lt, nI_nlt, gi_t, nI_clamp, nI_eq, pk_rem, Nat.zero_add, Nat.reduceAdd, Nat.reduceMul, Nat.reduceSub, Nat.reduceMod, Nat.reduceEqDiff, reduceCtorEq, Nat.one_ne_zero, Nat.zero_ne_one, fun n d => (he2.h n d).w4, fun n d => (he2.h n d).r4, fun n d => (he2.h n d).f4, fun n d => (he2.h n d).o4, fun n d => (he2.h n d).w2, fun n d => (he2.h n d).f2, fun n d => (he2.h n d).o2, fun n d => (he2.h n d).o0, fun n d => (he2.h n d).p0, fun n d => (he2.h n d).tm hP hB, fun n d => (he2.h n d).pl hP hB, fun n d => (he2.h n d).mi hP hB, fun n d => (he2.h n d).rc hP hB, fun n d => (he2.h n d).ng hB, c1, c2, lz64 (P := P), fL_eq hB, j3 j (by omega), m1]
        obtain ⟨d3, m1⟩ := key2 j0 0 (fun _ => 0) (by omega)
        refine ⟨none, hW hp2 (sz + 1 + w) (w * w) d3, sz + 1 + w + 1, ?_, b4.tr gro.nw, fun z => absurd z.2 hall, fun _ => rfl⟩
        unfold f_X2_frameOf
        simp (disch := omega) only [Option.bind_some, Option.elim_some, Option.elim_none, Option.some.injEq, Sum.inl.injEq, Sum.inr.injEq, ↓reduceIte, m_side, lit_nI, lz_I, nI_add, pk_mul, pk_sub, nI_ge, nI_le, nI_lt, nI_nlt, gi_t, nI_clamp, nI_eq, pk_rem, Nat.zero_add, Nat.reduceAdd, Nat.reduceMul, Nat.reduceSub, Nat.reduceMod, Nat.reduceEqDiff, reduceCtorEq, Nat.one_ne_zero, Nat.zero_ne_one, he.w4, he.r4, he.f4, he.o4, he.w2, he.f2, he.o2, he.o0, he.p0, he.tm hP hB, he.pl hP hB, he.mi hP hB, he.rc hP hB, he.ng hB, nM_h, k1, fun d => (he.q w (w + 1) d).w2, fun d => (he.q w (w + 1) d).o2, b1, hf, he2.w2, nJ_h, m1]
    · have hle := (gj_le w (clM X) w).1
      refine ⟨none, hp2, sz + 1 + w, ?_, b4, fun z => absurd z.1 hf, fun _ => rfl⟩
      unfold f_X2_frameOf
      simp (disch := omega) only [Option.bind_some, Option.elim_some, Option.elim_none, Option.some.injEq, Sum.inl.injEq, Sum.inr.injEq, ↓reduceIte, m_side, lit_nI, lz_I, nI_add, pk_mul, pk_sub, nI_ge, nI_le, nI_lt, nI_nlt, gi_t, nI_clamp, nI_eq, pk_rem, Nat.zero_add, Nat.reduceAdd, Nat.reduceMul, Nat.reduceSub, Nat.reduceMod, Nat.reduceEqDiff, reduceCtorEq, Nat.one_ne_zero, Nat.zero_ne_one, he.w4, he.r4, he.f4, he.o4, he.w2, he.f2, he.o2, he.o0, he.p0, he.tm hP hB, he.pl hP hB, he.mi hP hB, he.rc hP hB, he.ng hB, nM_h, k1, fun d => (he.q w (w + 1) d).w2, fun d => (he.q w (w + 1) d).o2, b1, hf, he2.w2]
  · intro i d1 hi
    unfold f_X2_frameOf_L17
    simp (disch := omega) only [Option.bind_some, Option.elim_some, Option.elim_none, Option.some.injEq, Sum.inl.injEq, Sum.inr.injEq, ↓reduceIte, m_side, lit_nI, lz_I, nI_add, pk_mul, pk_sub, nI_ge, nI_le, nI_lt, nI_nlt, gi_t, nI_clamp, nI_eq, pk_rem, Nat.zero_add, Nat.reduceAdd, Nat.reduceMul, Nat.reduceSub, Nat.reduceMod, Nat.reduceEqDiff, reduceCtorEq, Nat.one_ne_zero, Nat.zero_ne_one, fun d => (he.q w (w + 1) d).w2]
  · intro i j d1 hi hj
    unfold f_X2_frameOf_L28 clM
    simp (disch := omega) only [Option.bind_some, Option.elim_some, Option.elim_none, Option.some.injEq, Sum.inl.injEq, Sum.inr.injEq, ↓reduceIte, m_side, lit_nI, lz_I, nI_add, pk_mul, pk_sub, nI_ge, nI_le, nI_lt, nI_nlt, gi_t, nI_clamp, nI_eq, pk_rem, Nat.zero_add, Nat.reduceAdd, Nat.reduceMul, Nat.reduceSub, Nat.reduceMod, Nat.reduceEqDiff, reduceCtorEq, Nat.one_ne_zero, Nat.zero_ne_one, fun d => (he.q w (w + 1) d).w2, lR_h, (hXg d1).ld, ((hXg d1).at hj).ld, sJ_g]
  · intro i d1 hi
    unfold f_X2_frameOf_L28
    simp (disch := omega) only [Option.bind_some, Option.elim_some, Option.elim_none, Option.some.injEq, Sum.inl.injEq, Sum.inr.injEq, ↓reduceIte, m_side, lit_nI, lz_I, nI_add, pk_mul, pk_sub, nI_ge, nI_le, nI_lt, nI_nlt, gi_t, nI_clamp, nI_eq, pk_rem, Nat.zero_add, Nat.reduceAdd, Nat.reduceMul, Nat.reduceSub, Nat.reduceMod, Nat.reduceEqDiff, reduceCtorEq, Nat.one_ne_zero, Nat.zero_ne_one, fun d => (he.q w (w + 1) d).w2]
  · intro d1
    unfold f_X2_frameOf_L17
    simp (disch := omega) only [Option.bind_some, Option.elim_some, Option.elim_none, Option.some.injEq, Sum.inl.injEq, Sum.inr.injEq, ↓reduceIte, m_side, lit_nI, lz_I, nI_add, pk_mul, pk_sub, nI_ge, nI_le, nI_lt, nI_nlt, gi_t, nI_clamp, nI_eq, pk_rem, Nat.zero_add, Nat.reduceAdd, Nat.reduceMul, Nat.reduceSub, Nat.reduceMod, Nat.reduceEqDiff, reduceCtorEq, Nat.one_ne_zero, Nat.zero_ne_one, fun d => (he.q w (w + 1) d).w2]
end CMAT
