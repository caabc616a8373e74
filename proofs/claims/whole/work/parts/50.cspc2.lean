section CSPC2
variable {P : Nat}
theorem ob {α : Type} {x : Option α} {v : α} (h : x = some v) {β : Type} (f : α → Option β) : x.bind f = f v := by
  rw [h]
  rfl
/-- the wedge whose base a line's points are -/
def blF [NeZero P] (w : Nat) (L : Nat → Fin P) : Nat → Fin P := if w = 3 then flF (swi w w) L else L
theorem e_baseOfLine [NeZero P] (hP : 2 < P) (hB : P < 2 ^ 31) {hp : cH} {w so ro fo sz a : Nat} {L : Nat → Fin P} (he : eV P w so ro fo hp sz) (hw : w = 3 ∨ w = 4) (hL : vA hp sz a (swi w w) L) (hnz : ldV (blF w L) (swi w w) < swi w w) : ∃ r hp' sz' A, f_X4_baseOfLine hp sz so a = some (r, hp', sz') ∧ gP hp' sz' r 2 w A (bwF w (blF w L)) ∧ gro hp sz hp' sz' := by
  have hs := swi_w hw
  rcases hw with rfl | rfl
  · obtain ⟨hp1, a1, a2, a3⟩ := e_flipped hP hB he (by omega) hL
    have he1 := he.g a3
    obtain ⟨r, hp2, sz2, A, b1, b2, b3⟩ := e_baseOfWedge hP hB he1 (Or.inl rfl) (L := blF 3 L) a2 hnz
    refine ⟨r, hp2, sz2, A, ?_, b2, a3.tr b3⟩
    unfold f_X4_baseOfLine f_X4_isPlane
    simp (disch := omega) only [↓Option.bind_some, ↓Option.elim_some, ↓Option.elim_none, Option.bind_some, Option.elim_some, Option.elim_none, Option.some.injEq, Sum.inl.injEq, Sum.inr.injEq, ↓reduceIte, m_side, lit_nI, lz_I, nI_add, pk_mul, pk_sub, nI_ge, nI_le, nI_lt, nI_nlt, gi_t, nI_clamp, nI_eq, pk_rem, Nat.zero_add, Nat.reduceAdd, Nat.reduceMul, Nat.reduceSub, Nat.reduceMod, Nat.reduceEqDiff, reduceCtorEq, Nat.one_ne_zero, Nat.zero_ne_one, ↓ob he.w4, ↓ob he.r4, ↓ob he.f4, ↓ob he.w2, ↓ob he.f2, ↓ob he.p0, he.o4, he.o2, he.o0, ↓(fun a b => @ob _ _ _ (he.tm hP hB a b)), ↓(fun a b => @ob _ _ _ (he.pl hP hB a b)), ↓(fun a b => @ob _ _ _ (he.mi hP hB a b)), ↓(fun a => @ob _ _ _ (he.rc hP hB a)), ↓(fun a => @ob _ _ _ (he.ng hB a)), ↓ob a1, ↓ob he1.w4, ↓ob he1.r4, ↓ob he1.f4, ↓ob he1.w2, ↓ob he1.f2, ↓ob he1.p0, he1.o4, he1.o2, he1.o0, ↓(fun a b => @ob _ _ _ (he1.tm hP hB a b)), ↓(fun a b => @ob _ _ _ (he1.pl hP hB a b)), ↓(fun a b => @ob _ _ _ (he1.mi hP hB a b)), ↓(fun a => @ob _ _ _ (he1.rc hP hB a)), ↓(fun a => @ob _ _ _ (he1.ng hB a)), ↓ob b1]
  · obtain ⟨r, hp2, sz2, A, b1, b2, b3⟩ := e_baseOfWedge hP hB he (Or.inr rfl) (L := blF 4 L) hL hnz
    refine ⟨r, hp2, sz2, A, ?_, b2, b3⟩
    unfold f_X4_baseOfLine f_X4_isPlane
    simp (disch := omega) only [↓Option.bind_some, ↓Option.elim_some, ↓Option.elim_none, Option.bind_some, Option.elim_some, Option.elim_none, Option.some.injEq, Sum.inl.injEq, Sum.inr.injEq, ↓reduceIte, m_side, lit_nI, lz_I, nI_add, pk_mul, pk_sub, nI_ge, nI_le, nI_lt, nI_nlt, gi_t, nI_clamp, nI_eq, pk_rem, Nat.zero_add, Nat.reduceAdd, Nat.reduceMul, Nat.reduceSub, Nat.reduceMod, Nat.reduceEqDiff, reduceCtorEq, Nat.one_ne_zero, Nat.zero_ne_one, ↓ob he.w4, ↓ob he.r4, ↓ob he.f4, ↓ob he.w2, ↓ob he.f2, ↓ob he.p0, he.o4, he.o2, he.o0, ↓(fun a b => @ob _ _ _ (he.tm hP hB a b)), ↓(fun a b => @ob _ _ _ (he.pl hP hB a b)), ↓(fun a b => @ob _ _ _ (he.mi hP hB a b)), ↓(fun a => @ob _ _ _ (he.rc hP hB a)), ↓(fun a => @ob _ _ _ (he.ng hB a)), ↓ob b1]
/-- an answer that may be null -/
def oA (hp : cH) (sz : Nat) (r : Option Nat) (n : Nat) (y : Option (Nat → Fin P)) : Prop := match y with
  | none => r = none
  | some v => ∃ b, r = some b ∧ vA hp sz b n v
/-- the point of two lines of space -/
def ptF [NeZero P] (A B : Nat → Fin P) : Option (Nat → Fin P) := if crF 6 A B = 0 then (if ldV (sxF 4 A (bwF 4 (flF 6 B) 0)) 4 < 4 then some (sxF 4 A (bwF 4 (flF 6 B) 0)) else if ldV (sxF 4 A (bwF 4 (flF 6 B) 1)) 4 < 4 then some (sxF 4 A (bwF 4 (flF 6 B) 1)) else none) else none
theorem e_pointOfLines [NeZero P] (hP : 2 < P) (hB : P < 2 ^ 31) {hp : cH} {so ro fo sz a b : Nat} {A B : Nat → Fin P} (he : eV P 4 so ro fo hp sz) (hA : vA hp sz a 6 A) (hB' : vA hp sz b 6 B) (hnz : ldV (flF 6 B) 6 < 6) : ∃ r hp' sz', f_X4_pointOfLines hp sz so a b = some (r, hp', sz') ∧ oA hp' sz' r 4 (ptF A B) ∧ gro hp sz hp' sz' := by
  have hw : 4 = 3 ∨ 4 = 4 := Or.inr rfl
  obtain ⟨hp1, sz1, a1, a3⟩ := e_linesMeet hP hB he hw hA hB'
  have a1 : f_X4_linesMeet hp sz so a b = some (nI (if crF 6 A B = 0 then 1 else 0), hp1, sz1) := a1
  have he1 := he.g a3
  unfold ptF
  by_cases hc : crF 6 A B = 0
  · rw [if_pos hc] at a1 ⊢
    obtain ⟨hp2, b1, b2, b3⟩ := e_flipped hP hB he1 (by omega) (hB'.g a3)
    have he2 := he1.g b3
    obtain ⟨q, hp3, sz3, C, c1, c2, c3⟩ := e_baseOfWedge hP hB he2 hw b2 hnz
    have he3 := he2.g c3
    have hA3 := ((hA.g a3).g b3).g c3
    generalize hX : bwF 4 (flF 6 B) = X at *
    obtain ⟨r4, hp4, sz4, d1, d2, d3⟩ := e_pointOnPlane hP hB he3 hw hA3 (c2.at (i := 0) (by omega))
    have he4 := he3.g d3
    have c4 := c2.g d3
    have hl0 := c2.ld (i := 0) (by omega) (by omega)
    have hl1 := c4.ld (i := 1) (by omega) (by omega)
    have hn0 := c2.len
    have hn1 := c4.len
    by_cases h0 : ldV (sxF 4 A (X 0)) 4 < 4
    · rw [if_pos h0]
      have hz := e_isN hB d2 (by omega) (by omega)
      have hloop : itX (fun s => f_X4_pointOfLines_L24 so a q s.1 s.2.1 s.2.2.1 s.2.2.2) (nI 0, hp3, sz3, 4) = some (.inr (some r4, hp4, sz4)) := by
        apply itX_stop
        (try dsimp only)
        unfold f_X4_pointOfLines_L24
        simp (disch := omega) only [↓Option.bind_some, ↓Option.elim_some, ↓Option.elim_none, Option.bind_some, Option.elim_some, Option.elim_none, Option.some.injEq, Sum.inl.injEq, Sum.inr.injEq, ↓reduceIte, m_side, lit_nI, lz_I, nI_add, pk_mul, pk_sub, nI_ge, nI_le, nI_lt, nI_nlt, gi_t, nI_clamp, nI_eq, pk_rem, Nat.zero_add, Nat.reduceAdd, Nat.reduceMul, Nat.reduceSub, Nat.reduceMod, Nat.reduceEqDiff, reduceCtorEq, Nat.one_ne_zero, Nat.zero_ne_one, ↓ob hn0, ↓ob hl0, ↓ob d1, ↓ob hz, ↓ob he3.w4, ↓ob he3.r4, ↓ob he3.f4, ↓ob he3.w2, ↓ob he3.f2, ↓ob he3.p0, he3.o4, he3.o2, he3.o0, ↓(fun a b => @ob _ _ _ (he3.tm hP hB a b)), ↓(fun a b => @ob _ _ _ (he3.pl hP hB a b)), ↓(fun a b => @ob _ _ _ (he3.mi hP hB a b)), ↓(fun a => @ob _ _ _ (he3.rc hP hB a)), ↓(fun a => @ob _ _ _ (he3.ng hB a)), Nat.reduceLeDiff]
      refine ⟨some r4, hp4, sz4, ?_, ⟨r4, rfl, d2⟩, ((a3.tr b3).tr c3).tr d3⟩
      unfold f_X4_pointOfLines
      simp (disch := omega) only [↓Option.bind_some, ↓Option.elim_some, ↓Option.elim_none, Option.bind_some, Option.elim_some, Option.elim_none, Option.some.injEq, Sum.inl.injEq, Sum.inr.injEq, ↓reduceIte, m_side, lit_nI, lz_I, nI_add, pk_mul, pk_sub, nI_ge, nI_le, nI_lt, nI_nlt, gi_t, nI_clamp, nI_eq, pk_rem, Nat.zero_add, Nat.reduceAdd, Nat.reduceMul, Nat.reduceSub, Nat.reduceMod, Nat.reduceEqDiff, reduceCtorEq, Nat.one_ne_zero, Nat.zero_ne_one, ↓ob a1, ↓ob b1, ↓ob c1, ↓ob hloop, ↓ob he.w4, ↓ob he.r4, ↓ob he.f4, ↓ob he.w2, ↓ob he.f2, ↓ob he.p0, he.o4, he.o2, he.o0, ↓(fun a b => @ob _ _ _ (he.tm hP hB a b)), ↓(fun a b => @ob _ _ _ (he.pl hP hB a b)), ↓(fun a b => @ob _ _ _ (he.mi hP hB a b)), ↓(fun a => @ob _ _ _ (he.rc hP hB a)), ↓(fun a => @ob _ _ _ (he.ng hB a)), ↓ob he1.w4, ↓ob he1.r4, ↓ob he1.f4, ↓ob he1.w2, ↓ob he1.f2, ↓ob he1.p0, he1.o4, he1.o2, he1.o0, ↓(fun a b => @ob _ _ _ (he1.tm hP hB a b)), ↓(fun a b => @ob _ _ _ (he1.pl hP hB a b)), ↓(fun a b => @ob _ _ _ (he1.mi hP hB a b)), ↓(fun a => @ob _ _ _ (he1.rc hP hB a)), ↓(fun a => @ob _ _ _ (he1.ng hB a)), ↓ob he2.w4, ↓ob he2.r4, ↓ob he2.f4, ↓ob he2.w2, ↓ob he2.f2, ↓ob he2.p0, he2.o4, he2.o2, he2.o0, ↓(fun a b => @ob _ _ _ (he2.tm hP hB a b)), ↓(fun a b => @ob _ _ _ (he2.pl hP hB a b)), ↓(fun a b => @ob _ _ _ (he2.mi hP hB a b)), ↓(fun a => @ob _ _ _ (he2.rc hP hB a)), ↓(fun a => @ob _ _ _ (he2.ng hB a))]
    · rw [if_neg h0]
      have hz := e_isZ hB d2 (by omega) (by have := ldV_le (sxF 4 A (X 0)) 4; omega)
      obtain ⟨r5, hp5, sz5, f1, f2, f3⟩ := e_pointOnPlane hP hB he4 hw (hA3.g d3) (c4.at (i := 1) (by omega))
      have he5 := he4.g f3
      have c5 := c4.g f3
      have hn2 := c5.len
      by_cases h1 : ldV (sxF 4 A (X 1)) 4 < 4
      · rw [if_pos h1]
        have hz1 := e_isN hB f2 (by omega) (by omega)
        have hloop : itX (fun s => f_X4_pointOfLines_L24 so a q s.1 s.2.1 s.2.2.1 s.2.2.2) (nI 0, hp3, sz3, 4) = some (.inr (some r5, hp5, sz5)) := by
          rw [itX_step (s' := (nI 1, hp4, sz4, 2))]
          · apply itX_stop
            (try dsimp only)
            unfold f_X4_pointOfLines_L24
            simp (disch := omega) only [↓Option.bind_some, ↓Option.elim_some, ↓Option.elim_none, Option.bind_some, Option.elim_some, Option.elim_none, Option.some.injEq, Sum.inl.injEq, Sum.inr.injEq, ↓reduceIte, m_side, lit_nI, lz_I, nI_add, pk_mul, pk_sub, nI_ge, nI_le, nI_lt, nI_nlt, gi_t, nI_clamp, nI_eq, pk_rem, Nat.zero_add, Nat.reduceAdd, Nat.reduceMul, Nat.reduceSub, Nat.reduceMod, Nat.reduceEqDiff, reduceCtorEq, Nat.one_ne_zero, Nat.zero_ne_one, ↓ob hn1, ↓ob hl1, ↓ob f1, ↓ob hz1, ↓ob he4.w4, ↓ob he4.r4, ↓ob he4.f4, ↓ob he4.w2, ↓ob he4.f2, ↓ob he4.p0, he4.o4, he4.o2, he4.o0, ↓(fun a b => @ob _ _ _ (he4.tm hP hB a b)), ↓(fun a b => @ob _ _ _ (he4.pl hP hB a b)), ↓(fun a b => @ob _ _ _ (he4.mi hP hB a b)), ↓(fun a => @ob _ _ _ (he4.rc hP hB a)), ↓(fun a => @ob _ _ _ (he4.ng hB a)), Nat.reduceLeDiff]
          · (try dsimp only)
            unfold f_X4_pointOfLines_L24
            simp (disch := omega) only [↓Option.bind_some, ↓Option.elim_some, ↓Option.elim_none, Option.bind_some, Option.elim_some, Option.elim_none, Option.some.injEq, Sum.inl.injEq, Sum.inr.injEq, ↓reduceIte, m_side, lit_nI, lz_I, nI_add, pk_mul, pk_sub, nI_ge, nI_le, nI_lt, nI_nlt, gi_t, nI_clamp, nI_eq, pk_rem, Nat.zero_add, Nat.reduceAdd, Nat.reduceMul, Nat.reduceSub, Nat.reduceMod, Nat.reduceEqDiff, reduceCtorEq, Nat.one_ne_zero, Nat.zero_ne_one, ↓ob hn0, ↓ob hl0, ↓ob d1, ↓ob hz, ↓ob he3.w4, ↓ob he3.r4, ↓ob he3.f4, ↓ob he3.w2, ↓ob he3.f2, ↓ob he3.p0, he3.o4, he3.o2, he3.o0, ↓(fun a b => @ob _ _ _ (he3.tm hP hB a b)), ↓(fun a b => @ob _ _ _ (he3.pl hP hB a b)), ↓(fun a b => @ob _ _ _ (he3.mi hP hB a b)), ↓(fun a => @ob _ _ _ (he3.rc hP hB a)), ↓(fun a => @ob _ _ _ (he3.ng hB a)), Nat.reduceLeDiff]
        refine ⟨some r5, hp5, sz5, ?_, ⟨r5, rfl, f2⟩, (((a3.tr b3).tr c3).tr d3).tr f3⟩
        unfold f_X4_pointOfLines
        simp (disch := omega) only [↓Option.bind_some, ↓Option.elim_some, ↓Option.elim_none, Option.bind_some, Option.elim_some, Option.elim_none, Option.some.injEq, Sum.inl.injEq, Sum.inr.injEq, ↓reduceIte, m_side, lit_nI, lz_I, nI_add, pk_mul, pk_sub, nI_ge, nI_le, nI_lt, nI_nlt, gi_t, nI_clamp, nI_eq, pk_rem, Nat.zero_add, Nat.reduceAdd, Nat.reduceMul, Nat.reduceSub, Nat.reduceMod, Nat.reduceEqDiff, reduceCtorEq, Nat.one_ne_zero, Nat.zero_ne_one, ↓ob a1, ↓ob b1, ↓ob c1, ↓ob hloop, ↓ob he.w4, ↓ob he.r4, ↓ob he.f4, ↓ob he.w2, ↓ob he.f2, ↓ob he.p0, he.o4, he.o2, he.o0, ↓(fun a b => @ob _ _ _ (he.tm hP hB a b)), ↓(fun a b => @ob _ _ _ (he.pl hP hB a b)), ↓(fun a b => @ob _ _ _ (he.mi hP hB a b)), ↓(fun a => @ob _ _ _ (he.rc hP hB a)), ↓(fun a => @ob _ _ _ (he.ng hB a)), ↓ob he1.w4, ↓ob he1.r4, ↓ob he1.f4, ↓ob he1.w2, ↓ob he1.f2, ↓ob he1.p0, he1.o4, he1.o2, he1.o0, ↓(fun a b => @ob _ _ _ (he1.tm hP hB a b)), ↓(fun a b => @ob _ _ _ (he1.pl hP hB a b)), ↓(fun a b => @ob _ _ _ (he1.mi hP hB a b)), ↓(fun a => @ob _ _ _ (he1.rc hP hB a)), ↓(fun a => @ob _ _ _ (he1.ng hB a)), ↓ob he2.w4, ↓ob he2.r4, ↓ob he2.f4, ↓ob he2.w2, ↓ob he2.f2, ↓ob he2.p0, he2.o4, he2.o2, he2.o0, ↓(fun a b => @ob _ _ _ (he2.tm hP hB a b)), ↓(fun a b => @ob _ _ _ (he2.pl hP hB a b)), ↓(fun a b => @ob _ _ _ (he2.mi hP hB a b)), ↓(fun a => @ob _ _ _ (he2.rc hP hB a)), ↓(fun a => @ob _ _ _ (he2.ng hB a))]
      · rw [if_neg h1]
        have hz1 := e_isZ hB f2 (by omega) (by have := ldV_le (sxF 4 A (X 1)) 4; omega)
        have hloop : itX (fun s => f_X4_pointOfLines_L24 so a q s.1 s.2.1 s.2.2.1 s.2.2.2) (nI 0, hp3, sz3, 4) = some (.inl (hp5, sz5, 0)) := by
          rw [itX_step (s' := (nI 1, hp4, sz4, 2)), itX_step (s' := (nI 2, hp5, sz5, 0))]
          · apply itX_stop
            (try dsimp only)
            unfold f_X4_pointOfLines_L24
            simp (disch := omega) only [↓Option.bind_some, ↓Option.elim_some, ↓Option.elim_none, Option.bind_some, Option.elim_some, Option.elim_none, Option.some.injEq, Sum.inl.injEq, Sum.inr.injEq, ↓reduceIte, m_side, lit_nI, lz_I, nI_add, pk_mul, pk_sub, nI_ge, nI_le, nI_lt, nI_nlt, gi_t, nI_clamp, nI_eq, pk_rem, Nat.zero_add, Nat.reduceAdd, Nat.reduceMul, Nat.reduceSub, Nat.reduceMod, Nat.reduceEqDiff, reduceCtorEq, Nat.one_ne_zero, Nat.zero_ne_one, ↓ob hn2]
          · (try dsimp only)
            unfold f_X4_pointOfLines_L24
            simp (disch := omega) only [↓Option.bind_some, ↓Option.elim_some, ↓Option.elim_none, Option.bind_some, Option.elim_some, Option.elim_none, Option.some.injEq, Sum.inl.injEq, Sum.inr.injEq, ↓reduceIte, m_side, lit_nI, lz_I, nI_add, pk_mul, pk_sub, nI_ge, nI_le, nI_lt, nI_nlt, gi_t, nI_clamp, nI_eq, pk_rem, Nat.zero_add, Nat.reduceAdd, Nat.reduceMul, Nat.reduceSub, Nat.reduceMod, Nat.reduceEqDiff, reduceCtorEq, Nat.one_ne_zero, Nat.zero_ne_one, ↓ob hn1, ↓ob hl1, ↓ob f1, ↓ob hz1, ↓ob he4.w4, ↓ob he4.r4, ↓ob he4.f4, ↓ob he4.w2, ↓ob he4.f2, ↓ob he4.p0, he4.o4, he4.o2, he4.o0, ↓(fun a b => @ob _ _ _ (he4.tm hP hB a b)), ↓(fun a b => @ob _ _ _ (he4.pl hP hB a b)), ↓(fun a b => @ob _ _ _ (he4.mi hP hB a b)), ↓(fun a => @ob _ _ _ (he4.rc hP hB a)), ↓(fun a => @ob _ _ _ (he4.ng hB a)), Nat.reduceLeDiff]
          · (try dsimp only)
            unfold f_X4_pointOfLines_L24
            simp (disch := omega) only [↓Option.bind_some, ↓Option.elim_some, ↓Option.elim_none, Option.bind_some, Option.elim_some, Option.elim_none, Option.some.injEq, Sum.inl.injEq, Sum.inr.injEq, ↓reduceIte, m_side, lit_nI, lz_I, nI_add, pk_mul, pk_sub, nI_ge, nI_le, nI_lt, nI_nlt, gi_t, nI_clamp, nI_eq, pk_rem, Nat.zero_add, Nat.reduceAdd, Nat.reduceMul, Nat.reduceSub, Nat.reduceMod, Nat.reduceEqDiff, reduceCtorEq, Nat.one_ne_zero, Nat.zero_ne_one, ↓ob hn0, ↓ob hl0, ↓ob d1, ↓ob hz, ↓ob he3.w4, ↓ob he3.r4, ↓ob he3.f4, ↓ob he3.w2, ↓ob he3.f2, ↓ob he3.p0, he3.o4, he3.o2, he3.o0, ↓(fun a b => @ob _ _ _ (he3.tm hP hB a b)), ↓(fun a b => @ob _ _ _ (he3.pl hP hB a b)), ↓(fun a b => @ob _ _ _ (he3.mi hP hB a b)), ↓(fun a => @ob _ _ _ (he3.rc hP hB a)), ↓(fun a => @ob _ _ _ (he3.ng hB a)), Nat.reduceLeDiff]
        refine ⟨none, hp5, sz5, ?_, rfl, (((a3.tr b3).tr c3).tr d3).tr f3⟩
        unfold f_X4_pointOfLines
        simp (disch := omega) only [↓Option.bind_some, ↓Option.elim_some, ↓Option.elim_none, Option.bind_some, Option.elim_some, Option.elim_none, Option.some.injEq, Sum.inl.injEq, Sum.inr.injEq, ↓reduceIte, m_side, lit_nI, lz_I, nI_add, pk_mul, pk_sub, nI_ge, nI_le, nI_lt, nI_nlt, gi_t, nI_clamp, nI_eq, pk_rem, Nat.zero_add, Nat.reduceAdd, Nat.reduceMul, Nat.reduceSub, Nat.reduceMod, Nat.reduceEqDiff, reduceCtorEq, Nat.one_ne_zero, Nat.zero_ne_one, ↓ob a1, ↓ob b1, ↓ob c1, ↓ob hloop, ↓ob he.w4, ↓ob he.r4, ↓ob he.f4, ↓ob he.w2, ↓ob he.f2, ↓ob he.p0, he.o4, he.o2, he.o0, ↓(fun a b => @ob _ _ _ (he.tm hP hB a b)), ↓(fun a b => @ob _ _ _ (he.pl hP hB a b)), ↓(fun a b => @ob _ _ _ (he.mi hP hB a b)), ↓(fun a => @ob _ _ _ (he.rc hP hB a)), ↓(fun a => @ob _ _ _ (he.ng hB a)), ↓ob he1.w4, ↓ob he1.r4, ↓ob he1.f4, ↓ob he1.w2, ↓ob he1.f2, ↓ob he1.p0, he1.o4, he1.o2, he1.o0, ↓(fun a b => @ob _ _ _ (he1.tm hP hB a b)), ↓(fun a b => @ob _ _ _ (he1.pl hP hB a b)), ↓(fun a b => @ob _ _ _ (he1.mi hP hB a b)), ↓(fun a => @ob _ _ _ (he1.rc hP hB a)), ↓(fun a => @ob _ _ _ (he1.ng hB a)), ↓ob he2.w4, ↓ob he2.r4, ↓ob he2.f4, ↓ob he2.w2, ↓ob he2.f2, ↓ob he2.p0, he2.o4, he2.o2, he2.o0, ↓(fun a b => @ob _ _ _ (he2.tm hP hB a b)), ↓(fun a b => @ob _ _ _ (he2.pl hP hB a b)), ↓(fun a b => @ob _ _ _ (he2.mi hP hB a b)), ↓(fun a => @ob _ _ _ (he2.rc hP hB a)), ↓(fun a => @ob _ _ _ (he2.ng hB a))]
  · rw [if_neg hc] at a1 ⊢
    refine ⟨none, hp1, sz1, ?_, rfl, a3⟩
    unfold f_X4_pointOfLines
    simp (disch := omega) only [↓Option.bind_some, ↓Option.elim_some, ↓Option.elim_none, Option.bind_some, Option.elim_some, Option.elim_none, Option.some.injEq, Sum.inl.injEq, Sum.inr.injEq, ↓reduceIte, m_side, lit_nI, lz_I, nI_add, pk_mul, pk_sub, nI_ge, nI_le, nI_lt, nI_nlt, gi_t, nI_clamp, nI_eq, pk_rem, Nat.zero_add, Nat.reduceAdd, Nat.reduceMul, Nat.reduceSub, Nat.reduceMod, Nat.reduceEqDiff, reduceCtorEq, Nat.one_ne_zero, Nat.zero_ne_one, ↓ob a1, ↓ob he.w4, ↓ob he.r4, ↓ob he.f4, ↓ob he.w2, ↓ob he.f2, ↓ob he.p0, he.o4, he.o2, he.o0, ↓(fun a b => @ob _ _ _ (he.tm hP hB a b)), ↓(fun a b => @ob _ _ _ (he.pl hP hB a b)), ↓(fun a b => @ob _ _ _ (he.mi hP hB a b)), ↓(fun a => @ob _ _ _ (he.rc hP hB a)), ↓(fun a => @ob _ _ _ (he.ng hB a))]
theorem e_planeOfLines [NeZero P] (hP : 2 < P) (hB : P < 2 ^ 31) {hp : cH} {so ro fo sz a b : Nat} {A B : Nat → Fin P} (he : eV P 4 so ro fo hp sz) (hA : vA hp sz a 6 A) (hB' : vA hp sz b 6 B) (hnz : ldV (flF 6 (flF 6 B)) 6 < 6) : ∃ r hp' sz', f_X4_planeOfLines hp sz so a b = some (r, hp', sz') ∧ oA hp' sz' r 4 (ptF (flF 6 A) (flF 6 B)) ∧ gro hp sz hp' sz' := by
  obtain ⟨hp1, a1, a2, a3⟩ := e_flipped hP hB he (by omega) hA
  have he1 := he.g a3
  obtain ⟨hp2, b1, b2, b3⟩ := e_flipped hP hB he1 (by omega) (hB'.g a3)
  have he2 := he1.g b3
  obtain ⟨r, hp3, sz3, c1, c2, c3⟩ := e_pointOfLines hP hB he2 (a2.g b3) b2 hnz
  refine ⟨r, hp3, sz3, ?_, c2, (a3.tr b3).tr c3⟩
  unfold f_X4_planeOfLines
  simp (disch := omega) only [↓Option.bind_some, ↓Option.elim_some, ↓Option.elim_none, Option.bind_some, Option.elim_some, Option.elim_none, Option.some.injEq, Sum.inl.injEq, Sum.inr.injEq, ↓reduceIte, m_side, lit_nI, lz_I, nI_add, pk_mul, pk_sub, nI_ge, nI_le, nI_lt, nI_nlt, gi_t, nI_clamp, nI_eq, pk_rem, Nat.zero_add, Nat.reduceAdd, Nat.reduceMul, Nat.reduceSub, Nat.reduceMod, Nat.reduceEqDiff, reduceCtorEq, Nat.one_ne_zero, Nat.zero_ne_one, ↓ob a1, ↓ob b1, ↓ob c1, ↓ob he.w4, ↓ob he.r4, ↓ob he.f4, ↓ob he.w2, ↓ob he.f2, ↓ob he.p0, he.o4, he.o2, he.o0, ↓(fun a b => @ob _ _ _ (he.tm hP hB a b)), ↓(fun a b => @ob _ _ _ (he.pl hP hB a b)), ↓(fun a b => @ob _ _ _ (he.mi hP hB a b)), ↓(fun a => @ob _ _ _ (he.rc hP hB a)), ↓(fun a => @ob _ _ _ (he.ng hB a)), ↓ob he1.w4, ↓ob he1.r4, ↓ob he1.f4, ↓ob he1.w2, ↓ob he1.f2, ↓ob he1.p0, he1.o4, he1.o2, he1.o0, ↓(fun a b => @ob _ _ _ (he1.tm hP hB a b)), ↓(fun a b => @ob _ _ _ (he1.pl hP hB a b)), ↓(fun a b => @ob _ _ _ (he1.mi hP hB a b)), ↓(fun a => @ob _ _ _ (he1.rc hP hB a)), ↓(fun a => @ob _ _ _ (he1.ng hB a)), ↓ob he2.w4, ↓ob he2.r4, ↓ob he2.f4, ↓ob he2.w2, ↓ob he2.f2, ↓ob he2.p0, he2.o4, he2.o2, he2.o0, ↓(fun a b => @ob _ _ _ (he2.tm hP hB a b)), ↓(fun a b => @ob _ _ _ (he2.pl hP hB a b)), ↓(fun a b => @ob _ _ _ (he2.mi hP hB a b)), ↓(fun a => @ob _ _ _ (he2.rc hP hB a)), ↓(fun a => @ob _ _ _ (he2.ng hB a))]
theorem e_lineImage [NeZero P] (hP : 2 < P) (hB : P < 2 ^ 31) {hp : cH} {w so ro fo sz m a : Nat} {M L : Nat → Fin P} (he : eV P w so ro fo hp sz) (hw : w = 3 ∨ w = 4) (hM : vA hp sz m (w * w) M) (hL : vA hp sz a (swi w w) L) (hnz : ldV (blF w L) (swi w w) < swi w w) : ∃ r hp' sz', f_X4_lineImage hp sz so m a = some (r, hp', sz') ∧ vA hp' sz' r (swi w w) (wgF w (imV w M (bwF w (blF w L) 0)) (imV w M (bwF w (blF w L) 1))) ∧ gro hp sz hp' sz' := by
  obtain ⟨q, hp1, sz1, A, a1, a2, a3⟩ := e_baseOfLine hP hB he hw hL hnz
  have he1 := he.g a3
  obtain ⟨hp2, b1, b2, b3⟩ := e_image hP hB he1 hw (hM.g a3) (a2.at (i := 0) (by omega))
  have he2 := he1.g b3
  have a4 := a2.g b3
  obtain ⟨hp3, c1, c2, c3⟩ := e_image hP hB he2 hw ((hM.g a3).g b3) (a4.at (i := 1) (by omega))
  have he3 := he2.g c3
  obtain ⟨hp4, d1, d2, d3⟩ := e_wedge hP hB he3 hw (b2.g c3) c2
  have hl0 := a2.ld (i := 0) (by omega) (by omega)
  have hl1 := a4.ld (i := 1) (by omega) (by omega)
  refine ⟨_, hp4, _, ?_, d2, ((a3.tr b3).tr c3).tr d3⟩
  unfold f_X4_lineImage
  simp (disch := omega) only [↓Option.bind_some, ↓Option.elim_some, ↓Option.elim_none, Option.bind_some, Option.elim_some, Option.elim_none, Option.some.injEq, Sum.inl.injEq, Sum.inr.injEq, ↓reduceIte, m_side, lit_nI, lz_I, nI_add, pk_mul, pk_sub, nI_ge, nI_le, nI_lt, nI_nlt, gi_t, nI_clamp, nI_eq, pk_rem, Nat.zero_add, Nat.reduceAdd, Nat.reduceMul, Nat.reduceSub, Nat.reduceMod, Nat.reduceEqDiff, reduceCtorEq, Nat.one_ne_zero, Nat.zero_ne_one, ↓ob a1, ↓ob hl0, ↓ob b1, ↓ob hl1, ↓ob c1, ↓ob d1, ↓ob he.w4, ↓ob he.r4, ↓ob he.f4, ↓ob he.w2, ↓ob he.f2, ↓ob he.p0, he.o4, he.o2, he.o0, ↓(fun a b => @ob _ _ _ (he.tm hP hB a b)), ↓(fun a b => @ob _ _ _ (he.pl hP hB a b)), ↓(fun a b => @ob _ _ _ (he.mi hP hB a b)), ↓(fun a => @ob _ _ _ (he.rc hP hB a)), ↓(fun a => @ob _ _ _ (he.ng hB a)), ↓ob he1.w4, ↓ob he1.r4, ↓ob he1.f4, ↓ob he1.w2, ↓ob he1.f2, ↓ob he1.p0, he1.o4, he1.o2, he1.o0, ↓(fun a b => @ob _ _ _ (he1.tm hP hB a b)), ↓(fun a b => @ob _ _ _ (he1.pl hP hB a b)), ↓(fun a b => @ob _ _ _ (he1.mi hP hB a b)), ↓(fun a => @ob _ _ _ (he1.rc hP hB a)), ↓(fun a => @ob _ _ _ (he1.ng hB a)), ↓ob he2.w4, ↓ob he2.r4, ↓ob he2.f4, ↓ob he2.w2, ↓ob he2.f2, ↓ob he2.p0, he2.o4, he2.o2, he2.o0, ↓(fun a b => @ob _ _ _ (he2.tm hP hB a b)), ↓(fun a b => @ob _ _ _ (he2.pl hP hB a b)), ↓(fun a b => @ob _ _ _ (he2.mi hP hB a b)), ↓(fun a => @ob _ _ _ (he2.rc hP hB a)), ↓(fun a => @ob _ _ _ (he2.ng hB a)), ↓ob he3.w4, ↓ob he3.r4, ↓ob he3.f4, ↓ob he3.w2, ↓ob he3.f2, ↓ob he3.p0, he3.o4, he3.o2, he3.o0, ↓(fun a b => @ob _ _ _ (he3.tm hP hB a b)), ↓(fun a b => @ob _ _ _ (he3.pl hP hB a b)), ↓(fun a b => @ob _ _ _ (he3.mi hP hB a b)), ↓(fun a => @ob _ _ _ (he3.rc hP hB a)), ↓(fun a => @ob _ _ _ (he3.ng hB a))]
theorem e_bracket [NeZero P] (hP : 2 < P) (hB : P < 2 ^ 31) {hp : cH} {w so ro fo sz a b k : Nat} {x y : Nat → Fin P} (he : eV P w so ro fo hp sz) (hw : w = 3 ∨ w = 4) (hx : vA hp sz a w x) (hy : vA hp sz b w y) (hk : k < swi w w) : ∃ hp' sz', f_X4_bracket hp sz so a b (nI k) = some (fL (wgF w x y k), hp', sz') ∧ gro hp sz hp' sz' := by
  obtain ⟨hp1, a1, a2, a3⟩ := e_wedge hP hB he hw hx hy
  have hs := swi_w hw
  have hl := a2.ld hk (by omega)
  refine ⟨hp1, _, ?_, a3⟩
  unfold f_X4_bracket
  simp (disch := omega) only [↓Option.bind_some, ↓Option.elim_some, ↓Option.elim_none, Option.bind_some, Option.elim_some, Option.elim_none, Option.some.injEq, Sum.inl.injEq, Sum.inr.injEq, ↓reduceIte, m_side, lit_nI, lz_I, nI_add, pk_mul, pk_sub, nI_ge, nI_le, nI_lt, nI_nlt, gi_t, nI_clamp, nI_eq, pk_rem, Nat.zero_add, Nat.reduceAdd, Nat.reduceMul, Nat.reduceSub, Nat.reduceMod, Nat.reduceEqDiff, reduceCtorEq, Nat.one_ne_zero, Nat.zero_ne_one, ↓ob a1, ↓ob hl, ↓ob he.w4, ↓ob he.r4, ↓ob he.f4, ↓ob he.w2, ↓ob he.f2, ↓ob he.p0, he.o4, he.o2, he.o0, ↓(fun a b => @ob _ _ _ (he.tm hP hB a b)), ↓(fun a b => @ob _ _ _ (he.pl hP hB a b)), ↓(fun a b => @ob _ _ _ (he.mi hP hB a b)), ↓(fun a => @ob _ _ _ (he.rc hP hB a)), ↓(fun a => @ob _ _ _ (he.ng hB a))]
theorem e_places [NeZero P] (hP : 2 < P) (hB : P < 2 ^ 31) {hp : cH} {w so ro fo sz a m k1 : Nat} {A : Nat → Nat} {X : Nat → Nat → Fin P} (he : eV P w so ro fo hp sz) (hw : w = 3 ∨ w = 4) (hX : gP hp sz a m w A X) (hm : m ≤ 4) (hk : 1 ≤ k1) (hk2 : k1 < m) (hn : ldV (wgF w (X 0) (X k1)) (swi w w) < swi w w) (hz : ∀ k, 1 ≤ k → k < k1 → ldV (wgF w (X 0) (X k)) (swi w w) = swi w w) : ∃ hp' sz', f_X4_placeOfBrackets hp sz so a = some (nI (ldV (wgF w (X 0) (X k1)) (swi w w)), hp', sz') ∧ gro hp sz hp' sz' := by
  have hs := swi_w hw
  have key : ∀ n k hp1 sz1 rc, k + n = k1 → 1 ≤ k → m ≤ rc + k → gro hp sz hp1 sz1 → ∃ hp2 sz2, itX (fun s => f_X4_placeOfBrackets_L2 so a s.1 s.2.1 s.2.2.1 s.2.2.2) (nI k, hp1, sz1, rc) = some (.inr (nI (ldV (wgF w (X 0) (X k1)) (swi w w)), hp2, sz2)) ∧ gro hp sz hp2 sz2 := by
    intro n
    induction n with
    | zero =>
      intro k hp1 sz1 rc e h1 h2 hg
      have e2 : k = k1 := by omega
      subst e2
      have he1 := he.g hg
      have hX1 := hX.g hg
      obtain ⟨hp2, a1, a2, a3⟩ := e_wedge hP hB he1 hw (hX1.at (i := 0) (by omega)) (hX1.at (i := k) (by omega))
      have l0 := hX1.ld (i := 0) (by omega) (by omega)
      have l1 := hX1.ld (i := k) (by omega) (by omega)
      have hl := hX1.len
      have z1 := e_isN hB a2 (by omega) (by omega)
      have z2 := e_lead hB a2 (by omega)
      refine ⟨hp2, sz1 + 1, ?_, hg.tr a3⟩
      apply itX_stop
      (try dsimp only)
      unfold f_X4_placeOfBrackets_L2
      simp (disch := omega) only [↓Option.bind_some, ↓Option.elim_some, ↓Option.elim_none, Option.bind_some, Option.elim_some, Option.elim_none, Option.some.injEq, Sum.inl.injEq, Sum.inr.injEq, ↓reduceIte, m_side, lit_nI, lz_I, nI_add, pk_mul, pk_sub, nI_ge, nI_le, nI_lt, nI_nlt, gi_t, nI_clamp, nI_eq, pk_rem, Nat.zero_add, Nat.reduceAdd, Nat.reduceMul, Nat.reduceSub, Nat.reduceMod, Nat.reduceEqDiff, reduceCtorEq, Nat.one_ne_zero, Nat.zero_ne_one, ↓ob hl, ↓ob l0, ↓ob l1, ↓ob a1, ↓ob z1, ↓ob z2, ↓ob he1.w4, ↓ob he1.r4, ↓ob he1.f4, ↓ob he1.w2, ↓ob he1.f2, ↓ob he1.p0, he1.o4, he1.o2, he1.o0, ↓(fun a b => @ob _ _ _ (he1.tm hP hB a b)), ↓(fun a b => @ob _ _ _ (he1.pl hP hB a b)), ↓(fun a b => @ob _ _ _ (he1.mi hP hB a b)), ↓(fun a => @ob _ _ _ (he1.rc hP hB a)), ↓(fun a => @ob _ _ _ (he1.ng hB a)), (show 1 ≤ rc by omega)]
    | succ n ih =>
      intro k hp1 sz1 rc e h1 h2 hg
      have he1 := he.g hg
      have hX1 := hX.g hg
      obtain ⟨hp2, a1, a2, a3⟩ := e_wedge hP hB he1 hw (hX1.at (i := 0) (by omega)) (hX1.at (i := k) (by omega))
      have l0 := hX1.ld (i := 0) (by omega) (by omega)
      have l1 := hX1.ld (i := k) (by omega) (by omega)
      have hl := hX1.len
      have z1 := e_isZ hB a2 (by omega) (hz k h1 (by omega))
      obtain ⟨hp3, sz3, b1, b2⟩ := ih (k + 1) hp2 (sz1 + 1) (rc - 1) (by omega) (by omega) (by omega) (hg.tr a3)
      refine ⟨hp3, sz3, ?_, b2⟩
      rw [itX_step (s' := (nI (k + 1), hp2, sz1 + 1, rc - 1)), b1]
      (try dsimp only)
      unfold f_X4_placeOfBrackets_L2
      simp (disch := omega) only [↓Option.bind_some, ↓Option.elim_some, ↓Option.elim_none, Option.bind_some, Option.elim_some, Option.elim_none, Option.some.injEq, Sum.inl.injEq, Sum.inr.injEq, ↓reduceIte, m_side, lit_nI, lz_I, nI_add, pk_mul, pk_sub, nI_ge, nI_le, nI_lt, nI_nlt, gi_t, nI_clamp, nI_eq, pk_rem, Nat.zero_add, Nat.reduceAdd, Nat.reduceMul, Nat.reduceSub, Nat.reduceMod, Nat.reduceEqDiff, reduceCtorEq, Nat.one_ne_zero, Nat.zero_ne_one, ↓ob hl, ↓ob l0, ↓ob l1, ↓ob a1, ↓ob z1, ↓ob he1.w4, ↓ob he1.r4, ↓ob he1.f4, ↓ob he1.w2, ↓ob he1.f2, ↓ob he1.p0, he1.o4, he1.o2, he1.o0, ↓(fun a b => @ob _ _ _ (he1.tm hP hB a b)), ↓(fun a b => @ob _ _ _ (he1.pl hP hB a b)), ↓(fun a b => @ob _ _ _ (he1.mi hP hB a b)), ↓(fun a => @ob _ _ _ (he1.rc hP hB a)), ↓(fun a => @ob _ _ _ (he1.ng hB a)), (show 1 ≤ rc by omega)]
  obtain ⟨hp2, sz2, b1, b2⟩ := key (k1 - 1) 1 hp sz 3 (by omega) (by omega) (by omega) gro.rf
  refine ⟨hp2, sz2, ?_, b2⟩
  unfold f_X4_placeOfBrackets
  simp (disch := omega) only [↓Option.bind_some, ↓Option.elim_some, ↓Option.elim_none, Option.bind_some, Option.elim_some, Option.elim_none, Option.some.injEq, Sum.inl.injEq, Sum.inr.injEq, ↓reduceIte, m_side, lit_nI, lz_I, nI_add, pk_mul, pk_sub, nI_ge, nI_le, nI_lt, nI_nlt, gi_t, nI_clamp, nI_eq, pk_rem, Nat.zero_add, Nat.reduceAdd, Nat.reduceMul, Nat.reduceSub, Nat.reduceMod, Nat.reduceEqDiff, reduceCtorEq, Nat.one_ne_zero, Nat.zero_ne_one, ↓ob b1]
end CSPC2
