section CSTEP
variable {P : Nat}
/-- an array of n longs -/
def ra (hp : cH) (sz a n : Nat) (v : Nat → Int64) : Prop := (∃ f, hp a = some (.inl (1, n, .inr (.inl f))) ∧ ∀ j, j < n → f j = v j) ∧ a < sz
theorem ra.len {hp : cH} {sz a n : Nat} {v : Nat → Int64} (h : ra hp sz a n v) : aN hp a = some (nI n) := by
  obtain ⟨⟨f, h1, h2⟩, -⟩ := h
  unfold aN
  rw [h1]
  rfl
theorem ra.ld {hp : cH} {sz a n j : Nat} {v : Nat → Int64} (h : ra hp sz a n v) (hj : j < n) (hn : n < 2 ^ 31) : lJ hp a (nI j) = some (v j) := by
  obtain ⟨⟨f, h1, h2⟩, -⟩ := h
  unfold lJ aJ
  rw [h1]
  show (if gi (nI j) n then some (f (nI j).toNatClampNeg) else none) = _
  rw [if_pos (gi_nI hj hn), nI_clamp (by omega), h2 j hj]
theorem ra_hW {hp : cH} {sz n : Nat} {d v : Nat → Int64} (h : ∀ j, j < n → d j = v j) : ra (hW hp sz n d) (sz + 1) sz n v := ⟨⟨d, hW_a, h⟩, by omega⟩
/-- the steps on a quadric, in order: a t t + 2 b t + c -/
def stN [NeZero P] (a b c w : Fin P) : Nat := if a ≠ 0 then (if b * b - a * c ≠ 0 ∧ (b * b - a * c) ^ ((P - 1) / 2) ≠ 1 then 0 else if fi a * (- w - b) = fi a * (w - b) then 1 else 2) else if b ≠ 0 then 2 else 1
def stV [NeZero P] (a b c w : Fin P) (k : Nat) : Int64 := if a ≠ 0 then (if k = 0 then (if (fi a * (w - b)).val < (fi a * (- w - b)).val then fL (fi a * (w - b)) else fL (fi a * (- w - b))) else (if (fi a * (- w - b)).val < (fi a * (w - b)).val then fL (fi a * (w - b)) else fL (fi a * (- w - b)))) else if b ≠ 0 then (if k = 0 then fL (- (c * fi (b + b))) else lN P) else lN P
theorem e_root (hp0 : isP P) (ho : P % 2 = 1) [NeZero P] (hB : P < 2 ^ 31) {hp : cH} {w so ro fo sz : Nat} (he : eV P w so ro fo hp sz) {v r : Fin P} (h1 : r * r = v) (h2 : 2 * r.val ≤ P) (hv : v = 0 ∨ v ^ ((P - 1) / 2) = 1) : f_X0_squareRoot hp fo (fL v) = some (fL r) := by
  obtain ⟨u, u1, u2, u3, u4⟩ := root_both hp0 ho hB he.p0 he.o0 v hv
  have e : u = r := min_uniq hp0 ho (by rw [u1, h1]) u2 h2
  rw [u4, e]
theorem fL_pos (hB : P < 2 ^ 31) (x : Fin P) : (0 : Int64) ≤ fL x := by
  unfold fL
  have := fL_lt x hB
  rw [Int64.le_iff_toInt_le, pf_lI (by omega)]
  show (0 : Int) ≤ _
  omega
theorem e_stepsSq (hp0 : isP P) (ho : P % 2 = 1) [NeZero P] (hB : P < 2 ^ 31) {hp : cH} {w so ro fo sz : Nat} (he : eV P w so ro fo hp sz) (a b c u : Fin P) (ha : a ≠ 0) (hu : (b * b - a * c = 0 ∨ (b * b - a * c) ^ ((P - 1) / 2) = 1) → u * u = b * b - a * c ∧ 2 * u.val ≤ P) : ∃ r hp' sz', f_X4_stepsOfSquare hp sz so (fL a) (fL b) (fL c) = some (r, hp', sz') ∧ ra hp' sz' r (stN a b c u) (stV a b c u) ∧ gro hp sz hp' sz' := by
  have hP := hp0.1
  by_cases hD : b * b - a * c = 0 ∨ (b * b - a * c) ^ ((P - 1) / 2) = 1
  · obtain ⟨u1, u2⟩ := hu hD
    have hr := e_root hp0 ho hB he u1 u2 hD
    have hD2 : ¬ (b * b - a * c ≠ 0 ∧ (b * b - a * c) ^ ((P - 1) / 2) ≠ 1) := fun q => by
      rcases hD with z | z
      · exact q.1 z
      · exact q.2 z
    have hpos := fL_pos hB u
    by_cases e : fi a * (- u - b) = fi a * (u - b)
    · refine ⟨sz, hW hp sz 1 (vp_updL (fun _ => 0) 0 (fL (fi a * (- u - b)))), sz + 1, ?_, ?_, gro.nw⟩
      · unfold f_X4_stepsOfSquare
        have n1 : nJ hp sz 1 = some (hW hp sz 1 (fun _ => 0)) := nJ_h (n := 1) (by omega)
        simp (disch := omega) only [↓Option.bind_some, ↓Option.elim_some, ↓Option.elim_none, Option.bind_some, Option.elim_some, Option.elim_none, Option.some.injEq, Sum.inl.injEq, Sum.inr.injEq, ↓reduceIte, m_side, lit_nI, lz_I, nI_add, pk_mul, pk_sub, nI_ge, nI_le, nI_lt, nI_nlt, gi_t, nI_clamp, nI_eq, pk_rem, Nat.zero_add, Nat.reduceAdd, Nat.reduceMul, Nat.reduceSub, Nat.reduceMod, Nat.reduceEqDiff, reduceCtorEq, Nat.one_ne_zero, Nat.zero_ne_one, ↓ob hr, ↓ob n1, ↓ob he.w4, ↓ob he.r4, ↓ob he.f4, ↓ob he.w2, ↓ob he.f2, ↓ob he.p0, he.o4, he.o2, he.o0, ↓(fun a b => @ob _ _ _ (he.tm hP hB a b)), ↓(fun a b => @ob _ _ _ (he.pl hP hB a b)), ↓(fun a b => @ob _ _ _ (he.mi hP hB a b)), ↓(fun a => @ob _ _ _ (he.rc hP hB a)), ↓(fun a => @ob _ _ _ (he.ng hB a)), hpos, fL_eq hB, e, sJ_h]
      · unfold stN stV
        rw [if_pos ha, if_neg hD2, if_pos e]
        refine ra_hW (fun j hj => ?_)
        have ej : j = 0 := by omega
        subst ej
        (try dsimp only)
        rw [if_pos ha, if_pos rfl, pk_uLs, e, if_neg (by omega)]
    · have hne : (fi a * (- u - b)).val ≠ (fi a * (u - b)).val := fun q => e (Fin.ext q)
      have n1 : nJ hp sz 2 = some (hW hp sz 2 (fun _ => 0)) := nJ_h (n := 2) (by omega)
      refine ⟨sz, hW hp sz 2 (vp_updL (vp_updL (fun _ => 0) 0 (stV a b c u 0)) 1 (stV a b c u 1)), sz + 1, ?_, ?_, gro.nw⟩
      · unfold f_X4_stepsOfSquare f_J9_min_f86c9 f_J9_max_f86c9 stV
        by_cases l : (fi a * (u - b)).val < (fi a * (- u - b)).val
        · rw [if_pos ha, if_pos rfl, if_pos l, if_pos ha, if_neg (by omega), if_neg (by omega)]
          have l1 : fL (fi a * (u - b)) < fL (fi a * (- u - b)) := (fL_less hB).mpr l
          have l2 : ¬ fL (fi a * (- u - b)) < fL (fi a * (u - b)) := fun q => by have := (fL_less hB).mp q; omega
          simp (disch := omega) only [↓Option.bind_some, ↓Option.elim_some, ↓Option.elim_none, Option.bind_some, Option.elim_some, Option.elim_none, Option.some.injEq, Sum.inl.injEq, Sum.inr.injEq, ↓reduceIte, m_side, lit_nI, lz_I, nI_add, pk_mul, pk_sub, nI_ge, nI_le, nI_lt, nI_nlt, gi_t, nI_clamp, nI_eq, pk_rem, Nat.zero_add, Nat.reduceAdd, Nat.reduceMul, Nat.reduceSub, Nat.reduceMod, Nat.reduceEqDiff, reduceCtorEq, Nat.one_ne_zero, Nat.zero_ne_one, ↓ob hr, ↓ob n1, ↓ob he.w4, ↓ob he.r4, ↓ob he.f4, ↓ob he.w2, ↓ob he.f2, ↓ob he.p0, he.o4, he.o2, he.o0, ↓(fun a b => @ob _ _ _ (he.tm hP hB a b)), ↓(fun a b => @ob _ _ _ (he.pl hP hB a b)), ↓(fun a b => @ob _ _ _ (he.mi hP hB a b)), ↓(fun a => @ob _ _ _ (he.rc hP hB a)), ↓(fun a => @ob _ _ _ (he.ng hB a)), hpos, fL_eq hB, e, l1, l2, sJ_h]
        · rw [if_pos ha, if_pos rfl, if_neg l, if_pos ha, if_neg (by omega), if_pos (by omega)]
          have l1 : ¬ fL (fi a * (u - b)) < fL (fi a * (- u - b)) := fun q => l ((fL_less hB).mp q)
          have l2 : fL (fi a * (- u - b)) < fL (fi a * (u - b)) := (fL_less hB).mpr (by omega)
          simp (disch := omega) only [↓Option.bind_some, ↓Option.elim_some, ↓Option.elim_none, Option.bind_some, Option.elim_some, Option.elim_none, Option.some.injEq, Sum.inl.injEq, Sum.inr.injEq, ↓reduceIte, m_side, lit_nI, lz_I, nI_add, pk_mul, pk_sub, nI_ge, nI_le, nI_lt, nI_nlt, gi_t, nI_clamp, nI_eq, pk_rem, Nat.zero_add, Nat.reduceAdd, Nat.reduceMul, Nat.reduceSub, Nat.reduceMod, Nat.reduceEqDiff, reduceCtorEq, Nat.one_ne_zero, Nat.zero_ne_one, ↓ob hr, ↓ob n1, ↓ob he.w4, ↓ob he.r4, ↓ob he.f4, ↓ob he.w2, ↓ob he.f2, ↓ob he.p0, he.o4, he.o2, he.o0, ↓(fun a b => @ob _ _ _ (he.tm hP hB a b)), ↓(fun a b => @ob _ _ _ (he.pl hP hB a b)), ↓(fun a b => @ob _ _ _ (he.mi hP hB a b)), ↓(fun a => @ob _ _ _ (he.rc hP hB a)), ↓(fun a => @ob _ _ _ (he.ng hB a)), hpos, fL_eq hB, e, l1, l2, sJ_h]
      · unfold stN
        rw [if_pos ha, if_neg hD2, if_neg e]
        refine ra_hW (fun j hj => ?_)
        rcases (show j = 0 ∨ j = 1 by omega) with rfl | rfl
        · rw [pk_uLn (by omega), pk_uLs]
        · rw [pk_uLs]
  · have hD2 : b * b - a * c ≠ 0 ∧ (b * b - a * c) ^ ((P - 1) / 2) ≠ 1 := ⟨fun q => hD (Or.inl q), fun q => hD (Or.inr q)⟩
    have hr := root_none hp0 hB he.p0 he.o0 _ hD2.1 hD2.2
    have n1 : nJ hp sz 0 = some (hW hp sz 0 (fun _ => 0)) := nJ_h (n := 0) (by omega)
    have hneg : ¬ (0 : Int64) ≤ -1 := by decide
    refine ⟨sz, hW hp sz 0 (fun _ => 0), sz + 1, ?_, ?_, gro.nw⟩
    · unfold f_X4_stepsOfSquare
      simp (disch := omega) only [↓Option.bind_some, ↓Option.elim_some, ↓Option.elim_none, Option.bind_some, Option.elim_some, Option.elim_none, Option.some.injEq, Sum.inl.injEq, Sum.inr.injEq, ↓reduceIte, m_side, lit_nI, lz_I, nI_add, pk_mul, pk_sub, nI_ge, nI_le, nI_lt, nI_nlt, gi_t, nI_clamp, nI_eq, pk_rem, Nat.zero_add, Nat.reduceAdd, Nat.reduceMul, Nat.reduceSub, Nat.reduceMod, Nat.reduceEqDiff, reduceCtorEq, Nat.one_ne_zero, Nat.zero_ne_one, ↓ob hr, ↓ob n1, ↓ob he.w4, ↓ob he.r4, ↓ob he.f4, ↓ob he.w2, ↓ob he.f2, ↓ob he.p0, he.o4, he.o2, he.o0, ↓(fun a b => @ob _ _ _ (he.tm hP hB a b)), ↓(fun a b => @ob _ _ _ (he.pl hP hB a b)), ↓(fun a b => @ob _ _ _ (he.mi hP hB a b)), ↓(fun a => @ob _ _ _ (he.rc hP hB a)), ↓(fun a => @ob _ _ _ (he.ng hB a)), hneg]
    · unfold stN
      rw [if_pos ha, if_pos hD2]
      exact ra_hW (fun j hj => by omega)
theorem e_steps (hp0 : isP P) (ho : P % 2 = 1) [NeZero P] (hB : P < 2 ^ 31) {hp : cH} {w so ro fo sz q s : Nat} {A : Nat → Nat} {X : Nat → Nat → Fin P} {Q : Nat → Fin P} (he : eV P w so ro fo hp sz) (hw : w = 3 ∨ w = 4) (hQ : vA hp sz q (w * w) Q) (hX : gP hp sz s 2 w A X) {a b c u : Fin P} (ea : a = sF (fun j => X 1 j * imV w Q (X 1) j) w) (eb : b = sF (fun j => X 0 j * imV w Q (X 1) j) w) (ec : c = sF (fun j => X 0 j * imV w Q (X 0) j) w) (hu : (b * b - a * c = 0 ∨ (b * b - a * c) ^ ((P - 1) / 2) = 1) → u * u = b * b - a * c ∧ 2 * u.val ≤ P) : ∃ r hp' sz', f_X4_stepsOnQuadric hp sz so q s = some (r, hp', sz') ∧ gro hp sz hp' sz' ∧ ((a = 0 ∧ b = 0 ∧ c = 0) → r = none) ∧ (¬ (a = 0 ∧ b = 0 ∧ c = 0) → ∃ t, r = some t ∧ ra hp' sz' t (stN a b c u) (stV a b c u)) := by
  have hP := hp0.1
  obtain ⟨hp1, a1, a2⟩ := e_form hP hB he hw hQ (hX.at (i := 0) (by omega)) (hX.at (i := 0) (by omega))
  have he1 := he.g a2
  have hX1 := hX.g a2
  have hQ1 := hQ.g a2
  obtain ⟨hp2, b1, b2⟩ := e_form hP hB he1 hw hQ1 (hX1.at (i := 0) (by omega)) (hX1.at (i := 1) (by omega))
  have he2 := he1.g b2
  have hX2 := hX1.g b2
  have hQ2 := hQ1.g b2
  obtain ⟨hp3, c1, c2⟩ := e_form hP hB he2 hw hQ2 (hX2.at (i := 1) (by omega)) (hX2.at (i := 1) (by omega))
  have he3 := he2.g c2
  rw [← ec] at a1
  rw [← eb] at b1
  rw [← ea] at c1
  have l0 : lR 3 hp s 0 = some (some (A 0)) := hX.ld (i := 0) (by omega) (by omega)
  have l1 : lR 3 hp1 s 0 = some (some (A 0)) := hX1.ld (i := 0) (by omega) (by omega)
  have l2 : lR 3 hp1 s 1 = some (some (A 1)) := hX1.ld (i := 1) (by omega) (by omega)
  have l3 : lR 3 hp2 s 1 = some (some (A 1)) := hX2.ld (i := 1) (by omega) (by omega)
  have hg := (a2.tr b2).tr c2
  by_cases ha : a = 0
  · by_cases hb : b = 0
    · by_cases hc : c = 0
      · refine ⟨none, hp3, _, ?_, hg, fun _ => rfl, fun z => absurd ⟨ha, hb, hc⟩ z⟩
        unfold f_X4_stepsOnQuadric
        simp (disch := omega) only [↓Option.bind_some, ↓Option.elim_some, ↓Option.elim_none, Option.bind_some, Option.elim_some, Option.elim_none, Option.some.injEq, Sum.inl.injEq, Sum.inr.injEq, ↓reduceIte, m_side, lit_nI, lz_I, nI_add, pk_mul, pk_sub, nI_ge, nI_le, nI_lt, nI_nlt, gi_t, nI_clamp, nI_eq, pk_rem, Nat.zero_add, Nat.reduceAdd, Nat.reduceMul, Nat.reduceSub, Nat.reduceMod, Nat.reduceEqDiff, reduceCtorEq, Nat.one_ne_zero, Nat.zero_ne_one, ↓ob l0, ↓ob a1, ↓ob l1, ↓ob l2, ↓ob b1, ↓ob l3, ↓ob c1, ↓ob he.w4, ↓ob he.r4, ↓ob he.f4, ↓ob he.w2, ↓ob he.f2, ↓ob he.p0, he.o4, he.o2, he.o0, ↓(fun a b => @ob _ _ _ (he.tm hP hB a b)), ↓(fun a b => @ob _ _ _ (he.pl hP hB a b)), ↓(fun a b => @ob _ _ _ (he.mi hP hB a b)), ↓(fun a => @ob _ _ _ (he.rc hP hB a)), ↓(fun a => @ob _ _ _ (he.ng hB a)), ↓ob he1.w4, ↓ob he1.r4, ↓ob he1.f4, ↓ob he1.w2, ↓ob he1.f2, ↓ob he1.p0, he1.o4, he1.o2, he1.o0, ↓(fun a b => @ob _ _ _ (he1.tm hP hB a b)), ↓(fun a b => @ob _ _ _ (he1.pl hP hB a b)), ↓(fun a b => @ob _ _ _ (he1.mi hP hB a b)), ↓(fun a => @ob _ _ _ (he1.rc hP hB a)), ↓(fun a => @ob _ _ _ (he1.ng hB a)), ↓ob he2.w4, ↓ob he2.r4, ↓ob he2.f4, ↓ob he2.w2, ↓ob he2.f2, ↓ob he2.p0, he2.o4, he2.o2, he2.o0, ↓(fun a b => @ob _ _ _ (he2.tm hP hB a b)), ↓(fun a b => @ob _ _ _ (he2.pl hP hB a b)), ↓(fun a b => @ob _ _ _ (he2.mi hP hB a b)), ↓(fun a => @ob _ _ _ (he2.rc hP hB a)), ↓(fun a => @ob _ _ _ (he2.ng hB a)), lz64 (P := P), fL_eq hB, ha, hb, hc]
      · have n1 : nJ hp3 (sz + 1 + 1 + 1) 1 = some (hW hp3 (sz + 1 + 1 + 1) 1 (fun _ => 0)) := nJ_h (n := 1) (by omega)
        have he4 := he3.h 1 (fun _ => 0)
        refine ⟨some (sz + 1 + 1 + 1), hW hp3 (sz + 1 + 1 + 1) 1 (vp_updL (fun _ => 0) 0 (lN P)), _, ?_, hg.tr gro.nw, fun z => absurd z.2.2 hc, fun _ => ⟨_, rfl, ?_⟩⟩
        · unfold f_X4_stepsOnQuadric
          simp (disch := omega) only [↓Option.bind_some, ↓Option.elim_some, ↓Option.elim_none, Option.bind_some, Option.elim_some, Option.elim_none, Option.some.injEq, Sum.inl.injEq, Sum.inr.injEq, ↓reduceIte, m_side, lit_nI, lz_I, nI_add, pk_mul, pk_sub, nI_ge, nI_le, nI_lt, nI_nlt, gi_t, nI_clamp, nI_eq, pk_rem, Nat.zero_add, Nat.reduceAdd, Nat.reduceMul, Nat.reduceSub, Nat.reduceMod, Nat.reduceEqDiff, reduceCtorEq, Nat.one_ne_zero, Nat.zero_ne_one, ↓ob l0, ↓ob a1, ↓ob l1, ↓ob l2, ↓ob b1, ↓ob l3, ↓ob c1, ↓ob n1, ↓ob he.w4, ↓ob he.r4, ↓ob he.f4, ↓ob he.w2, ↓ob he.f2, ↓ob he.p0, he.o4, he.o2, he.o0, ↓(fun a b => @ob _ _ _ (he.tm hP hB a b)), ↓(fun a b => @ob _ _ _ (he.pl hP hB a b)), ↓(fun a b => @ob _ _ _ (he.mi hP hB a b)), ↓(fun a => @ob _ _ _ (he.rc hP hB a)), ↓(fun a => @ob _ _ _ (he.ng hB a)), ↓ob he1.w4, ↓ob he1.r4, ↓ob he1.f4, ↓ob he1.w2, ↓ob he1.f2, ↓ob he1.p0, he1.o4, he1.o2, he1.o0, ↓(fun a b => @ob _ _ _ (he1.tm hP hB a b)), ↓(fun a b => @ob _ _ _ (he1.pl hP hB a b)), ↓(fun a b => @ob _ _ _ (he1.mi hP hB a b)), ↓(fun a => @ob _ _ _ (he1.rc hP hB a)), ↓(fun a => @ob _ _ _ (he1.ng hB a)), ↓ob he2.w4, ↓ob he2.r4, ↓ob he2.f4, ↓ob he2.w2, ↓ob he2.f2, ↓ob he2.p0, he2.o4, he2.o2, he2.o0, ↓(fun a b => @ob _ _ _ (he2.tm hP hB a b)), ↓(fun a b => @ob _ _ _ (he2.pl hP hB a b)), ↓(fun a b => @ob _ _ _ (he2.mi hP hB a b)), ↓(fun a => @ob _ _ _ (he2.rc hP hB a)), ↓(fun a => @ob _ _ _ (he2.ng hB a)), ↓ob he3.w4, ↓ob he3.r4, ↓ob he3.f4, ↓ob he3.w2, ↓ob he3.f2, ↓ob he3.p0, he3.o4, he3.o2, he3.o0, ↓(fun a b => @ob _ _ _ (he3.tm hP hB a b)), ↓(fun a b => @ob _ _ _ (he3.pl hP hB a b)), ↓(fun a b => @ob _ _ _ (he3.mi hP hB a b)), ↓(fun a => @ob _ _ _ (he3.rc hP hB a)), ↓(fun a => @ob _ _ _ (he3.ng hB a)), ↓ob he4.w4, ↓ob he4.r4, ↓ob he4.f4, ↓ob he4.w2, ↓ob he4.f2, ↓ob he4.p0, he4.o4, he4.o2, he4.o0, ↓(fun a b => @ob _ _ _ (he4.tm hP hB a b)), ↓(fun a b => @ob _ _ _ (he4.pl hP hB a b)), ↓(fun a b => @ob _ _ _ (he4.mi hP hB a b)), ↓(fun a => @ob _ _ _ (he4.rc hP hB a)), ↓(fun a => @ob _ _ _ (he4.ng hB a)), lz64 (P := P), fL_eq hB, ha, hb, hc, sJ_h]
        · unfold stN stV
          rw [if_neg (by rw [ha]; exact fun z => z rfl), if_neg (by rw [hb]; exact fun z => z rfl)]
          refine ra_hW (fun j hj => ?_)
          have ej : j = 0 := by omega
          subst ej
          (try dsimp only)
          rw [if_neg (by rw [ha]; exact fun z => z rfl), if_neg (by rw [hb]; exact fun z => z rfl), pk_uLs]
    · have n1 : nJ hp3 (sz + 1 + 1 + 1) 2 = some (hW hp3 (sz + 1 + 1 + 1) 2 (fun _ => 0)) := nJ_h (n := 2) (by omega)
      have he4 := he3.h 2 (vp_updL (fun _ => 0) 0 (fL (- (c * fi (b + b)))))
      refine ⟨some (sz + 1 + 1 + 1), hW hp3 (sz + 1 + 1 + 1) 2 (vp_updL (vp_updL (fun _ => 0) 0 (fL (- (c * fi (b + b))))) 1 (lN P)), _, ?_, hg.tr gro.nw, fun z => absurd z.2.1 hb, fun _ => ⟨_, rfl, ?_⟩⟩
      · unfold f_X4_stepsOnQuadric
        simp (disch := omega) only [↓Option.bind_some, ↓Option.elim_some, ↓Option.elim_none, Option.bind_some, Option.elim_some, Option.elim_none, Option.some.injEq, Sum.inl.injEq, Sum.inr.injEq, ↓reduceIte, m_side, lit_nI, lz_I, nI_add, pk_mul, pk_sub, nI_ge, nI_le, nI_lt, nI_nlt, gi_t, nI_clamp, nI_eq, pk_rem, Nat.zero_add, Nat.reduceAdd, Nat.reduceMul, Nat.reduceSub, Nat.reduceMod, Nat.reduceEqDiff, reduceCtorEq, Nat.one_ne_zero, Nat.zero_ne_one, ↓ob l0, ↓ob a1, ↓ob l1, ↓ob l2, ↓ob b1, ↓ob l3, ↓ob c1, ↓ob n1, ↓ob he.w4, ↓ob he.r4, ↓ob he.f4, ↓ob he.w2, ↓ob he.f2, ↓ob he.p0, he.o4, he.o2, he.o0, ↓(fun a b => @ob _ _ _ (he.tm hP hB a b)), ↓(fun a b => @ob _ _ _ (he.pl hP hB a b)), ↓(fun a b => @ob _ _ _ (he.mi hP hB a b)), ↓(fun a => @ob _ _ _ (he.rc hP hB a)), ↓(fun a => @ob _ _ _ (he.ng hB a)), ↓ob he1.w4, ↓ob he1.r4, ↓ob he1.f4, ↓ob he1.w2, ↓ob he1.f2, ↓ob he1.p0, he1.o4, he1.o2, he1.o0, ↓(fun a b => @ob _ _ _ (he1.tm hP hB a b)), ↓(fun a b => @ob _ _ _ (he1.pl hP hB a b)), ↓(fun a b => @ob _ _ _ (he1.mi hP hB a b)), ↓(fun a => @ob _ _ _ (he1.rc hP hB a)), ↓(fun a => @ob _ _ _ (he1.ng hB a)), ↓ob he2.w4, ↓ob he2.r4, ↓ob he2.f4, ↓ob he2.w2, ↓ob he2.f2, ↓ob he2.p0, he2.o4, he2.o2, he2.o0, ↓(fun a b => @ob _ _ _ (he2.tm hP hB a b)), ↓(fun a b => @ob _ _ _ (he2.pl hP hB a b)), ↓(fun a b => @ob _ _ _ (he2.mi hP hB a b)), ↓(fun a => @ob _ _ _ (he2.rc hP hB a)), ↓(fun a => @ob _ _ _ (he2.ng hB a)), ↓ob he3.w4, ↓ob he3.r4, ↓ob he3.f4, ↓ob he3.w2, ↓ob he3.f2, ↓ob he3.p0, he3.o4, he3.o2, he3.o0, ↓(fun a b => @ob _ _ _ (he3.tm hP hB a b)), ↓(fun a b => @ob _ _ _ (he3.pl hP hB a b)), ↓(fun a b => @ob _ _ _ (he3.mi hP hB a b)), ↓(fun a => @ob _ _ _ (he3.rc hP hB a)), ↓(fun a => @ob _ _ _ (he3.ng hB a)), fun n d => (he3.h n d).f4, fun n d => (he3.h n d).p0, lz64 (P := P), fL_eq hB, ha, hb, sJ_h]
      · unfold stN stV
        rw [if_neg (by rw [ha]; exact fun z => z rfl), if_pos hb]
        refine ra_hW (fun j hj => ?_)
        (try dsimp only)
        rw [if_neg (by rw [ha]; exact fun z => z rfl), if_pos hb]
        rcases (show j = 0 ∨ j = 1 by omega) with rfl | rfl
        · rw [pk_uLn (by omega), pk_uLs, if_pos rfl]
        · rw [pk_uLs, if_neg (by omega)]
  · obtain ⟨r, hp4, sz4, d1, d2, d3⟩ := e_stepsSq hp0 ho hB he3 a b c u ha hu
    refine ⟨some r, hp4, sz4, ?_, hg.tr d3, fun z => absurd z.1 ha, fun _ => ⟨r, rfl, d2⟩⟩
    unfold f_X4_stepsOnQuadric
    simp (disch := omega) only [↓Option.bind_some, ↓Option.elim_some, ↓Option.elim_none, Option.bind_some, Option.elim_some, Option.elim_none, Option.some.injEq, Sum.inl.injEq, Sum.inr.injEq, ↓reduceIte, m_side, lit_nI, lz_I, nI_add, pk_mul, pk_sub, nI_ge, nI_le, nI_lt, nI_nlt, gi_t, nI_clamp, nI_eq, pk_rem, Nat.zero_add, Nat.reduceAdd, Nat.reduceMul, Nat.reduceSub, Nat.reduceMod, Nat.reduceEqDiff, reduceCtorEq, Nat.one_ne_zero, Nat.zero_ne_one, ↓ob l0, ↓ob a1, ↓ob l1, ↓ob l2, ↓ob b1, ↓ob l3, ↓ob c1, ↓ob d1, ↓ob he.w4, ↓ob he.r4, ↓ob he.f4, ↓ob he.w2, ↓ob he.f2, ↓ob he.p0, he.o4, he.o2, he.o0, ↓(fun a b => @ob _ _ _ (he.tm hP hB a b)), ↓(fun a b => @ob _ _ _ (he.pl hP hB a b)), ↓(fun a b => @ob _ _ _ (he.mi hP hB a b)), ↓(fun a => @ob _ _ _ (he.rc hP hB a)), ↓(fun a => @ob _ _ _ (he.ng hB a)), ↓ob he1.w4, ↓ob he1.r4, ↓ob he1.f4, ↓ob he1.w2, ↓ob he1.f2, ↓ob he1.p0, he1.o4, he1.o2, he1.o0, ↓(fun a b => @ob _ _ _ (he1.tm hP hB a b)), ↓(fun a b => @ob _ _ _ (he1.pl hP hB a b)), ↓(fun a b => @ob _ _ _ (he1.mi hP hB a b)), ↓(fun a => @ob _ _ _ (he1.rc hP hB a)), ↓(fun a => @ob _ _ _ (he1.ng hB a)), ↓ob he2.w4, ↓ob he2.r4, ↓ob he2.f4, ↓ob he2.w2, ↓ob he2.f2, ↓ob he2.p0, he2.o4, he2.o2, he2.o0, ↓(fun a b => @ob _ _ _ (he2.tm hP hB a b)), ↓(fun a b => @ob _ _ _ (he2.pl hP hB a b)), ↓(fun a b => @ob _ _ _ (he2.mi hP hB a b)), ↓(fun a => @ob _ _ _ (he2.rc hP hB a)), ↓(fun a => @ob _ _ _ (he2.ng hB a)), ↓ob he3.w4, ↓ob he3.r4, ↓ob he3.f4, ↓ob he3.w2, ↓ob he3.f2, ↓ob he3.p0, he3.o4, he3.o2, he3.o0, ↓(fun a b => @ob _ _ _ (he3.tm hP hB a b)), ↓(fun a b => @ob _ _ _ (he3.pl hP hB a b)), ↓(fun a b => @ob _ _ _ (he3.mi hP hB a b)), ↓(fun a => @ob _ _ _ (he3.rc hP hB a)), ↓(fun a => @ob _ _ _ (he3.ng hB a)), lz64 (P := P), fL_eq hB, ha]
end CSTEP
