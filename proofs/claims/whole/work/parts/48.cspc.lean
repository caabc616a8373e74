section CSPC
variable {P : Nat}
theorem e_image [NeZero P] (hP : 2 < P) (hB : P < 2 ^ 31) {hp : cH} {w so ro fo sz q b : Nat} {Q x : Nat → Fin P} (he : eV P w so ro fo hp sz) (hw : w = 3 ∨ w = 4) (hQ : vA hp sz q (w * w) Q) (hx : vA hp sz b w x) : ∃ hp', f_X2_image hp sz ro q b = some (sz, hp', sz + 1) ∧ vA hp' (sz + 1) sz w (imV w Q x) ∧ gro hp sz hp' (sz + 1) := by
  obtain ⟨hp', h1, h2, h3⟩ := t_image hP hB he.R (by omega) he.2.2.1 he.2.2.2 hQ.2 hx.2 hQ.1 hx.1
  exact ⟨hp', h1, ⟨h2, by omega⟩, h3, by omega⟩
theorem e_sum [NeZero P] (hP : 2 < P) (hB : P < 2 ^ 31) {hp : cH} {w so ro fo sz a b : Nat} {x y : Nat → Fin P} (he : eV P w so ro fo hp sz) (hw : w = 3 ∨ w = 4) (hx : vA hp sz a w x) (hy : vA hp sz b w y) (s t : Fin P) : ∃ hp', f_X2_sum hp sz ro (fL s) a (fL t) b = some (sz, hp', sz + 1) ∧ vA hp' (sz + 1) sz w (fun j => s * x j + t * y j) ∧ gro hp sz hp' (sz + 1) := by
  obtain ⟨hp', h1, h2, h3⟩ := t_sum hP hB he.R he.2.2.1 he.2.2.2 hx.2 hy.2 hx.1 hy.1 (Nat.le_refl w) (Nat.le_refl w) (by omega) (by omega) s t
  exact ⟨hp', h1, ⟨h2, by omega⟩, h3, by omega⟩
theorem e_form [NeZero P] (hP : 2 < P) (hB : P < 2 ^ 31) {hp : cH} {w so ro fo sz q a b : Nat} {Q x y : Nat → Fin P} (he : eV P w so ro fo hp sz) (hw : w = 3 ∨ w = 4) (hQ : vA hp sz q (w * w) Q) (hx : vA hp sz a w x) (hy : vA hp sz b w y) : ∃ hp', f_X2_form hp sz ro q a b = some (fL (sF (fun j => x j * imV w Q y j) w), hp', sz + 1) ∧ gro hp sz hp' (sz + 1) := by
  obtain ⟨hp', h1, h3⟩ := t_form hP hB he.R (by omega) he.2.2.1 he.2.2.2 hQ.2 hx.2 hy.2 hQ.1 hx.1 hy.1
  exact ⟨hp', h1, h3, by omega⟩
theorem e_dot [NeZero P] (hP : 2 < P) (hB : P < 2 ^ 31) {hp : cH} {w so ro fo sz a b n : Nat} {x y : Nat → Fin P} (he : eV P w so ro fo hp sz) (hn : n ≤ 64) (hx : vA hp sz a n x) (hy : vA hp sz b n y) : f_X2_dot hp ro a b = some (fL (sF (fun j => x j * y j) n)) := t_dot hP hB he.R hx.1 hy.1 hn
theorem e_lead [NeZero P] (hB : P < 2 ^ 31) {hp : cH} {sz a n : Nat} {x : Nat → Fin P} (hx : vA hp sz a n x) (hn : n ≤ 64) : f_X2_lead hp a = some (nI (ldV x n)) := t_lead hB hx.1 hn
theorem e_isZ [NeZero P] (hB : P < 2 ^ 31) {hp : cH} {sz a n : Nat} {x : Nat → Fin P} (hx : vA hp sz a n x) (hn : n ≤ 64) (h : ldV x n = n) : f_X2_isZero hp a = some (nI 1) := by
  rw [t_isZero hB hx.1 hn, if_pos h]
  rfl
theorem e_isN [NeZero P] (hB : P < 2 ^ 31) {hp : cH} {sz a n : Nat} {x : Nat → Fin P} (hx : vA hp sz a n x) (hn : n ≤ 64) (h : ¬ ldV x n = n) : f_X2_isZero hp a = some (nI 0) := by
  rw [t_isZero hB hx.1 hn, if_neg h]
  rfl
/-- the row of the line through two points -/
def lnF [NeZero P] (w : Nat) (x y : Nat → Fin P) : Nat → Fin P := if w = 3 then flF (swi w w) (wgF w x y) else wgF w x y
theorem e_lineThrough [NeZero P] (hP : 2 < P) (hB : P < 2 ^ 31) {hp : cH} {w so ro fo sz a b : Nat} {x y : Nat → Fin P} (he : eV P w so ro fo hp sz) (hw : w = 3 ∨ w = 4) (hx : vA hp sz a w x) (hy : vA hp sz b w y) : ∃ r hp' sz', f_X4_lineThrough hp sz so a b = some (r, hp', sz') ∧ vA hp' sz' r (swi w w) (lnF w x y) ∧ gro hp sz hp' sz' := by
  obtain ⟨hp1, a1, a2, a3⟩ := e_wedge hP hB he hw hx hy
  have he1 := he.g a3
  obtain ⟨hp2, b1, b2, b3⟩ := e_flipped hP hB he1 (by have := swi_w hw; omega) a2
  rcases hw with rfl | rfl
  · refine ⟨_, hp2, _, ?_, b2, a3.tr b3⟩
    unfold f_X4_lineThrough f_X4_isPlane
    simp (disch := omega) only [↓Option.bind_some, ↓Option.elim_some, ↓Option.elim_none, Option.bind_some, Option.elim_some, Option.elim_none, Option.some.injEq, Sum.inl.injEq, Sum.inr.injEq, ↓reduceIte, m_side, lit_nI, lz_I, nI_add, pk_mul, pk_sub, nI_ge, nI_le, nI_lt, nI_nlt, gi_t, nI_clamp, nI_eq, pk_rem, Nat.zero_add, Nat.reduceAdd, Nat.reduceMul, Nat.reduceSub, Nat.reduceMod, Nat.reduceEqDiff, reduceCtorEq, Nat.one_ne_zero, Nat.zero_ne_one, he.w4, he.r4, he.f4, he.o4, he.w2, he.f2, he.o2, he.o0, he.p0, he.tm hP hB, he.pl hP hB, he.mi hP hB, he.rc hP hB, he.ng hB, a1, he1.w4, he1.r4, he1.f4, he1.o4, he1.w2, he1.f2, he1.o2, he1.o0, he1.p0, he1.tm hP hB, he1.pl hP hB, he1.mi hP hB, he1.rc hP hB, he1.ng hB, b1]
  · refine ⟨_, hp1, _, ?_, a2, a3⟩
    unfold f_X4_lineThrough f_X4_isPlane
    simp (disch := omega) only [↓Option.bind_some, ↓Option.elim_some, ↓Option.elim_none, Option.bind_some, Option.elim_some, Option.elim_none, Option.some.injEq, Sum.inl.injEq, Sum.inr.injEq, ↓reduceIte, m_side, lit_nI, lz_I, nI_add, pk_mul, pk_sub, nI_ge, nI_le, nI_lt, nI_nlt, gi_t, nI_clamp, nI_eq, pk_rem, Nat.zero_add, Nat.reduceAdd, Nat.reduceMul, Nat.reduceSub, Nat.reduceMod, Nat.reduceEqDiff, reduceCtorEq, Nat.one_ne_zero, Nat.zero_ne_one, he.w4, he.r4, he.f4, he.o4, he.w2, he.f2, he.o2, he.o0, he.p0, he.tm hP hB, he.pl hP hB, he.mi hP hB, he.rc hP hB, he.ng hB, a1, he1.w4, he1.r4, he1.f4, he1.o4, he1.w2, he1.f2, he1.o2, he1.o0, he1.p0, he1.tm hP hB, he1.pl hP hB, he1.mi hP hB, he1.rc hP hB, he1.ng hB]
theorem e_crossing [NeZero P] (hP : 2 < P) (hB : P < 2 ^ 31) {hp : cH} {w so ro fo sz a b : Nat} {x y : Nat → Fin P} (he : eV P w so ro fo hp sz) (hw : w = 3 ∨ w = 4) (hx : vA hp sz a w x) (hy : vA hp sz b w y) : ∃ r hp' sz', f_X4_crossing hp sz so a b = some (r, hp', sz') ∧ vA hp' sz' r (swi w w) (flF (swi w w) (wgF w x y)) ∧ gro hp sz hp' sz' := by
  obtain ⟨hp1, a1, a2, a3⟩ := e_wedge hP hB he hw hx hy
  have he1 := he.g a3
  obtain ⟨hp2, b1, b2, b3⟩ := e_flipped hP hB he1 (by have := swi_w hw; omega) a2
  refine ⟨_, hp2, _, ?_, b2, a3.tr b3⟩
  unfold f_X4_crossing
  simp (disch := omega) only [↓Option.bind_some, ↓Option.elim_some, ↓Option.elim_none, Option.bind_some, Option.elim_some, Option.elim_none, Option.some.injEq, Sum.inl.injEq, Sum.inr.injEq, ↓reduceIte, m_side, lit_nI, lz_I, nI_add, pk_mul, pk_sub, nI_ge, nI_le, nI_lt, nI_nlt, gi_t, nI_clamp, nI_eq, pk_rem, Nat.zero_add, Nat.reduceAdd, Nat.reduceMul, Nat.reduceSub, Nat.reduceMod, Nat.reduceEqDiff, reduceCtorEq, Nat.one_ne_zero, Nat.zero_ne_one, he.w4, he.r4, he.f4, he.o4, he.w2, he.f2, he.o2, he.o0, he.p0, he.tm hP hB, he.pl hP hB, he.mi hP hB, he.rc hP hB, he.ng hB, a1, he1.w4, he1.r4, he1.f4, he1.o4, he1.w2, he1.f2, he1.o2, he1.o0, he1.p0, he1.tm hP hB, he1.pl hP hB, he1.mi hP hB, he1.rc hP hB, he1.ng hB, b1]
/-- a row times the square of a wedge -/
def sxF [NeZero P] (w : Nat) (L x : Nat → Fin P) : Nat → Fin P := fun i => sF (fun j => skF w L i j * x j) w
theorem sxF_im [NeZero P] {w : Nat} (hw : w = 3 ∨ w = 4) (L x : Nat → Fin P) (i : Nat) (hi : i < w) : imV w (fun m => skF w L (m / w) (m % w)) x i = sxF w L x i := by
  unfold imV sxF
  refine sF_congr w (fun k hk => ?_)
  (try dsimp only)
  have e1 : (i * w + k) / w = i := by
    rw [Nat.mul_comm, Nat.mul_add_div (by omega), Nat.div_eq_of_lt hk, Nat.add_zero]
  have e2 : (i * w + k) % w = k := by
    rw [Nat.mul_comm, Nat.mul_add_mod, Nat.mod_eq_of_lt hk]
  rw [e1, e2]
theorem e_pointOnPlane [NeZero P] (hP : 2 < P) (hB : P < 2 ^ 31) {hp : cH} {w so ro fo sz a b : Nat} {L x : Nat → Fin P} (he : eV P w so ro fo hp sz) (hw : w = 3 ∨ w = 4) (hL : vA hp sz a (swi w w) L) (hx : vA hp sz b w x) : ∃ r hp' sz', f_X4_pointOnPlane hp sz so a b = some (r, hp', sz') ∧ vA hp' sz' r w (sxF w L x) ∧ gro hp sz hp' sz' := by
  obtain ⟨hp1, a1, a2, a3⟩ := e_skew hP hB he hw hL
  have he1 := he.g a3
  obtain ⟨hp2, b1, b2, b3⟩ := e_image hP hB he1 hw a2 (hx.g a3)
  refine ⟨_, hp2, _, ?_, b2.congr (fun i hi => sxF_im hw L x i hi), a3.tr b3⟩
  unfold f_X4_pointOnPlane
  simp (disch := omega) only [↓Option.bind_some, ↓Option.elim_some, ↓Option.elim_none, Option.bind_some, Option.elim_some, Option.elim_none, Option.some.injEq, Sum.inl.injEq, Sum.inr.injEq, ↓reduceIte, m_side, lit_nI, lz_I, nI_add, pk_mul, pk_sub, nI_ge, nI_le, nI_lt, nI_nlt, gi_t, nI_clamp, nI_eq, pk_rem, Nat.zero_add, Nat.reduceAdd, Nat.reduceMul, Nat.reduceSub, Nat.reduceMod, Nat.reduceEqDiff, reduceCtorEq, Nat.one_ne_zero, Nat.zero_ne_one, he.w4, he.r4, he.f4, he.o4, he.w2, he.f2, he.o2, he.o0, he.p0, he.tm hP hB, he.pl hP hB, he.mi hP hB, he.rc hP hB, he.ng hB, a1, he1.w4, he1.r4, he1.f4, he1.o4, he1.w2, he1.f2, he1.o2, he1.o0, he1.p0, he1.tm hP hB, he1.pl hP hB, he1.mi hP hB, he1.rc hP hB, he1.ng hB, b1]
theorem e_planeThrough [NeZero P] (hP : 2 < P) (hB : P < 2 ^ 31) {hp : cH} {w so ro fo sz a b : Nat} {L x : Nat → Fin P} (he : eV P w so ro fo hp sz) (hw : w = 3 ∨ w = 4) (hL : vA hp sz a (swi w w) L) (hx : vA hp sz b w x) : ∃ r hp' sz', f_X4_planeThrough hp sz so a b = some (r, hp', sz') ∧ vA hp' sz' r w (sxF w (flF (swi w w) L) x) ∧ gro hp sz hp' sz' := by
  obtain ⟨hp0, c1, c2, c3⟩ := e_flipped hP hB he (by have := swi_w hw; omega) hL
  have he0 := he.g c3
  obtain ⟨hp1, a1, a2, a3⟩ := e_skew hP hB he0 hw c2
  have he1 := he0.g a3
  obtain ⟨hp2, b1, b2, b3⟩ := e_image hP hB he1 hw a2 ((hx.g c3).g a3)
  refine ⟨_, hp2, _, ?_, b2.congr (fun i hi => sxF_im hw _ x i hi), (c3.tr a3).tr b3⟩
  unfold f_X4_planeThrough
  simp (disch := omega) only [↓Option.bind_some, ↓Option.elim_some, ↓Option.elim_none, Option.bind_some, Option.elim_some, Option.elim_none, Option.some.injEq, Sum.inl.injEq, Sum.inr.injEq, ↓reduceIte, m_side, lit_nI, lz_I, nI_add, pk_mul, pk_sub, nI_ge, nI_le, nI_lt, nI_nlt, gi_t, nI_clamp, nI_eq, pk_rem, Nat.zero_add, Nat.reduceAdd, Nat.reduceMul, Nat.reduceSub, Nat.reduceMod, Nat.reduceEqDiff, reduceCtorEq, Nat.one_ne_zero, Nat.zero_ne_one, he.w4, he.r4, he.f4, he.o4, he.w2, he.f2, he.o2, he.o0, he.p0, he.tm hP hB, he.pl hP hB, he.mi hP hB, he.rc hP hB, he.ng hB, c1, he0.w4, he0.r4, he0.f4, he0.o4, he0.w2, he0.f2, he0.o2, he0.o0, he0.p0, he0.tm hP hB, he0.pl hP hB, he0.mi hP hB, he0.rc hP hB, he0.ng hB, a1, he1.w4, he1.r4, he1.f4, he1.o4, he1.w2, he1.f2, he1.o2, he1.o0, he1.p0, he1.tm hP hB, he1.pl hP hB, he1.mi hP hB, he1.rc hP hB, he1.ng hB, b1]
/-- two wedges cross -/
def crF [NeZero P] (n : Nat) (L M : Nat → Fin P) : Fin P := sF (fun j => L j * flF n M j) n
theorem e_linesMeet [NeZero P] (hP : 2 < P) (hB : P < 2 ^ 31) {hp : cH} {w so ro fo sz a b : Nat} {L M : Nat → Fin P} (he : eV P w so ro fo hp sz) (hw : w = 3 ∨ w = 4) (hL : vA hp sz a (swi w w) L) (hM : vA hp sz b (swi w w) M) : ∃ hp' sz', f_X4_linesMeet hp sz so a b = some (nI (if crF (swi w w) L M = 0 then 1 else 0), hp', sz') ∧ gro hp sz hp' sz' := by
  have hs := swi_w hw
  obtain ⟨hp1, a1, a2, a3⟩ := e_flipped hP hB he (by omega) hM
  have he1 := he.g a3
  have hd := e_dot hP hB he1 (by omega) (hL.g a3) a2
  refine ⟨hp1, _, ?_, a3⟩
  unfold f_X4_linesMeet
  by_cases e : crF (swi w w) L M = 0
  · have e2 := e
    unfold crF at e2
    rw [if_pos e]
    simp (disch := omega) only [↓Option.bind_some, ↓Option.elim_some, ↓Option.elim_none, Option.bind_some, Option.elim_some, Option.elim_none, Option.some.injEq, Sum.inl.injEq, Sum.inr.injEq, ↓reduceIte, m_side, lit_nI, lz_I, nI_add, pk_mul, pk_sub, nI_ge, nI_le, nI_lt, nI_nlt, gi_t, nI_clamp, nI_eq, pk_rem, Nat.zero_add, Nat.reduceAdd, Nat.reduceMul, Nat.reduceSub, Nat.reduceMod, Nat.reduceEqDiff, reduceCtorEq, Nat.one_ne_zero, Nat.zero_ne_one, he.w4, he.r4, he.f4, he.o4, he.w2, he.f2, he.o2, he.o0, he.p0, he.tm hP hB, he.pl hP hB, he.mi hP hB, he.rc hP hB, he.ng hB, a1, he1.w4, he1.r4, he1.f4, he1.o4, he1.w2, he1.f2, he1.o2, he1.o0, he1.p0, he1.tm hP hB, he1.pl hP hB, he1.mi hP hB, he1.rc hP hB, he1.ng hB, hd, lz64 (P := P), fL_eq hB, e2]
  · have e2 := e
    unfold crF at e2
    rw [if_neg e]
    simp (disch := omega) only [↓Option.bind_some, ↓Option.elim_some, ↓Option.elim_none, Option.bind_some, Option.elim_some, Option.elim_none, Option.some.injEq, Sum.inl.injEq, Sum.inr.injEq, ↓reduceIte, m_side, lit_nI, lz_I, nI_add, pk_mul, pk_sub, nI_ge, nI_le, nI_lt, nI_nlt, gi_t, nI_clamp, nI_eq, pk_rem, Nat.zero_add, Nat.reduceAdd, Nat.reduceMul, Nat.reduceSub, Nat.reduceMod, Nat.reduceEqDiff, reduceCtorEq, Nat.one_ne_zero, Nat.zero_ne_one, he.w4, he.r4, he.f4, he.o4, he.w2, he.f2, he.o2, he.o0, he.p0, he.tm hP hB, he.pl hP hB, he.mi hP hB, he.rc hP hB, he.ng hB, a1, he1.w4, he1.r4, he1.f4, he1.o4, he1.w2, he1.f2, he1.o2, he1.o0, he1.p0, he1.tm hP hB, he1.pl hP hB, he1.mi hP hB, he1.rc hP hB, he1.ng hB, hd, lz64 (P := P), fL_eq hB, e2]
theorem nI_01 (p : Prop) [Decidable p] : nI (if p then 1 else 0) = 0 ∨ nI (if p then 1 else 0) = 1 := by
  by_cases h : p
  · rw [if_pos h]
    exact Or.inr rfl
  · rw [if_neg h]
    exact Or.inl rfl
theorem e_lineIsOnPlane [NeZero P] (hP : 2 < P) (hB : P < 2 ^ 31) {hp : cH} {w so ro fo sz a b : Nat} {L x : Nat → Fin P} (he : eV P w so ro fo hp sz) (hw : w = 3 ∨ w = 4) (hL : vA hp sz a (swi w w) L) (hx : vA hp sz b w x) : ∃ hp' sz', f_X4_lineIsOnPlane hp sz so a b = some (nI (if ldV (sxF w L x) w = w then 1 else 0), hp', sz') ∧ gro hp sz hp' sz' := by
  obtain ⟨r, hp1, sz1, a1, a2, a3⟩ := e_pointOnPlane hP hB he hw hL hx
  refine ⟨hp1, sz1, ?_, a3⟩
  unfold f_X4_lineIsOnPlane
  by_cases e : ldV (sxF w L x) w = w
  · rw [if_pos e]
    simp (disch := omega) only [↓Option.bind_some, ↓Option.elim_some, ↓Option.elim_none, Option.bind_some, Option.elim_some, Option.elim_none, Option.some.injEq, Sum.inl.injEq, Sum.inr.injEq, ↓reduceIte, m_side, lit_nI, lz_I, nI_add, pk_mul, pk_sub, nI_ge, nI_le, nI_lt, nI_nlt, gi_t, nI_clamp, nI_eq, pk_rem, Nat.zero_add, Nat.reduceAdd, Nat.reduceMul, Nat.reduceSub, Nat.reduceMod, Nat.reduceEqDiff, reduceCtorEq, Nat.one_ne_zero, Nat.zero_ne_one, he.w4, he.r4, he.f4, he.o4, he.w2, he.f2, he.o2, he.o0, he.p0, he.tm hP hB, he.pl hP hB, he.mi hP hB, he.rc hP hB, he.ng hB, a1, e_isZ hB a2 (by omega) e]
    rfl
  · rw [if_neg e]
    simp (disch := omega) only [↓Option.bind_some, ↓Option.elim_some, ↓Option.elim_none, Option.bind_some, Option.elim_some, Option.elim_none, Option.some.injEq, Sum.inl.injEq, Sum.inr.injEq, ↓reduceIte, m_side, lit_nI, lz_I, nI_add, pk_mul, pk_sub, nI_ge, nI_le, nI_lt, nI_nlt, gi_t, nI_clamp, nI_eq, pk_rem, Nat.zero_add, Nat.reduceAdd, Nat.reduceMul, Nat.reduceSub, Nat.reduceMod, Nat.reduceEqDiff, reduceCtorEq, Nat.one_ne_zero, Nat.zero_ne_one, he.w4, he.r4, he.f4, he.o4, he.w2, he.f2, he.o2, he.o0, he.p0, he.tm hP hB, he.pl hP hB, he.mi hP hB, he.rc hP hB, he.ng hB, a1, e_isN hB a2 (by omega) e]
    rfl
theorem e_pointIsOnLine [NeZero P] (hP : 2 < P) (hB : P < 2 ^ 31) {hp : cH} {w so ro fo sz a b : Nat} {L x : Nat → Fin P} (he : eV P w so ro fo hp sz) (hw : w = 3 ∨ w = 4) (hx : vA hp sz a w x) (hL : vA hp sz b (swi w w) L) : ∃ hp' sz', f_X4_pointIsOnLine hp sz so a b = some (nI (if ldV (sxF w (flF (swi w w) L) x) w = w then 1 else 0), hp', sz') ∧ gro hp sz hp' sz' := by
  obtain ⟨r, hp1, sz1, a1, a2, a3⟩ := e_planeThrough hP hB he hw hL hx
  refine ⟨hp1, sz1, ?_, a3⟩
  unfold f_X4_pointIsOnLine
  by_cases e : ldV (sxF w (flF (swi w w) L) x) w = w
  · rw [if_pos e]
    simp (disch := omega) only [↓Option.bind_some, ↓Option.elim_some, ↓Option.elim_none, Option.bind_some, Option.elim_some, Option.elim_none, Option.some.injEq, Sum.inl.injEq, Sum.inr.injEq, ↓reduceIte, m_side, lit_nI, lz_I, nI_add, pk_mul, pk_sub, nI_ge, nI_le, nI_lt, nI_nlt, gi_t, nI_clamp, nI_eq, pk_rem, Nat.zero_add, Nat.reduceAdd, Nat.reduceMul, Nat.reduceSub, Nat.reduceMod, Nat.reduceEqDiff, reduceCtorEq, Nat.one_ne_zero, Nat.zero_ne_one, he.w4, he.r4, he.f4, he.o4, he.w2, he.f2, he.o2, he.o0, he.p0, he.tm hP hB, he.pl hP hB, he.mi hP hB, he.rc hP hB, he.ng hB, a1, e_isZ hB a2 (by omega) e]
    rfl
  · rw [if_neg e]
    simp (disch := omega) only [↓Option.bind_some, ↓Option.elim_some, ↓Option.elim_none, Option.bind_some, Option.elim_some, Option.elim_none, Option.some.injEq, Sum.inl.injEq, Sum.inr.injEq, ↓reduceIte, m_side, lit_nI, lz_I, nI_add, pk_mul, pk_sub, nI_ge, nI_le, nI_lt, nI_nlt, gi_t, nI_clamp, nI_eq, pk_rem, Nat.zero_add, Nat.reduceAdd, Nat.reduceMul, Nat.reduceSub, Nat.reduceMod, Nat.reduceEqDiff, reduceCtorEq, Nat.one_ne_zero, Nat.zero_ne_one, he.w4, he.r4, he.f4, he.o4, he.w2, he.f2, he.o2, he.o0, he.p0, he.tm hP hB, he.pl hP hB, he.mi hP hB, he.rc hP hB, he.ng hB, a1, e_isN hB a2 (by omega) e]
    rfl
end CSPC
