section CPOW
variable {P : Nat}
theorem e_quadricThrough [NeZero P] (hP : 2 < P) (hB : P < 2 ^ 31) {hp : cH} {w so ro fo sz a m : Nat} {A : Nat → Nat} {X : Nat → Nat → Fin P} (he : eV P w so ro fo hp sz) (hw : w = 3 ∨ w = 4) (hX : gP hp sz a m w A X) (hm : m ≤ 9) : ∃ r hp' sz', f_X4_quadricThrough hp sz so a = some (r, hp', sz') ∧ gro hp sz hp' sz' ∧ (¬ (gj m (cnM w X) (stw w w)).1 = stw w w - 1 → r = none) ∧ ((gj m (cnM w X) (stw w w)).1 = stw w w - 1 → ∃ b, r = some b ∧ vA hp' sz' b (w * w) (qdF w (soV (gj m (cnM w X) (stw w w)).2 (frl (gj m (cnM w X) (stw w w)).2 (stw w w) (stw w w - 1))))) := by
  have hs := stw_le hw (Nat.le_refl w)
  have hws : w * w ≤ 16 := by rcases hw with rfl | rfl <;> decide
  have hs0 : 0 < stw w w := by rcases hw with rfl | rfl <;> decide
  obtain ⟨d, a1, a2⟩ := e_conditions hP hB he hw hX hm
  obtain ⟨r, hp2, sz2, b1, b2, b3, b4⟩ := e_solution hP hB he a2 hm (by omega) hs0
  have he1 := he.q m (stw w w) d
  have he2 := he.g b2
  have e1 : nI (w * (w + 1)) / nI 2 = nI (stw w w) := by
    rw [pk_div (by rcases hw with rfl | rfl <;> decide) (by decide) (by decide), stw_w hw]
  by_cases hf : (gj m (cnM w X) (stw w w)).1 = stw w w - 1
  · obtain ⟨b, rfl, b5⟩ := b4 hf
    generalize hV : soV (gj m (cnM w X) (stw w w)).2 (frl (gj m (cnM w X) (stw w w)).2 (stw w w) (stw w w - 1)) = V at *
    have key := epair (f1 := fun s => f_X4_quadricThrough_L53 so b sz2 s.1 s.2.1 s.2.2) (f2 := fun i s => f_X4_quadricThrough_L66 so b sz2 (nI i) s.1 s.2.1 s.2.2) (emb := hW hp2 sz2 (w * w)) (d := fun _ => 0) w 0 (by omega) (stw w) rfl (fun i hi => by rw [Nat.sub_zero]; exact stw_s hw hi) (fun c d => ∀ i j, i ≤ j → j < w → stw w i + (j - i) < c → d (i * w + j) = fL (V (stw w i + (j - i))) ∧ d (j * w + i) = fL (V (stw w i + (j - i)))) (fun i j _ _ hc => by omega) ?_ ?_ ?_ ?_
    · obtain ⟨d', k1, k2⟩ := key
      refine ⟨some sz2, hW hp2 sz2 (w * w) d', sz2 + 1, ?_, b2.tr gro.nw, fun z => absurd hf z, fun _ => ⟨_, rfl, vA_hW (fun l hl => ?_)⟩⟩
      · unfold f_X4_quadricThrough
        have k1' : itX (fun s : Int32 × Int32 × cH => f_X4_quadricThrough_L53 so b sz2 s.1 s.2.1 s.2.2) (0, 0, hW hp2 sz2 (w * w) (fun _ => 0)) = some (hW hp2 sz2 (w * w) d') := k1
        have e1' : (nI w * (nI w + 1)) / (2 : Int32) = nI (stw w w) := by
          rw [show (1 : Int32) = nI 1 from rfl, show (2 : Int32) = nI 2 from rfl, nI_add, pk_mul, e1]
        have e2' : nI w * nI w = nI (w * w) := pk_mul ..
        have n1 := nJ_h (hp := hp2) (sz := sz2) (n := w * w) (by omega)
        simp only [↓ob he.w4, ↓ob he.r4, he.o4, ↓ob a1, he1.o2, e1', ↓ob b1, ↓ob he2.w4, e2', ↓ob n1, ↓ob k1', ↓reduceIte, ↓Option.elim_some]
      · have q1 : l / w < w := Nat.div_lt_of_lt_mul hl
        have q2 := Nat.mod_lt l (show 0 < w by omega)
        have q3 : l / w * w + l % w = l := by rw [Nat.mul_comm]; exact Nat.div_add_mod l w
        unfold qdF
        by_cases c : l / w ≤ l % w
        · rw [Nat.min_eq_left c, Nat.max_eq_right c]
          have := (k2 (l / w) (l % w) c q2 (pIJ hw c q2).2.2).1
          rw [q3] at this
          exact this
        · rw [Nat.min_eq_right (by omega), Nat.max_eq_left (by omega)]
          have := (k2 (l % w) (l / w) (by omega) q1 (pIJ hw (show l % w ≤ l / w by omega) q1).2.2).2
          rw [q3] at this
          exact this
    · intro i c d2 hi
      have he3 := he2.h (w * w) d2
      unfold f_X4_quadricThrough_L53
      simp (disch := omega) only [↓Option.bind_some, ↓Option.elim_some, ↓Option.elim_none, Option.bind_some, Option.elim_some, Option.elim_none, Option.some.injEq, Sum.inl.injEq, Sum.inr.injEq, ↓reduceIte, m_side, lit_nI, lz_I, nI_add, pk_mul, pk_sub, nI_ge, nI_le, nI_lt, nI_nlt, gi_t, nI_clamp, nI_eq, pk_rem, Nat.zero_add, Nat.reduceAdd, Nat.reduceMul, Nat.reduceSub, Nat.reduceMod, Nat.reduceEqDiff, reduceCtorEq, Nat.one_ne_zero, Nat.zero_ne_one, ↓ob he3.w4, ↓ob he3.r4, ↓ob he3.f4, ↓ob he3.w2, ↓ob he3.f2, ↓ob he3.p0, he3.o4, he3.o2, he3.o0, ↓(fun a b => @ob _ _ _ (he3.tm hP hB a b)), ↓(fun a b => @ob _ _ _ (he3.pl hP hB a b)), ↓(fun a b => @ob _ _ _ (he3.mi hP hB a b)), ↓(fun a => @ob _ _ _ (he3.rc hP hB a)), ↓(fun a => @ob _ _ _ (he3.ng hB a)), Nat.add_zero]
    · intro i j d2 hij hj hv
      have he3 := he2.h (w * w) d2
      rw [Nat.sub_zero]
      rw [Nat.sub_zero] at hv
      have hp2 := pIJ hw (show i ≤ j by omega) hj
      have r1 := row_lt (show i < w by omega) hj
      have r2 := row_lt hj (show i < w by omega)
      refine ⟨vp_updL (vp_updL d2 (i * w + j) (fL (V (stw w i + (j - i))))) (j * w + i) (fL (V (stw w i + (j - i)))), ?_, ?_⟩
      · have he4 := he2.h (w * w) (vp_updL d2 (i * w + j) (fL (V (stw w i + (j - i)))))
        unfold f_X4_quadricThrough_L66
        simp (disch := omega) only [↓Option.bind_some, ↓Option.elim_some, ↓Option.elim_none, Option.bind_some, Option.elim_some, Option.elim_none, Option.some.injEq, Sum.inl.injEq, Sum.inr.injEq, ↓reduceIte, m_side, lit_nI, lz_I, nI_add, pk_mul, pk_sub, nI_ge, nI_le, nI_lt, nI_nlt, gi_t, nI_clamp, nI_eq, pk_rem, Nat.zero_add, Nat.reduceAdd, Nat.reduceMul, Nat.reduceSub, Nat.reduceMod, Nat.reduceEqDiff, reduceCtorEq, Nat.one_ne_zero, Nat.zero_ne_one, ↓ob he3.w4, ↓ob he3.r4, ↓ob he3.f4, ↓ob he3.w2, ↓ob he3.f2, ↓ob he3.p0, he3.o4, he3.o2, he3.o0, ↓(fun a b => @ob _ _ _ (he3.tm hP hB a b)), ↓(fun a b => @ob _ _ _ (he3.pl hP hB a b)), ↓(fun a b => @ob _ _ _ (he3.mi hP hB a b)), ↓(fun a => @ob _ _ _ (he3.rc hP hB a)), ↓(fun a => @ob _ _ _ (he3.ng hB a)), ↓ob he4.w4, ↓ob he4.r4, ↓ob he4.f4, ↓ob he4.w2, ↓ob he4.f2, ↓ob he4.p0, he4.o4, he4.o2, he4.o0, ↓(fun a b => @ob _ _ _ (he4.tm hP hB a b)), ↓(fun a b => @ob _ _ _ (he4.pl hP hB a b)), ↓(fun a b => @ob _ _ _ (he4.mi hP hB a b)), ↓(fun a => @ob _ _ _ (he4.rc hP hB a)), ↓(fun a => @ob _ _ _ (he4.ng hB a)), b5.ldh, sJ_h]
      · intro x y hxy hy hc
        by_cases e : x = i ∧ y = j
        · obtain ⟨rfl, rfl⟩ := e
          rw [pk_uLs]
          by_cases e3 : x = y
          · subst e3
            rw [pk_uLs]
            exact ⟨rfl, rfl⟩
          · have n1 : x * w + y ≠ y * w + x := fun q => by have := ij_inj hw x y y x (by omega) hy hy (by omega) q; omega
            rw [pk_uLn n1, pk_uLs]
            exact ⟨rfl, rfl⟩
        · have n1 : x * w + y ≠ j * w + i := fun q => by have := ij_inj hw x y j i (by omega) hy hj (by omega) q; omega
          have n2 : x * w + y ≠ i * w + j := fun q => e (ij_inj hw x y i j (by omega) hy (by omega) hj q)
          have n3 : y * w + x ≠ j * w + i := fun q => e (by have := ij_inj hw y x j i hy (by omega) hj (by omega) q; omega)
          have n4 : y * w + x ≠ i * w + j := fun q => e (by have := ij_inj hw y x i j hy (by omega) (by omega) hj q; omega)
          rw [pk_uLn n1, pk_uLn n2, pk_uLn n3, pk_uLn n4]
          refine hv x y hxy hy ?_
          have hpp := pIJ hw hxy hy
          rcases Nat.lt_or_ge (stw w x + (y - x)) (stw w i + (j - i)) with c | c
          · exact c
          · exfalso
            have e5 : stw w x + (y - x) = stw w i + (j - i) := by omega
            rw [e5, hp2.1] at hpp
            rw [hp2.2.1] at hpp
            exact e ⟨hpp.1.symm, hpp.2.1.symm⟩
    · intro i c d2 hi
      have he3 := he2.h (w * w) d2
      unfold f_X4_quadricThrough_L66
      simp (disch := omega) only [↓Option.bind_some, ↓Option.elim_some, ↓Option.elim_none, Option.bind_some, Option.elim_some, Option.elim_none, Option.some.injEq, Sum.inl.injEq, Sum.inr.injEq, ↓reduceIte, m_side, lit_nI, lz_I, nI_add, pk_mul, pk_sub, nI_ge, nI_le, nI_lt, nI_nlt, gi_t, nI_clamp, nI_eq, pk_rem, Nat.zero_add, Nat.reduceAdd, Nat.reduceMul, Nat.reduceSub, Nat.reduceMod, Nat.reduceEqDiff, reduceCtorEq, Nat.one_ne_zero, Nat.zero_ne_one, ↓ob he3.w4, ↓ob he3.r4, ↓ob he3.f4, ↓ob he3.w2, ↓ob he3.f2, ↓ob he3.p0, he3.o4, he3.o2, he3.o0, ↓(fun a b => @ob _ _ _ (he3.tm hP hB a b)), ↓(fun a b => @ob _ _ _ (he3.pl hP hB a b)), ↓(fun a b => @ob _ _ _ (he3.mi hP hB a b)), ↓(fun a => @ob _ _ _ (he3.rc hP hB a)), ↓(fun a => @ob _ _ _ (he3.ng hB a))]
    · intro c d2
      have he3 := he2.h (w * w) d2
      unfold f_X4_quadricThrough_L53
      simp (disch := omega) only [↓Option.bind_some, ↓Option.elim_some, ↓Option.elim_none, Option.bind_some, Option.elim_some, Option.elim_none, Option.some.injEq, Sum.inl.injEq, Sum.inr.injEq, ↓reduceIte, m_side, lit_nI, lz_I, nI_add, pk_mul, pk_sub, nI_ge, nI_le, nI_lt, nI_nlt, gi_t, nI_clamp, nI_eq, pk_rem, Nat.zero_add, Nat.reduceAdd, Nat.reduceMul, Nat.reduceSub, Nat.reduceMod, Nat.reduceEqDiff, reduceCtorEq, Nat.one_ne_zero, Nat.zero_ne_one, ↓ob he3.w4, ↓ob he3.r4, ↓ob he3.f4, ↓ob he3.w2, ↓ob he3.f2, ↓ob he3.p0, he3.o4, he3.o2, he3.o0, ↓(fun a b => @ob _ _ _ (he3.tm hP hB a b)), ↓(fun a b => @ob _ _ _ (he3.pl hP hB a b)), ↓(fun a b => @ob _ _ _ (he3.mi hP hB a b)), ↓(fun a => @ob _ _ _ (he3.rc hP hB a)), ↓(fun a => @ob _ _ _ (he3.ng hB a))]
  · have hr := b3 hf
    subst hr
    refine ⟨none, hp2, sz2, ?_, b2, fun _ => rfl, fun z => absurd z hf⟩
    have e1' : (nI w * (nI w + 1)) / (2 : Int32) = nI (stw w w) := by
      rw [show (1 : Int32) = nI 1 from rfl, show (2 : Int32) = nI 2 from rfl, nI_add, pk_mul, e1]
    unfold f_X4_quadricThrough
    simp only [↓ob he.w4, ↓ob he.r4, he.o4, ↓ob a1, he1.o2, e1', ↓ob b1, ↓reduceIte, ↓Option.elim_none]
/-- the points of the frame -/
def fpF [NeZero P] (w k : Nat) : Nat → Fin P := fun j => if k < w then (if j = k then 1 else 0) else 1
theorem e_framePoint [NeZero P] (hP : 2 < P) (hB : P < 2 ^ 31) {hp : cH} {w so ro fo sz k : Nat} (he : eV P w so ro fo hp sz) (hw : w = 3 ∨ w = 4) (hk : k ≤ w) : ∃ hp', f_X2_framePoint hp sz ro (nI k) = some (sz, hp', sz + 1) ∧ vA hp' (sz + 1) sz w (fpF (P := P) w k) ∧ gro hp sz hp' (sz + 1) := by
  have n1 := nJ_h (hp := hp) (sz := sz) (n := w) (by omega)
  have he1 := he.h w (fun _ => 0)
  by_cases c : k < w
  · refine ⟨hW hp sz w (vp_updL (fun _ => 0) k (fL (1 : Fin P))), ?_, vA_hW (fun j hj => ?_), gro.nw⟩
    · have s1 : sJ (hW hp sz w (fun _ => 0)) sz (nI k) 1 = some (hW hp sz w (vp_updL (fun _ => 0) k (fL (1 : Fin P)))) := by rw [sJ_h (by omega) (by omega), fL_o hP]
      unfold f_X2_framePoint
      simp (disch := omega) only [↓Option.bind_some, ↓Option.elim_some, ↓Option.elim_none, Option.bind_some, Option.elim_some, Option.elim_none, Option.some.injEq, Sum.inl.injEq, Sum.inr.injEq, ↓reduceIte, m_side, lit_nI, lz_I, nI_add, pk_mul, pk_sub, nI_ge, nI_le, nI_lt, nI_nlt, gi_t, nI_clamp, nI_eq, pk_rem, Nat.zero_add, Nat.reduceAdd, Nat.reduceMul, Nat.reduceSub, Nat.reduceMod, Nat.reduceEqDiff, reduceCtorEq, Nat.one_ne_zero, Nat.zero_ne_one, ↓ob he.w4, ↓ob he.r4, ↓ob he.f4, ↓ob he.w2, ↓ob he.f2, ↓ob he.p0, he.o4, he.o2, he.o0, ↓(fun a b => @ob _ _ _ (he.tm hP hB a b)), ↓(fun a b => @ob _ _ _ (he.pl hP hB a b)), ↓(fun a b => @ob _ _ _ (he.mi hP hB a b)), ↓(fun a => @ob _ _ _ (he.rc hP hB a)), ↓(fun a => @ob _ _ _ (he.ng hB a)), ↓ob he1.w4, ↓ob he1.r4, ↓ob he1.f4, ↓ob he1.w2, ↓ob he1.f2, ↓ob he1.p0, he1.o4, he1.o2, he1.o0, ↓(fun a b => @ob _ _ _ (he1.tm hP hB a b)), ↓(fun a b => @ob _ _ _ (he1.pl hP hB a b)), ↓(fun a b => @ob _ _ _ (he1.mi hP hB a b)), ↓(fun a => @ob _ _ _ (he1.rc hP hB a)), ↓(fun a => @ob _ _ _ (he1.ng hB a)), ↓ob n1, ↓ob s1]
    · unfold fpF
      rw [if_pos c]
      by_cases e : j = k
      · rw [if_pos e, e, pk_uLs]
      · rw [if_neg e, pk_uLn e, fL_z]
  · have e : k = w := by omega
    subst e
    have key := eloopP (P := P) (f := fun s => f_J7_fill_d0a16_L6 sz 1 (nI k) s.1 s.2) (emb := hW hp sz k) (d := fun _ => 0) k (fun _ => 1) ?_ ?_
    · obtain ⟨d', k1, k2⟩ := key
      have k1' : itX (fun s => f_J7_fill_d0a16_L6 sz 1 (nI k) s.1 s.2) (0, hW hp sz k (fun _ => 0)) = some (hW hp sz k d') := k1
      have l1 : aN (hW hp sz k (fun _ => 0)) sz = some (nI k) := by
        unfold aN
        rw [hW_a]
        rfl
      refine ⟨hW hp sz k d', ?_, vA_hW (vo_congr k2 (fun j hj => ?_)), gro.nw⟩
      · unfold f_X2_framePoint f_J7_fill_d0a16
        simp (disch := omega) only [↓Option.bind_some, ↓Option.elim_some, ↓Option.elim_none, Option.bind_some, Option.elim_some, Option.elim_none, Option.some.injEq, Sum.inl.injEq, Sum.inr.injEq, ↓reduceIte, m_side, lit_nI, lz_I, nI_add, pk_mul, pk_sub, nI_ge, nI_le, nI_lt, nI_nlt, gi_t, nI_clamp, nI_eq, pk_rem, Nat.zero_add, Nat.reduceAdd, Nat.reduceMul, Nat.reduceSub, Nat.reduceMod, Nat.reduceEqDiff, reduceCtorEq, Nat.one_ne_zero, Nat.zero_ne_one, ↓ob he.w4, ↓ob he.r4, ↓ob he.f4, ↓ob he.w2, ↓ob he.f2, ↓ob he.p0, he.o4, he.o2, he.o0, ↓(fun a b => @ob _ _ _ (he.tm hP hB a b)), ↓(fun a b => @ob _ _ _ (he.pl hP hB a b)), ↓(fun a b => @ob _ _ _ (he.mi hP hB a b)), ↓(fun a => @ob _ _ _ (he.rc hP hB a)), ↓(fun a => @ob _ _ _ (he.ng hB a)), ↓ob he1.w4, ↓ob he1.r4, ↓ob he1.f4, ↓ob he1.w2, ↓ob he1.f2, ↓ob he1.p0, he1.o4, he1.o2, he1.o0, ↓(fun a b => @ob _ _ _ (he1.tm hP hB a b)), ↓(fun a b => @ob _ _ _ (he1.pl hP hB a b)), ↓(fun a b => @ob _ _ _ (he1.mi hP hB a b)), ↓(fun a => @ob _ _ _ (he1.rc hP hB a)), ↓(fun a => @ob _ _ _ (he1.ng hB a)), ↓ob n1, ↓ob l1, ↓ob k1']
      · unfold fpF
        rw [if_neg c]
    · intro j d1 hj
      unfold f_J7_fill_d0a16_L6
      simp (disch := omega) only [↓Option.bind_some, ↓Option.elim_some, ↓Option.elim_none, Option.bind_some, Option.elim_some, Option.elim_none, Option.some.injEq, Sum.inl.injEq, Sum.inr.injEq, ↓reduceIte, m_side, lit_nI, lz_I, nI_add, pk_mul, pk_sub, nI_ge, nI_le, nI_lt, nI_nlt, gi_t, nI_clamp, nI_eq, pk_rem, Nat.zero_add, Nat.reduceAdd, Nat.reduceMul, Nat.reduceSub, Nat.reduceMod, Nat.reduceEqDiff, reduceCtorEq, Nat.one_ne_zero, Nat.zero_ne_one, sJ_h, fL_o hP]
    · intro d1
      unfold f_J7_fill_d0a16_L6
      simp (disch := omega) only [↓Option.bind_some, ↓Option.elim_some, ↓Option.elim_none, Option.bind_some, Option.elim_some, Option.elim_none, Option.some.injEq, Sum.inl.injEq, Sum.inr.injEq, ↓reduceIte, m_side, lit_nI, lz_I, nI_add, pk_mul, pk_sub, nI_ge, nI_le, nI_lt, nI_nlt, gi_t, nI_clamp, nI_eq, pk_rem, Nat.zero_add, Nat.reduceAdd, Nat.reduceMul, Nat.reduceSub, Nat.reduceMod, Nat.reduceEqDiff, reduceCtorEq, Nat.one_ne_zero, Nat.zero_ne_one]
/-- x is a multiple of the normal row y -/
abbrev mul [NeZero P] (w : Nat) (x y : Nat → Fin P) : Prop := ldV y w < w ∧ ∀ i, i < w → x i = x (ldV y w) * y i
theorem e_isMultiple [NeZero P] (hP : 2 < P) (hB : P < 2 ^ 31) {hp : cH} {w so ro fo sz a b : Nat} {x y : Nat → Fin P} (he : eV P w so ro fo hp sz) (hw : w = 3 ∨ w = 4) (hx : vA hp sz a w x) (hy : vA hp sz b w y) : f_X2_isMultiple hp ro a b = some (nI (if mul w x y then 1 else 0)) := by
  have l1 := e_lead hB hy (by omega)
  have l2 := hx.len
  have hle := ldV_le y w
  by_cases h0 : ldV y w < w
  · have hx0 := hx.ld h0 (by omega)
    have gen : ∀ n k, k + n = w → ((∀ i, k ≤ i → i < w → x i = x (ldV y w) * y i) → itX (f_X2_isMultiple_L16 hp ro a b (nI (ldV y w))) (nI k) = some (.inl ())) ∧ ((¬ ∀ i, k ≤ i → i < w → x i = x (ldV y w) * y i) → itX (f_X2_isMultiple_L16 hp ro a b (nI (ldV y w))) (nI k) = some (.inr (nI 0))) := by
      intro n
      induction n with
      | zero =>
        intro k hk
        have e : k = w := by omega
        subst e
        refine ⟨fun _ => ?_, fun q => absurd (fun i h1 h2 => by omega) q⟩
        apply itX_stop
        unfold f_X2_isMultiple_L16
        simp (disch := omega) only [↓Option.bind_some, ↓Option.elim_some, ↓Option.elim_none, Option.bind_some, Option.elim_some, Option.elim_none, Option.some.injEq, Sum.inl.injEq, Sum.inr.injEq, ↓reduceIte, m_side, lit_nI, lz_I, nI_add, pk_mul, pk_sub, nI_ge, nI_le, nI_lt, nI_nlt, gi_t, nI_clamp, nI_eq, pk_rem, Nat.zero_add, Nat.reduceAdd, Nat.reduceMul, Nat.reduceSub, Nat.reduceMod, Nat.reduceEqDiff, reduceCtorEq, Nat.one_ne_zero, Nat.zero_ne_one, ↓ob l2]
      | succ n ih =>
        intro k hk
        have hxk := hx.ld (show k < w by omega) (by omega)
        have hyk := hy.ld (show k < w by omega) (by omega)
        obtain ⟨i1, i2⟩ := ih (k + 1) (by omega)
        by_cases e : x k = x (ldV y w) * y k
        · have hs : f_X2_isMultiple_L16 hp ro a b (nI (ldV y w)) (nI k) = some (.inl (nI (k + 1))) := by
            have hq : fL (x k) = fL (x (ldV y w) * y k) := by rw [← e]
            unfold f_X2_isMultiple_L16
            simp only [↓ob l2, ↓ob hxk, ↓ob he.f2, ↓ob hx0, ↓ob hyk, he.o0, ↓ob (he.tm hP hB _ _), ↓reduceIte, nI_ge (show k < w by omega) (show w < 2 ^ 31 by omega), hq]
            rw [show (1 : Int32) = nI 1 from rfl, nI_add]
          refine ⟨fun q => ?_, fun q => ?_⟩
          · rw [itX_step hs]
            exact i1 (fun i h1 h2 => q i (by omega) h2)
          · rw [itX_step hs]
            refine i2 (fun q2 => q (fun i h1 h2 => ?_))
            by_cases e2 : i = k
            · rw [e2]; exact e
            · exact q2 i (by omega) h2
        · refine ⟨fun q => absurd (q k (Nat.le_refl k) (by omega)) e, fun _ => ?_⟩
          apply itX_stop
          have hq : ¬ fL (x k) = fL (x (ldV y w) * y k) := fun q => e ((fL_eq hB).mp q)
          unfold f_X2_isMultiple_L16
          simp only [↓ob l2, ↓ob hxk, ↓ob he.f2, ↓ob hx0, ↓ob hyk, he.o0, ↓ob (he.tm hP hB _ _), ↓reduceIte, nI_ge (show k < w by omega) (show w < 2 ^ 31 by omega), hq]
          rfl
    obtain ⟨i1, i2⟩ := gen w 0 (by omega)
    by_cases c : ∀ i, 0 ≤ i → i < w → x i = x (ldV y w) * y i
    · have h1' : itX (f_X2_isMultiple_L16 hp ro a b (nI (ldV y w))) 0 = some (.inl ()) := i1 c
      rw [if_pos (show mul w x y from ⟨h0, fun i hi => c i (by omega) hi⟩)]
      unfold f_X2_isMultiple
      simp (disch := omega) only [↓Option.bind_some, ↓Option.elim_some, ↓Option.elim_none, Option.bind_some, Option.elim_some, Option.elim_none, Option.some.injEq, Sum.inl.injEq, Sum.inr.injEq, ↓reduceIte, m_side, lit_nI, lz_I, nI_add, pk_mul, pk_sub, nI_ge, nI_le, nI_lt, nI_nlt, gi_t, nI_clamp, nI_eq, pk_rem, Nat.zero_add, Nat.reduceAdd, Nat.reduceMul, Nat.reduceSub, Nat.reduceMod, Nat.reduceEqDiff, reduceCtorEq, Nat.one_ne_zero, Nat.zero_ne_one, ↓ob l1, ↓ob l2, ↓ob h1']
    · have h1' : itX (f_X2_isMultiple_L16 hp ro a b (nI (ldV y w))) 0 = some (.inr (nI 0)) := i2 c
      rw [if_neg (show ¬ mul w x y from fun q => c (fun i _ hi => q.2 i hi))]
      unfold f_X2_isMultiple
      simp (disch := omega) only [↓Option.bind_some, ↓Option.elim_some, ↓Option.elim_none, Option.bind_some, Option.elim_some, Option.elim_none, Option.some.injEq, Sum.inl.injEq, Sum.inr.injEq, ↓reduceIte, m_side, lit_nI, lz_I, nI_add, pk_mul, pk_sub, nI_ge, nI_le, nI_lt, nI_nlt, gi_t, nI_clamp, nI_eq, pk_rem, Nat.zero_add, Nat.reduceAdd, Nat.reduceMul, Nat.reduceSub, Nat.reduceMod, Nat.reduceEqDiff, reduceCtorEq, Nat.one_ne_zero, Nat.zero_ne_one, ↓ob l1, ↓ob l2, ↓ob h1']
  · rw [if_neg (show ¬ mul w x y from fun q => h0 q.1)]
    unfold f_X2_isMultiple
    simp (disch := omega) only [↓Option.bind_some, ↓Option.elim_some, ↓Option.elim_none, Option.bind_some, Option.elim_some, Option.elim_none, Option.some.injEq, Sum.inl.injEq, Sum.inr.injEq, ↓reduceIte, m_side, lit_nI, lz_I, nI_add, pk_mul, pk_sub, nI_ge, nI_le, nI_lt, nI_nlt, gi_t, nI_clamp, nI_eq, pk_rem, Nat.zero_add, Nat.reduceAdd, Nat.reduceMul, Nat.reduceSub, Nat.reduceMod, Nat.reduceEqDiff, reduceCtorEq, Nat.one_ne_zero, Nat.zero_ne_one, ↓ob l1, ↓ob l2]
/-- the images of a row -/
def itV [NeZero P] (w : Nat) (Q x : Nat → Fin P) : Nat → Nat → Fin P
  | 0 => x
  | t + 1 => imV w Q (itV w Q x t)
def tbN [NeZero P] (w : Nat) (Q y : Nat → Fin P) (m : Nat) : Nat := sr (fun t => decide (mul w (itV w Q y t) y)) m 1
theorem e_times [NeZero P] (hP : 2 < P) (hB : P < 2 ^ 31) {hp : cH} {w so ro fo sz q b m : Nat} {Q y : Nat → Fin P} (he : eV P w so ro fo hp sz) (hw : w = 3 ∨ w = 4) (hQ : vA hp sz q (w * w) Q) (hy : vA hp sz b w y) (hm : m ≤ 1000) : ∃ hp' sz', f_X2_timesUntilBack hp sz ro q b (nI m) = some (nI (if tbN w Q y m ≤ m then tbN w Q y m else 0), hp', sz') ∧ gro hp sz hp' sz' := by
  obtain ⟨hp1, a1, a2, a3⟩ := c_fa (sz := sz) hy.1 (by omega)
  obtain ⟨aw, aj, -⟩ := aJ_fa a2
  have g1 : gro hp sz hp1 (sz + 1) := ⟨old_of a3 (Nat.le_refl _), by omega⟩
  have he1 := he.g g1
  have n1 := nJ_h (hp := hp1) (sz := sz + 1) (n := w) (by omega)
  have g2 : gro hp sz (hW hp1 (sz + 1) w (fun _ => 0)) (sz + 1 + 1) := g1.tr gro.nw
  have key : ∀ n t (hp2 : cH) (h x : Nat), t + n = m + 1 → 1 ≤ t → gro hp sz hp2 (sz + 1 + 1) → sz ≤ h → h < sz + 1 + 1 → sz ≤ x → x < sz + 1 + 1 → x ≠ h → fa hp2 h w (itV w Q y (t - 1)) → (∃ z : Nat → Fin P, fa hp2 x w z) → ∃ hp3, itX (fun s : Nat × Nat × Int32 × cH => f_X2_timesUntilBack_L20 (sz + 1 + 1) ro q b (nI m) s.1 s.2.1 s.2.2.1 s.2.2.2) (h, x, nI t, hp2) = some (if sr (fun t => decide (mul w (itV w Q y t) y)) n t ≤ m then .inr (nI (sr (fun t => decide (mul w (itV w Q y t) y)) n t), hp3, sz + 1 + 1) else .inl hp3) ∧ gro hp sz hp3 (sz + 1 + 1) := by
    intro n
    induction n with
    | zero =>
      intro t hp2 h x ht h1 hg h2 h3 h4 h5 h6 h7 h8
      refine ⟨hp2, ?_, hg⟩
      unfold sr
      rw [if_neg (by omega)]
      apply itX_stop
      (try dsimp only)
      unfold f_X2_timesUntilBack_L20
      rw [if_pos (nI_lt (by omega) (by omega))]
    | succ n ih =>
      intro t hp2 h x ht h1 hg h2 h3 h4 h5 h6 h7 h8
      obtain ⟨z, h8⟩ := h8
      have he2 := he.g hg
      have hQ2 := hQ.g hg
      have hy2 := hy.g hg
      obtain ⟨hp3, b1, b2, b3⟩ := t_imageInto hP hB he2.R (by omega) hQ2.1 h7 h8 (by have := hQ.2; omega) h6
      have hg3 : gro hp sz hp3 (sz + 1 + 1) := hg.st b3 h4
      have he3 := he.g hg3
      have e0 : imV w Q (itV w Q y (t - 1)) = itV w Q y t := by
        have : t = t - 1 + 1 := by omega
        rw [this]
        rfl
      rw [e0] at b2
      have hmu := e_isMultiple hP hB he3 hw (⟨b2, h5⟩ : vA hp3 (sz + 1 + 1) x w _) (hy.g hg3)
      unfold sr
      by_cases c : mul w (itV w Q y t) y
      · rw [if_pos (by simpa using c)]
        rw [if_pos c] at hmu
        refine ⟨hp3, ?_, hg3⟩
        rw [if_pos (by omega)]
        apply itX_stop
        (try dsimp only)
        unfold f_X2_timesUntilBack_L20
        simp (disch := omega) only [↓Option.bind_some, ↓Option.elim_some, ↓Option.elim_none, Option.bind_some, Option.elim_some, Option.elim_none, Option.some.injEq, Sum.inl.injEq, Sum.inr.injEq, ↓reduceIte, m_side, lit_nI, lz_I, nI_add, pk_mul, pk_sub, nI_ge, nI_le, nI_lt, nI_nlt, gi_t, nI_clamp, nI_eq, pk_rem, Nat.zero_add, Nat.reduceAdd, Nat.reduceMul, Nat.reduceSub, Nat.reduceMod, Nat.reduceEqDiff, reduceCtorEq, Nat.one_ne_zero, Nat.zero_ne_one, ↓ob he2.w4, ↓ob he2.r4, ↓ob he2.f4, ↓ob he2.w2, ↓ob he2.f2, ↓ob he2.p0, he2.o4, he2.o2, he2.o0, ↓(fun a b => @ob _ _ _ (he2.tm hP hB a b)), ↓(fun a b => @ob _ _ _ (he2.pl hP hB a b)), ↓(fun a b => @ob _ _ _ (he2.mi hP hB a b)), ↓(fun a => @ob _ _ _ (he2.rc hP hB a)), ↓(fun a => @ob _ _ _ (he2.ng hB a)), ↓ob he3.w4, ↓ob he3.r4, ↓ob he3.f4, ↓ob he3.w2, ↓ob he3.f2, ↓ob he3.p0, he3.o4, he3.o2, he3.o0, ↓(fun a b => @ob _ _ _ (he3.tm hP hB a b)), ↓(fun a b => @ob _ _ _ (he3.pl hP hB a b)), ↓(fun a b => @ob _ _ _ (he3.mi hP hB a b)), ↓(fun a => @ob _ _ _ (he3.rc hP hB a)), ↓(fun a => @ob _ _ _ (he3.ng hB a)), ↓ob b1, ↓ob hmu]
      · rw [if_neg (by simpa using c)]
        rw [if_neg c] at hmu
        obtain ⟨hp4, c1, c2⟩ := ih (t + 1) hp3 x h (by omega) (by omega) hg3 h4 h5 h2 h3 (Ne.symm h6) (by rw [Nat.add_sub_cancel]; exact b2) ⟨_, fa_of h7 (b3 h (by show ¬ h = x; omega))⟩
        refine ⟨hp4, ?_, c2⟩
        rw [itX_step (s' := (x, h, nI (t + 1), hp3)), c1]
        (try dsimp only)
        unfold f_X2_timesUntilBack_L20
        simp (disch := omega) only [↓Option.bind_some, ↓Option.elim_some, ↓Option.elim_none, Option.bind_some, Option.elim_some, Option.elim_none, Option.some.injEq, Sum.inl.injEq, Sum.inr.injEq, ↓reduceIte, m_side, lit_nI, lz_I, nI_add, pk_mul, pk_sub, nI_ge, nI_le, nI_lt, nI_nlt, gi_t, nI_clamp, nI_eq, pk_rem, Nat.zero_add, Nat.reduceAdd, Nat.reduceMul, Nat.reduceSub, Nat.reduceMod, Nat.reduceEqDiff, reduceCtorEq, Nat.one_ne_zero, Nat.zero_ne_one, ↓ob he2.w4, ↓ob he2.r4, ↓ob he2.f4, ↓ob he2.w2, ↓ob he2.f2, ↓ob he2.p0, he2.o4, he2.o2, he2.o0, ↓(fun a b => @ob _ _ _ (he2.tm hP hB a b)), ↓(fun a b => @ob _ _ _ (he2.pl hP hB a b)), ↓(fun a b => @ob _ _ _ (he2.mi hP hB a b)), ↓(fun a => @ob _ _ _ (he2.rc hP hB a)), ↓(fun a => @ob _ _ _ (he2.ng hB a)), ↓ob he3.w4, ↓ob he3.r4, ↓ob he3.f4, ↓ob he3.w2, ↓ob he3.f2, ↓ob he3.p0, he3.o4, he3.o2, he3.o0, ↓(fun a b => @ob _ _ _ (he3.tm hP hB a b)), ↓(fun a b => @ob _ _ _ (he3.pl hP hB a b)), ↓(fun a b => @ob _ _ _ (he3.mi hP hB a b)), ↓(fun a => @ob _ _ _ (he3.rc hP hB a)), ↓(fun a => @ob _ _ _ (he3.ng hB a)), ↓ob b1, ↓ob hmu]
  have f0 : fa (hW hp1 (sz + 1) w (fun _ => 0)) sz w y := fa_of a2 (hW_o (by omega))
  obtain ⟨hp3, c1, c2⟩ := key m 1 _ sz (sz + 1) (by omega) (Nat.le_refl _) g2 (by omega) (by omega) (by omega) (by omega) (by omega) f0 ⟨fun _ => 0, fa_hW (fun j hj => fL_z.symm)⟩
  have c1' : itX (fun s : Nat × Nat × Int32 × cH => f_X2_timesUntilBack_L20 (sz + 1 + 1) ro q b (nI m) s.1 s.2.1 s.2.2.1 s.2.2.2) (sz, sz + 1, 1, hW hp1 (sz + 1) w (fun _ => 0)) = _ := c1
  refine ⟨hp3, sz + 1 + 1, ?_, c2⟩
  unfold tbN
  by_cases c : sr (fun t => decide (mul w (itV w Q y t) y)) m 1 ≤ m
  · rw [if_pos c] at c1' ⊢
    unfold f_X2_timesUntilBack
    simp (disch := omega) only [↓Option.bind_some, ↓Option.elim_some, ↓Option.elim_none, Option.bind_some, Option.elim_some, Option.elim_none, Option.some.injEq, Sum.inl.injEq, Sum.inr.injEq, ↓reduceIte, m_side, lit_nI, lz_I, nI_add, pk_mul, pk_sub, nI_ge, nI_le, nI_lt, nI_nlt, gi_t, nI_clamp, nI_eq, pk_rem, Nat.zero_add, Nat.reduceAdd, Nat.reduceMul, Nat.reduceSub, Nat.reduceMod, Nat.reduceEqDiff, reduceCtorEq, Nat.one_ne_zero, Nat.zero_ne_one, ↓ob a1, ↓ob aj, ↓ob n1, ↓ob c1', ↓ob he1.w4, ↓ob he1.r4, ↓ob he1.f4, ↓ob he1.w2, ↓ob he1.f2, ↓ob he1.p0, he1.o4, he1.o2, he1.o0, ↓(fun a b => @ob _ _ _ (he1.tm hP hB a b)), ↓(fun a b => @ob _ _ _ (he1.pl hP hB a b)), ↓(fun a b => @ob _ _ _ (he1.mi hP hB a b)), ↓(fun a => @ob _ _ _ (he1.rc hP hB a)), ↓(fun a => @ob _ _ _ (he1.ng hB a))]
  · rw [if_neg c] at c1' ⊢
    unfold f_X2_timesUntilBack
    simp (disch := omega) only [↓Option.bind_some, ↓Option.elim_some, ↓Option.elim_none, Option.bind_some, Option.elim_some, Option.elim_none, Option.some.injEq, Sum.inl.injEq, Sum.inr.injEq, ↓reduceIte, m_side, lit_nI, lz_I, nI_add, pk_mul, pk_sub, nI_ge, nI_le, nI_lt, nI_nlt, gi_t, nI_clamp, nI_eq, pk_rem, Nat.zero_add, Nat.reduceAdd, Nat.reduceMul, Nat.reduceSub, Nat.reduceMod, Nat.reduceEqDiff, reduceCtorEq, Nat.one_ne_zero, Nat.zero_ne_one, ↓ob a1, ↓ob aj, ↓ob n1, ↓ob c1', ↓ob he1.w4, ↓ob he1.r4, ↓ob he1.f4, ↓ob he1.w2, ↓ob he1.f2, ↓ob he1.p0, he1.o4, he1.o2, he1.o0, ↓(fun a b => @ob _ _ _ (he1.tm hP hB a b)), ↓(fun a b => @ob _ _ _ (he1.pl hP hB a b)), ↓(fun a b => @ob _ _ _ (he1.mi hP hB a b)), ↓(fun a => @ob _ _ _ (he1.rc hP hB a)), ↓(fun a => @ob _ _ _ (he1.ng hB a))]
theorem shr10 : ∀ e, e < 1024 → nI e >>> ((1 : Int32) &&& 31) = nI (e / 2) := by decide +kernel
theorem and10 : ∀ e, e < 1024 → nI e &&& (1 : Int32) = nI (e % 2) := by decide +kernel
theorem pr_at [NeZero P] {w : Nat} (A B : Nat → Fin P) {i j : Nat} (hj : j < w) : prF w A B (i * w + j) = sF (fun k => A (i * w + k) * B (k * w + j)) w := by
  unfold prF
  rw [show (i * w + j) / w = i by rw [Nat.mul_comm, Nat.mul_add_div (by omega), Nat.div_eq_of_lt hj, Nat.add_zero], show (i * w + j) % w = j by rw [Nat.mul_comm, Nat.mul_add_mod, Nat.mod_eq_of_lt hj]]
theorem pr_as [NeZero P] {w : Nat} (hw : 0 < w) (A B C : Nat → Fin P) (m : Nat) : prF w (prF w A B) C m = prF w A (prF w B C) m := by
  have hm := Nat.mod_lt m hw
  have e1 : prF w (prF w A B) C m = sF (fun k => sF (fun l => A (m / w * w + l) * B (l * w + k) * C (k * w + m % w)) w) w := by
    show sF (fun k => prF w A B (m / w * w + k) * C (k * w + m % w)) w = _
    refine sF_congr w (fun k hk => ?_)
    (try dsimp only)
    rw [pr_at A B hk, ← sF_mulr]
  have e2 : prF w A (prF w B C) m = sF (fun l => sF (fun k => A (m / w * w + l) * B (l * w + k) * C (k * w + m % w)) w) w := by
    show sF (fun l => A (m / w * w + l) * prF w B C (l * w + m % w)) w = _
    refine sF_congr w (fun l hl => ?_)
    (try dsimp only)
    rw [pr_at B C hm, ← sF_mul]
    refine sF_congr w (fun k hk => ?_)
    (try dsimp only)
    grind
  rw [e1, e2, sF_swap]
theorem pr_cg [NeZero P] {w : Nat} {A A' B B' : Nat → Fin P} (hA : ∀ m, m < w * w → A m = A' m) (hB : ∀ m, m < w * w → B m = B' m) : ∀ m, m < w * w → prF w A B m = prF w A' B' m := by
  intro m hm
  have q1 : m / w < w := Nat.div_lt_of_lt_mul hm
  have q2 : 0 < w := Nat.lt_of_le_of_lt (Nat.zero_le _) q1
  have q3 := Nat.mod_lt m q2
  unfold prF
  refine sF_congr w (fun k hk => ?_)
  (try dsimp only)
  rw [hA _ (row_lt q1 hk), hB _ (row_lt hk q3)]
theorem pr_id [NeZero P] {w : Nat} (A : Nat → Fin P) : ∀ m, m < w * w → prF w (idF w) A m = A m := by
  intro m hm
  have q1 : m / w < w := Nat.div_lt_of_lt_mul hm
  have q2 : 0 < w := Nat.lt_of_le_of_lt (Nat.zero_le _) q1
  have q3 := Nat.mod_lt m q2
  have q4 : m / w * w + m % w = m := by rw [Nat.mul_comm]; exact Nat.div_add_mod m w
  have hk : ∀ k, k < w → idF (P := P) w (m / w * w + k) = if k = m / w then 1 else 0 := by
    intro k hk
    unfold idF
    rw [show (m / w * w + k) / w = m / w by rw [Nat.mul_comm, Nat.mul_add_div (by omega), Nat.div_eq_of_lt hk, Nat.add_zero], show (m / w * w + k) % w = k by rw [Nat.mul_comm, Nat.mul_add_mod, Nat.mod_eq_of_lt hk]]
    by_cases c : k = m / w
    · rw [if_pos c, if_pos c.symm]
    · rw [if_neg c, if_neg (Ne.symm c)]
  unfold prF
  rw [sF_one q1 (fun i hi hne => by rw [hk i hi, if_neg hne]; grind), hk _ q1, if_pos rfl, q4]
  grind
theorem pr_idr [NeZero P] {w : Nat} (A : Nat → Fin P) : ∀ m, m < w * w → prF w A (idF w) m = A m := by
  intro m hm
  have q1 : m / w < w := Nat.div_lt_of_lt_mul hm
  have q2 : 0 < w := Nat.lt_of_le_of_lt (Nat.zero_le _) q1
  have q3 := Nat.mod_lt m q2
  have q4 : m / w * w + m % w = m := by rw [Nat.mul_comm]; exact Nat.div_add_mod m w
  have hk : ∀ k, k < w → idF (P := P) w (k * w + m % w) = if k = m % w then 1 else 0 := by
    intro k hk
    unfold idF
    rw [show (k * w + m % w) / w = k by rw [Nat.mul_comm, Nat.mul_add_div (by omega), Nat.div_eq_of_lt q3, Nat.add_zero], show (k * w + m % w) % w = m % w by rw [Nat.mul_comm, Nat.mul_add_mod, Nat.mod_mod]]
  unfold prF
  rw [sF_one q3 (fun i hi hne => by rw [hk i hi, if_neg hne]; grind), hk _ q3, if_pos rfl, q4]
  grind
theorem mp_1 [NeZero P] {w : Nat} (M : Nat → Fin P) : ∀ m, m < w * w → mpF w M 1 m = M m := fun m hm => pr_id M m hm
theorem mp_add [NeZero P] {w : Nat} (hw : 0 < w) (M : Nat → Fin P) (a : Nat) : ∀ b m, m < w * w → prF w (mpF w M a) (mpF w M b) m = mpF w M (a + b) m
  | 0, m, hm => pr_idr _ m hm
  | b + 1, m, hm => by
    show prF w (mpF w M a) (prF w (mpF w M b) M) m = prF w (mpF w M (a + b)) M m
    rw [← pr_as hw]
    exact pr_cg (fun l hl => mp_add hw M a b l hl) (fun _ _ => rfl) m hm
theorem e_power [NeZero P] (hP : 2 < P) (hB : P < 2 ^ 31) {hp : cH} {w so ro fo sz q e : Nat} {M : Nat → Fin P} (he : eV P w so ro fo hp sz) (hw : w = 3 ∨ w = 4) (hM : vA hp sz q (w * w) M) (h1 : 1 ≤ e) (h2 : e ≤ 1000) : ∃ r hp' sz', f_X2_power hp sz ro q (nI e) = some (r, hp', sz') ∧ vA hp' sz' r (w * w) (mpF w M e) ∧ gro hp sz hp' sz' := by
  have hw0 : 0 < w := by omega
  have key : ∀ n x i j (r s : Nat) (hp1 : cH) (sz1 rc : Nat), x < 2 ^ n → n ≤ 10 → 2 * n ≤ rc → gro hp sz hp1 sz1 → vA hp1 sz1 r (w * w) (mpF w M i) → vA hp1 sz1 s (w * w) (mpF w M j) → ∃ r' hp2 sz2 rc2, itX (fun z : Nat × Nat × Int32 × cH × Nat × Nat => f_X2_power_L10 ro z.1 z.2.1 z.2.2.1 z.2.2.2.1 z.2.2.2.2.1 z.2.2.2.2.2) (r, s, nI x, hp1, sz1, rc) = some (r', hp2, sz2, rc2) ∧ vA hp2 sz2 r' (w * w) (mpF w M (i + j * x)) ∧ gro hp sz hp2 sz2 := by
    intro n
    induction n with
    | zero =>
      intro x i j r s hp1 sz1 rc hx _ hrc hg hr hs
      have e0 : x = 0 := by omega
      subst e0
      refine ⟨r, hp1, sz1, rc, ?_, by rw [Nat.mul_zero, Nat.add_zero]; exact hr, hg⟩
      apply itX_stop
      (try dsimp only)
      unfold f_X2_power_L10
      rw [if_pos (show nI 0 ≤ 0 by decide)]
    | succ n ih =>
      intro x i j r s hp1 sz1 rc hx hn hrc hg hr hs
      have hpw : 2 ^ (n + 1) ≤ 2 ^ 10 := Nat.pow_le_pow_right (by decide) hn
      have hx2 : x / 2 < 2 ^ n := by
        rw [Nat.pow_succ] at hx
        omega
      by_cases e0 : x = 0
      · subst e0
        refine ⟨r, hp1, sz1, rc, ?_, by rw [Nat.mul_zero, Nat.add_zero]; exact hr, hg⟩
        apply itX_stop
        (try dsimp only)
        unfold f_X2_power_L10
        rw [if_pos (show nI 0 ≤ 0 by decide)]
      · have he1 := he.g hg
        have hsh := shr10 x (by omega)
        have han := and10 x (by omega)
        have hpos : ¬ nI x ≤ 0 := nI_ge (a := 0) (by omega) (by omega)
        by_cases eo : x % 2 = 1
        · obtain ⟨hp2, a1, a2, a3⟩ := e_product hP hB he1 hw hr hs
          have he2 := he1.g a3
          obtain ⟨hp3, b1, b2, b3⟩ := e_product hP hB he2 hw (hs.g a3) (hs.g a3)
          have r3 : vA hp3 (sz1 + 1 + 1) sz1 (w * w) (mpF w M (i + j)) := (a2.g b3).congr (mp_add hw0 M i j)
          have s3 : vA hp3 (sz1 + 1 + 1) (sz1 + 1) (w * w) (mpF w M (j + j)) := b2.congr (mp_add hw0 M j j)
          obtain ⟨r', hp4, sz4, rc4, c1, c2, c3⟩ := ih (x / 2) (i + j) (j + j) _ _ hp3 (sz1 + 1 + 1) (rc - 1 - 1) hx2 (by omega) (by omega) ((hg.tr a3).tr b3) r3 s3
          have hex : i + j + (j + j) * (x / 2) = i + j * x := by
            have : x = 2 * (x / 2) + 1 := by omega
            conv => rhs; rw [this]
            grind
          rw [hex] at c2
          refine ⟨r', hp4, sz4, rc4, ?_, c2, c3⟩
          rw [itX_step (s' := (sz1, sz1 + 1, nI (x / 2), hp3, sz1 + 1 + 1, rc - 1 - 1)), c1]
          (try dsimp only)
          unfold f_X2_power_L10 f_X2_power_L10J31
          rw [eo] at han
          simp only [hpos, han, hsh, (show nI 1 = 1 from rfl), he1.o2, he2.o2, (show 1 ≤ rc by omega), (show 1 ≤ rc - 1 by omega), ↓ob a1, ↓ob b1, ↓reduceIte]
        · obtain ⟨hp3, b1, b2, b3⟩ := e_product hP hB he1 hw hs hs
          have s3 : vA hp3 (sz1 + 1) sz1 (w * w) (mpF w M (j + j)) := b2.congr (mp_add hw0 M j j)
          obtain ⟨r', hp4, sz4, rc4, c1, c2, c3⟩ := ih (x / 2) i (j + j) _ _ hp3 (sz1 + 1) (rc - 1) hx2 (by omega) (by omega) (hg.tr b3) (hr.g b3) s3
          have hex : i + (j + j) * (x / 2) = i + j * x := by
            have : x = 2 * (x / 2) := by omega
            conv => rhs; rw [this]
            grind
          rw [hex] at c2
          refine ⟨r', hp4, sz4, rc4, ?_, c2, c3⟩
          rw [itX_step (s' := (r, sz1, nI (x / 2), hp3, sz1 + 1, rc - 1)), c1]
          (try dsimp only)
          unfold f_X2_power_L10 f_X2_power_L10J31
          rw [show x % 2 = 0 by omega] at han
          simp only [hpos, han, hsh, (show ¬ nI 0 = (1 : Int32) by decide), he1.o2, (show 1 ≤ rc by omega), ↓ob b1, ↓reduceIte]
  have m1 : vA hp sz q (w * w) (mpF w M 1) := hM.congr (fun m hm => (mp_1 M m hm).symm)
  obtain ⟨r', hp2, sz2, rc2, c1, c2, c3⟩ := key 10 (e - 1) 1 1 q q hp sz 20 (by omega) (by omega) (by omega) gro.rf m1 m1
  rw [show 1 + 1 * (e - 1) = e by omega] at c2
  refine ⟨r', hp2, sz2, ?_, c2, c3⟩
  have hs : nI e - (1 : Int32) = nI (e - 1) := by rw [show (1 : Int32) = nI 1 from rfl, pk_sub (by omega)]
  unfold f_X2_power
  simp only [hs, ↓ob c1]
end CPOW
