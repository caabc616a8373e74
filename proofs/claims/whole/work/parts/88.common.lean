section COMMON
variable {P : Nat} {d sz o : Nat} {hp : cH} {ad im rw : Nat → Nat} {c : Nat} {S : Nat → Nat} {R : Nat → Nat → Fin P} {H : Nat → Fin P} {g : Nat} {Gs : Nat → Nat} {m : Nat} {pA pB : Nat → Nat} {id : Int32}
theorem r_step (hp0 : isP P) (ho : P % 2 = 1) [NeZero P] (hB : P < 2 ^ 31) {a b c' u : Fin P} (hu : (b * b - a * c' = 0 ∨ (b * b - a * c') ^ ((P - 1) / 2) = 1) → u * u = b * b - a * c' ∧ 2 * u.val ≤ P ∧ m_rootOf (lN P) (fL (b * b - a * c')) = some (fL u)) {cn q l k : Nat} {sorts : Nat → Int32} {rows draft frame one two fr o1 t1 : Nat → Int64} {fA fB fC : Int64} (hk : k < if a = 0 ∧ b = 0 ∧ c' = 0 then P + 1 else stN a b c' u) (i1 : m_is (nI cn) sorts (nI q) 4 = some (nI 1)) (i2 : m_is (nI cn) sorts (nI l) 1 = some (nI 1)) (hf : m_forms (nI d) (lN P) rows frame one two fA fB fC (nI q) (nI l) = some (fr, o1, t1, fL c', fL b, fL a)) : m_common (nI d) (lN P) (nI cn) sorts rows draft frame one two fA fB fC (nI q) (nI l) (nI k) = m_common_J255 (nI d) (lN P) (nI cn) sorts rows draft fr o1 t1 (fL c') (fL b) (fL a) (if a = 0 ∧ b = 0 ∧ c' = 0 then lN k else stV a b c' u k) := by
  have hP := hp0.1
  have hu2 : (b * b - a * c' = 0 ∨ (b * b - a * c') ^ ((P - 1) / 2) = 1) → u * u = b * b - a * c' ∧ 2 * u.val ≤ P := fun z => ⟨(hu z).1, (hu z).2.1⟩
  have mm := r_many hp0 ho hB a b c' u hu2
  have hN : (if a = 0 ∧ b = 0 ∧ c' = 0 then P + 1 else stN a b c' u) < 2 ^ 31 + 1 := by
    have := stN_le a b c' u
    split <;> omega
  generalize hNN : (if a = 0 ∧ b = 0 ∧ c' = 0 then P + 1 else stN a b c' u) = N at mm hk hN
  have hk2 : k < 2 ^ 31 := by omega
  have x0 : (0 : Int32) ≤ nI k := by
    rw [Int32.le_iff_toInt_le, nI_toInt hk2]
    show (0 : Int) ≤ _
    omega
  have ek := i64n hk2
  have xlt : (nI k).toInt64 < lN N := by
    rw [ek, Int64.lt_iff_toInt_lt, pk_lT (by omega), pk_lT (by omega)]
    omega
  have red : m_common (nI d) (lN P) (nI cn) sorts rows draft frame one two fA fB fC (nI q) (nI l) (nI k) = (if lN P < lN N then m_common_J255 (nI d) (lN P) (nI cn) sorts rows draft fr o1 t1 (fL c') (fL b) (fL a) (nI k).toInt64 else m_common (nI d) (lN P) (nI cn) sorts rows draft frame one two fA fB fC (nI q) (nI l) (nI k)) := by
    by_cases z : lN P < lN N
    · rw [if_pos z]
      unfold m_common
      simp only [↓ob i1, ↓ob i2, n10, x0, ↓ob hf, ↓ob mm, xlt, z, ↓reduceIte]
    · rw [if_neg z]
  by_cases hz : a = 0 ∧ b = 0 ∧ c' = 0
  · rw [if_pos hz] at hNN
    have z : lN P < lN N := by
      rw [Int64.lt_iff_toInt_lt, pk_lT (by omega), pk_lT (by omega)]
      omega
    rw [red, if_pos z, if_pos hz, ek]
  · clear red
    rw [if_neg hz] at hNN
    have hn2 := stN_le a b c' u
    have z : ¬ lN P < lN N := by
      rw [Int64.lt_iff_toInt_lt, pk_lT (by omega), pk_lT (by omega)]
      omega
    rw [if_neg hz]
    by_cases ha : a = 0
    · have za := (fL_0 hB).mpr ha
      by_cases hb : b = 0
      · have zb := (fL_0 hB).mpr hb
        have hv : stV a b c' u k = lN P := by
          unfold stV
          rw [if_neg (fun q => q ha), if_neg (fun q => q hb)]
        rw [hv]
        unfold m_common
        simp only [↓ob i1, ↓ob i2, n10, x0, ↓ob hf, ↓ob mm, xlt, z, ↓if_pos za, ↓if_pos zb, ↓reduceIte]
        rfl
      · have zb : ¬ fL b = 0 := fun q => hb ((fL_0 hB).mp q)
        by_cases k0 : k = 0
        · subst k0
          have hv : stV a b c' u 0 = fL (- (c' * fi (b + b))) := by
            unfold stV
            rw [if_neg (fun q => q ha), if_pos hb, if_pos rfl]
          rw [hv]
          have w1 := s_less0 hP hB c'
          have w2 : m_times (lN P) 2 (fL b) = some (fL (b + b)) := by
            have e2 : (2 : Int64) = fL (2 : Fin P) := lt64 hP
            rw [e2, s_times hP hB]
            congr 2
            grind
          have w3 := s_over hP hB (b + b)
          have w4 := s_times hP hB (- c') (fi (b + b))
          have e : - c' * fi (b + b) = - (c' * fi (b + b)) := by grind
          rw [e] at w4
          have e01 : (nI 0 = (1 : Int32)) = False := by simp [show (nI 0 : Int32) = 0 from rfl]
          unfold m_common
          simp only [↓ob i1, ↓ob i2, n10, x0, ↓ob hf, ↓ob mm, xlt, z, ↓if_pos za, ↓if_neg zb, e01, ↓ob w1, ↓ob w2, ↓ob w3, ↓ob w4, ↓reduceIte]
        · have hN2 : N = 2 := by
            rw [← hNN]
            unfold stN
            rw [if_neg (fun q => q ha), if_pos hb]
          have k1 : k = 1 := by omega
          subst k1
          have hv : stV a b c' u 1 = lN P := by
            unfold stV
            rw [if_neg (fun q => q ha), if_pos hb, if_neg (by omega)]
          rw [hv]
          have e11 : (nI 1 = (1 : Int32)) = True := by simp [show (nI 1 : Int32) = 1 from rfl]
          unfold m_common
          simp only [↓ob i1, ↓ob i2, n10, x0, ↓ob hf, ↓ob mm, xlt, z, ↓if_pos za, ↓if_neg zb, e11, ↓reduceIte]
          rfl
    · have za : ¬ fL a = 0 := fun q => ha ((fL_0 hB).mp q)
      have hD : b * b - a * c' = 0 ∨ (b * b - a * c') ^ ((P - 1) / 2) = 1 := by
        by_cases q : b * b - a * c' = 0 ∨ (b * b - a * c') ^ ((P - 1) / 2) = 1
        · exact q
        · exfalso
          unfold stN at hNN
          rw [if_pos ha, if_pos ⟨fun w => q (Or.inl w), fun w => q (Or.inr w)⟩] at hNN
          omega
      obtain ⟨-, -, u3⟩ := hu hD
      have t1' := s_times hP hB b b
      have t2 := s_times hP hB c' a
      have cm : c' * a = a * c' := by grind
      rw [cm] at t2
      have t3 := s_less hP hB (b * b) (a * c')
      have t4 := s_over hP hB a
      have t5 := s_less hP hB u b
      have t6 := s_times hP hB (u - b) (fi a)
      have t7 := s_less0 hP hB b
      have t8 := s_less hP hB (- b) u
      have t9 := s_times hP hB (- b - u) (fi a)
      have m6 : (u - b) * fi a = fi a * (u - b) := by grind
      have m9 : (- b - u) * fi a = fi a * (- u - b) := by grind
      rw [m6] at t6
      rw [m9] at t9
      have hc : fL (fi a * (- u - b)) ≤ fL (fi a * (u - b)) ↔ ¬ (fi a * (u - b)).val < (fi a * (- u - b)).val := by
        rw [← fL_less hB]
        exact Int64.not_lt.symm
      generalize hX1 : fi a * (u - b) = X1 at t6 hc
      generalize hX2 : fi a * (- u - b) = X2 at t9 hc
      have e10 : ((1 : Int32) = 0) = False := by decide
      have e01 : ((0 : Int32) = 1) = False := by decide
      by_cases k0 : k = 0
      · subst k0
        have e00 : (nI 0 : Int32) = 0 := rfl
        rw [e00] at xlt
        have x0' : ((0 : Int32) ≤ 0) := by decide
        by_cases q : X1.val < X2.val
        · have hv : stV a b c' u 0 = fL X1 := by
            unfold stV
            rw [hX1, hX2, if_pos ha, if_pos rfl, if_pos q]
          rw [hv]
          have hc' : ¬ fL X2 ≤ fL X1 := fun w => hc.mp w q
          unfold m_common
          simp only [e00, ↓ob i1, ↓ob i2, n10, x0', ↓ob hf, ↓ob mm, xlt, z, ↓if_neg za, ↓ob t1', ↓ob t2, ↓ob t3, ↓ob t4, ↓ob u3, ↓ob t5, ↓ob t6, ↓ob t7, ↓ob t8, ↓ob t9, ↓if_neg hc', e10, e01, ↓reduceIte]
        · have hv : stV a b c' u 0 = fL X2 := by
            unfold stV
            rw [hX1, hX2, if_pos ha, if_pos rfl, if_neg q]
          rw [hv]
          have hc' : fL X2 ≤ fL X1 := hc.mpr q
          unfold m_common
          simp only [e00, ↓ob i1, ↓ob i2, n10, x0', ↓ob hf, ↓ob mm, xlt, z, ↓if_neg za, ↓ob t1', ↓ob t2, ↓ob t3, ↓ob t4, ↓ob u3, ↓ob t5, ↓ob t6, ↓ob t7, ↓ob t8, ↓ob t9, ↓if_pos hc', e10, e01, ↓reduceIte]
      · have k1 : k = 1 := by omega
        subst k1
        have e00 : (nI 1 = (0 : Int32)) = False := by simp [show (nI 1 : Int32) = 1 from rfl]
        by_cases q : X1.val < X2.val
        · have hv : stV a b c' u 1 = fL X2 := by
            unfold stV
            rw [hX1, hX2, if_pos ha, if_neg (by omega), if_neg (by omega)]
          rw [hv]
          have hc' : ¬ fL X2 ≤ fL X1 := fun w => hc.mp w q
          unfold m_common
          simp only [e00, ↓ob i1, ↓ob i2, n10, x0, ↓ob hf, ↓ob mm, xlt, z, ↓if_neg za, ↓ob t1', ↓ob t2, ↓ob t3, ↓ob t4, ↓ob u3, ↓ob t5, ↓ob t6, ↓ob t7, ↓ob t8, ↓ob t9, ↓if_neg hc', e10, e01, ↓reduceIte]
        · have hv : stV a b c' u 1 = fL X1 := by
            unfold stV
            rw [hX1, hX2, if_pos ha, if_neg (by omega)]
            by_cases q2 : X2.val < X1.val
            · rw [if_pos q2]
            · rw [if_neg q2]
              have : X1 = X2 := Fin.ext (by omega)
              rw [this]
          rw [hv]
          have hc' : fL X2 ≤ fL X1 := hc.mpr q
          unfold m_common
          simp only [e00, ↓ob i1, ↓ob i2, n10, x0, ↓ob hf, ↓ob mm, xlt, z, ↓if_neg za, ↓ob t1', ↓ob t2, ↓ob t3, ↓ob t4, ↓ob u3, ↓ob t5, ↓ob t6, ↓ob t7, ↓ob t8, ↓ob t9, ↓if_pos hc', e10, e01, ↓reduceIte]
theorem r_line [NeZero P] (hP : 2 < P) (hB : P < 2 ^ 31) {o1 t1 draft : Nat → Int64} {X0 X1 : Nat → Fin P} (hd : d = 2 ∨ d = 3) (h0 : vo o1 (d + 1) X0) (h1 : vo t1 (d + 1) X1) (t : Fin P) : ∃ d', itX (m_common_L262 (nI d) (lN P) o1 t1 (fL t)) (nI 0, draft) = some d' ∧ vo d' (d + 1) (fun j => 1 * X0 j + t * X1 j) := by
  have xp : ¬ fL t = lN P := fL_nP hB t
  have key := loopP (f := m_common_L262 (nI d) (lN P) o1 t1 (fL t)) (d := draft) (d + 1) (fun j => 1 * X0 j + t * X1 j) ?_ ?_
  · obtain ⟨d', k1, k2, -⟩ := key
    exact ⟨d', k1, k2⟩
  · intro k d1 hk _
    have q0 := h0 k hk
    have q1 := h1 k hk
    have e : (1 : Fin P) * X0 k = X0 k := by grind
    unfold m_common_L262
    simp (disch := omega) only [↓Option.bind_some, ↓Option.elim_some, ↓Option.elim_none, Option.bind_some, Option.elim_some, Option.elim_none, Option.some.injEq, Sum.inl.injEq, Sum.inr.injEq, ↓reduceIte, m_side, lit_nI, lz_I, nI_add, pk_mul, pk_sub, nI_ge, nI_le, nI_lt, nI_nlt, gi_t, nI_clamp, nI_eq, pk_rem, Nat.zero_add, Nat.reduceAdd, Nat.reduceMul, Nat.reduceSub, Nat.reduceMod, Nat.reduceEqDiff, reduceCtorEq, Nat.one_ne_zero, Nat.zero_ne_one, s_times hP hB, s_less hP hB, s_over hP hB, n_plus hP hB, lz64 (P := P), lo64 (P := P) hP, lPz hP hB, q0, q1, xp, e]
  · intro d1
    unfold m_common_L262
    simp (disch := omega) only [↓Option.bind_some, ↓Option.elim_some, ↓Option.elim_none, Option.bind_some, Option.elim_some, Option.elim_none, Option.some.injEq, Sum.inl.injEq, Sum.inr.injEq, ↓reduceIte, m_side, lit_nI, lz_I, nI_add, pk_mul, pk_sub, nI_ge, nI_le, nI_lt, nI_nlt, gi_t, nI_clamp, nI_eq, pk_rem, Nat.zero_add, Nat.reduceAdd, Nat.reduceMul, Nat.reduceSub, Nat.reduceMod, Nat.reduceEqDiff, reduceCtorEq, Nat.one_ne_zero, Nat.zero_ne_one]
theorem r_lineP [NeZero P] (hP : 2 < P) (hB : P < 2 ^ 31) {o1 t1 draft : Nat → Int64} {X1 : Nat → Fin P} (hd : d = 2 ∨ d = 3) (h1 : vo t1 (d + 1) X1) : ∃ d', itX (m_common_L262 (nI d) (lN P) o1 t1 (lN P)) (nI 0, draft) = some d' ∧ vo d' (d + 1) X1 := by
  have key := loopP (f := m_common_L262 (nI d) (lN P) o1 t1 (lN P)) (d := draft) (d + 1) X1 ?_ ?_
  · obtain ⟨d', k1, k2, -⟩ := key
    exact ⟨d', k1, k2⟩
  · intro k d1 hk _
    have q1 := h1 k hk
    unfold m_common_L262
    simp (disch := omega) only [↓Option.bind_some, ↓Option.elim_some, ↓Option.elim_none, Option.bind_some, Option.elim_some, Option.elim_none, Option.some.injEq, Sum.inl.injEq, Sum.inr.injEq, ↓reduceIte, m_side, lit_nI, lz_I, nI_add, pk_mul, pk_sub, nI_ge, nI_le, nI_lt, nI_nlt, gi_t, nI_clamp, nI_eq, pk_rem, Nat.zero_add, Nat.reduceAdd, Nat.reduceMul, Nat.reduceSub, Nat.reduceMod, Nat.reduceEqDiff, reduceCtorEq, Nat.one_ne_zero, Nat.zero_ne_one, s_times hP hB, s_less hP hB, s_over hP hB, n_plus hP hB, lz64 (P := P), lo64 (P := P) hP, lPz hP hB, q1]
  · intro d1
    unfold m_common_L262
    simp (disch := omega) only [↓Option.bind_some, ↓Option.elim_some, ↓Option.elim_none, Option.bind_some, Option.elim_some, Option.elim_none, Option.some.injEq, Sum.inl.injEq, Sum.inr.injEq, ↓reduceIte, m_side, lit_nI, lz_I, nI_add, pk_mul, pk_sub, nI_ge, nI_le, nI_lt, nI_nlt, gi_t, nI_clamp, nI_eq, pk_rem, Nat.zero_add, Nat.reduceAdd, Nat.reduceMul, Nat.reduceSub, Nat.reduceMod, Nat.reduceEqDiff, reduceCtorEq, Nat.one_ne_zero, Nat.zero_ne_one]
theorem st_common (hp0 : isP P) (ho : P % 2 = 1) [NeZero P] (hB : P < 2 ^ 31) (hI : shf d c S R) (hC : cS P d hp sz o ad im rw c S R H g Gs m pA pB id) {sorts : Nat → Int32} {rows : Nat → Int64} (hS : sK sorts S c) (hK : rK c rows R) (draft frame one two : Nat → Int64) (fA fB fC : Int64) (x1 x2 x3 : Int32) : ∃ K, ext d c S R K ∧ CO P d hp sz o ad K H g Gs m pA pB id (f_X5_common hp sz o x1 x2 x3) ∧ ∃ s' r' d' f' o' t' a' b' c', m_common (nI d) (lN P) (nI c) sorts rows draft frame one two fA fB fC x1 x2 x3 = some (K.1, nI K.2.1, s', r', d', f', o', t', a', b', c') ∧ RO s' r' K := by
  have hP := hp0.1
  have hle := hC.le
  have hd := hC.hd
  have hw := hC.hw
  have he := hC.e
  have l0 := hC.r0
  have r9 := hC.r9
  have h5 : ∀ a, a < c → S a < 5 := fun a ha => hC.s5 ha
  have same : ∀ v hp' sz', gro hp sz hp' sz' → f_X5_common hp sz o x1 x2 x3 = some (v, hp', sz') → (∃ f' o' t' a' b' c', m_common (nI d) (lN P) (nI c) sorts rows draft frame one two fA fB fC x1 x2 x3 = some (v, nI c, sorts, rows, draft, f', o', t', a', b', c')) → ∃ K, ext d c S R K ∧ CO P d hp sz o ad K H g Gs m pA pB id (f_X5_common hp sz o x1 x2 x3) ∧ ∃ s' r' d' f' o' t' a' b' c', m_common (nI d) (lN P) (nI c) sorts rows draft frame one two fA fB fC x1 x2 x3 = some (K.1, nI K.2.1, s', r', d', f', o', t', a', b', c') ∧ RO s' r' K := fun v hp' sz' q0 q1 q2 => by
    obtain ⟨f', o', t', a', b', c', q2⟩ := q2
    exact ⟨(v, c, S, R), ext_id hI hle _, CO.same hC q0 q1, sorts, rows, draft, f', o', t', a', b', c', q2, hS, hK⟩
  have any : ∀ x : Int32, ∃ y, f_X3_row hp (ad 0) x 1 = some y := fun x => by
    rcases sortX h5 hle hS x (show 1 < 5 by omega) with ⟨a, ha, rfl, e, -⟩ | ⟨q, -⟩
    · exact ⟨_, hC.row (t := 1) ha e⟩
    · exact ⟨_, hC.rowQ (t := 1) (by omega) q⟩
  rcases sortX h5 hle hS x1 (show 4 < 5 by omega) with ⟨q, hq, rfl, sq, i1⟩ | ⟨nq, i1⟩
  · have w1 : f_X3_row hp (ad 0) (nI q) 4 = some (some (rw q)) := hC.row (t := 4) hq sq
    have i1' : m_is (nI c) sorts (nI q) 4 = some (nI 1) := i1
    rcases sortX h5 hle hS x2 (show 1 < 5 by omega) with ⟨l, hl, rfl, sl, i2⟩ | ⟨nq2, i2⟩
    · have w2 : f_X3_row hp (ad 0) (nI l) 1 = some (some (rw l)) := hC.row (t := 1) hl sl
      have i2' : m_is (nI c) sorts (nI l) 1 = some (nI 1) := i2
      by_cases x0 : (0 : Int32) ≤ x3
      · obtain ⟨k, hk2, rfl⟩ : ∃ k, k < 2 ^ 31 ∧ x3 = nI k := by
          rw [Int32.le_iff_toInt_le] at x0
          have z : (0 : Int32).toInt = 0 := rfl
          rw [z] at x0
          have hlt := Int32.toInt_lt x3
          refine ⟨x3.toInt.toNat, by omega, ?_⟩
          apply Int32.toInt_inj.mp
          rw [nI_toInt (by omega)]
          omega
        have ek := i64n hk2
        obtain ⟨X, fa, fb, fc, r, hp1, sz1, A, fr, o1, t1, a1, a2, a3, ea, eb, ec, n1, n2, v1, v2, mf⟩ := forms_both hp0 ho hB hI hC hS hK hq hl sq sl frame one two fA fB fC
        have h1 := hC.gg a3
        have he1 := h1.e
        have r91 := h1.r9
        obtain ⟨u, hu⟩ := root_ex hp0 ho hB he1 (fb * fb - fa * fc)
        have hu2 : (fb * fb - fa * fc = 0 ∨ (fb * fb - fa * fc) ^ ((P - 1) / 2) = 1) → u * u = fb * fb - fa * fc ∧ 2 * u.val ≤ P := fun z => ⟨(hu z).1, (hu z).2.1⟩
        have vq := (hC.v hq).g a3
        rw [sq] at vq
        obtain ⟨s, hp2, sz2, b1, b2, b3, b4⟩ := e_steps hp0 ho hB he1 hw vq a2 ea eb ec hu2
        have mm := r_many hp0 ho hB fa fb fc u hu2
        have h2 := h1.gg b2
        have he2 := h2.e
        have r92 := h2.r9
        have a22 := a2.g b2
        have hn2 := stN_le fa fb fc u
        by_cases hlt : k < if fa = 0 ∧ fb = 0 ∧ fc = 0 then P + 1 else stN fa fb fc u
        · have hst := r_step (d := d) (draft := draft) hp0 ho hB hu hlt i1' i2' mf
          have htt : (∃ t : Fin P, (if fa = 0 ∧ fb = 0 ∧ fc = 0 then lN k else stV fa fb fc u k) = fL t) ∨ (if fa = 0 ∧ fb = 0 ∧ fc = 0 then lN k else stV fa fb fc u k) = lN P := by
            by_cases hz : fa = 0 ∧ fb = 0 ∧ fc = 0
            · rw [if_pos hz] at hlt
              rw [if_pos hz]
              by_cases e : k = P
              · right; rw [e]
              · left; exact ⟨⟨k, by omega⟩, rfl⟩
            · rw [if_neg hz]
              unfold stV
              split
              · split
                · split
                  · exact Or.inl ⟨_, rfl⟩
                  · exact Or.inl ⟨_, rfl⟩
                · split
                  · exact Or.inl ⟨_, rfl⟩
                  · exact Or.inl ⟨_, rfl⟩
              · split
                · split
                  · exact Or.inl ⟨_, rfl⟩
                  · exact Or.inr rfl
                · exact Or.inr rfl
          have hcls : ∀ v, (∃ y hp3 sz3, f_X4_pointAt hp2 sz2 (ad 9) r (if fa = 0 ∧ fb = 0 ∧ fc = 0 then lN k else stV fa fb fc u k) = some (y, hp3, sz3) ∧ isO hp3 o 5 = true ∧ f_X5_keep hp3 sz3 o 0 y = some v) → f_X5_common hp sz o (nI q) (nI l) (nI k) = some v := by
            rintro ⟨q1, q2, q3⟩ ⟨y, hp3, sz3, y1, y2, y3⟩
            by_cases hz : fa = 0 ∧ fb = 0 ∧ fc = 0
            · have hs := b3 hz
              subst hs
              rw [if_pos hz] at hlt y1
              have r72 := h2.r7
              have p02 := h2.e.p0
              have kp : lN k ≤ lN P := by
                rw [Int64.le_iff_toInt_le, pk_lT (by omega), pk_lT (by omega)]
                omega
              unfold f_X5_common
              simp only [↓ob l0, hC.o3, ↓ob w1, ↓ob w2, ↓Option.elim_some, x0, ↓ob r9, he.o4, ↓ob a1, ↓ob r91, he1.o4, ↓ob b1, ↓Option.elim_none, ↓ob r72, ↓ob p02, ek, kp, ↓ob r92, he2.o4, ↓ob y1, y2, ↓ob y3, ↓reduceIte]
            · obtain ⟨t, rfl, b5⟩ := b4 hz
              rw [if_neg hz] at hlt y1
              have ln := b5.len
              have ld := b5.ld hlt (by omega)
              have kl : nI k < nI (stN fa fb fc u) := by
                rw [Int32.lt_iff_toInt_lt, nI_toInt (by omega), nI_toInt (by omega)]
                omega
              unfold f_X5_common
              simp only [↓ob l0, hC.o3, ↓ob w1, ↓ob w2, ↓Option.elim_some, x0, ↓ob r9, he.o4, ↓ob a1, ↓ob r91, he1.o4, ↓ob b1, ↓ob ln, kl, ↓ob ld, ↓ob r92, he2.o4, ↓ob y1, y2, ↓ob y3, ↓reduceIte]
          have hw0 : wd d 0 = d + 1 := rfl
          have okt : ∀ y : Nat → Fin P, okx d 0 y := fun y => ⟨by omega, fun q => by omega, fun q1 q2 => by omega, fun q => by omega, fun q => by omega⟩
          obtain ⟨d0, e1, -⟩ := s_clear (P := P) draft
          rcases htt with ⟨t, ht⟩ | ht
          · rw [ht] at hst hcls
            obtain ⟨y, hp3, sz3, y1, y2, y3⟩ := e_pointAt hP hB he2 hw a22 t
            have h3 := h2.gg y3
            have hcl := CO.kp (res := f_X5_common hp sz o (nI q) (nI l) (nI k)) hp0 hB hC ((a3.tr b2).tr y3) (show 0 < 5 by omega) (r := some y) (y := some (fun j => 1 * X 0 j + t * X 1 j)) ⟨y, rfl, y2⟩ (fun v hv => hcls v ⟨_, _, _, y1, h3.o5, hv⟩)
            obtain ⟨d1, e2, e3⟩ := r_line hP hB (draft := d0) hd v1 v2 t
            obtain ⟨s', r', d', z1, z2⟩ := r_made hp0 hB hK hS hd (show 0 < 5 by omega) (show vo d1 (wd d 0) _ from e3) (by rw [hw0]; exact n1 t)
            refine ⟨_, ext_kp hp0 hI hle (fun _ => okt _), hcl, s', r', d', fr, o1, t1, fL fc, fL fb, fL fa, ?_, z2⟩
            have e2' : itX (m_common_L262 (nI d) (lN P) o1 t1 (fL t)) (0, d0) = some d1 := e2
            have z1' : m_made (nI d) (lN P) (nI c) sorts rows d1 0 = _ := z1
            rw [hst]
            unfold m_common_J255
            simp only [↓ob e1, ↓ob e2', ↓ob z1']
          · rw [ht] at hst hcls
            have y1 := e_pointAtP hP hB (n := 0) he2 a22
            have y2 := a22.at (i := 1) (by omega)
            have hcl := CO.kp (res := f_X5_common hp sz o (nI q) (nI l) (nI k)) hp0 hB hC (a3.tr b2) (show 0 < 5 by omega) (r := some (A 1)) (y := some (X 1)) ⟨A 1, rfl, y2⟩ (fun v hv => hcls v ⟨_, _, _, y1, h2.o5, hv⟩)
            obtain ⟨d1, e2, e3⟩ := r_lineP hP hB (draft := d0) (o1 := o1) hd v2
            obtain ⟨s', r', d', z1, z2⟩ := r_made hp0 hB hK hS hd (show 0 < 5 by omega) (show vo d1 (wd d 0) _ from e3) (by rw [hw0]; exact n2)
            refine ⟨_, ext_kp hp0 hI hle (fun _ => okt _), hcl, s', r', d', fr, o1, t1, fL fc, fL fb, fL fa, ?_, z2⟩
            have e2' : itX (m_common_L262 (nI d) (lN P) o1 t1 (lN P)) (0, d0) = some d1 := e2
            have z1' : m_made (nI d) (lN P) (nI c) sorts rows d1 0 = _ := z1
            rw [hst]
            unfold m_common_J255
            simp only [↓ob e1, ↓ob e2', ↓ob z1']
        · refine same (-1) hp2 sz2 (a3.tr b2) ?_ ⟨fr, o1, t1, fL fc, fL fb, fL fa, ?_⟩
          · by_cases hz : fa = 0 ∧ fb = 0 ∧ fc = 0
            · have hs := b3 hz
              subst hs
              rw [if_pos hz] at hlt
              have r72 := h2.r7
              have p02 := h2.e.p0
              have kp : ¬ lN k ≤ lN P := by
                rw [Int64.le_iff_toInt_le, pk_lT (by omega), pk_lT (by omega)]
                omega
              unfold f_X5_common
              simp only [↓ob l0, hC.o3, ↓ob w1, ↓ob w2, ↓Option.elim_some, x0, ↓ob r9, he.o4, ↓ob a1, ↓ob r91, he1.o4, ↓ob b1, ↓Option.elim_none, ↓ob r72, ↓ob p02, ek, kp, ↓reduceIte]
            · obtain ⟨t, rfl, b5⟩ := b4 hz
              rw [if_neg hz] at hlt
              have ln := b5.len
              have kl : ¬ nI k < nI (stN fa fb fc u) := by
                rw [Int32.lt_iff_toInt_lt, nI_toInt (by omega), nI_toInt (by omega)]
                omega
              unfold f_X5_common
              simp only [↓ob l0, hC.o3, ↓ob w1, ↓ob w2, ↓Option.elim_some, x0, ↓ob r9, he.o4, ↓ob a1, ↓ob r91, he1.o4, ↓ob b1, ↓ob ln, kl, ↓reduceIte]
          · have xlt : ¬ lN k < lN (if fa = 0 ∧ fb = 0 ∧ fc = 0 then P + 1 else stN fa fb fc u) := by
              rw [Int64.lt_iff_toInt_lt, pk_lT (by omega), pk_lT (by split <;> omega)]
              omega
            unfold m_common
            simp only [↓ob i1', ↓ob i2', n10, x0, ↓ob mf, ↓ob mm, ek, xlt, ↓reduceIte]
      · refine same (-2) hp sz gro.rf ?_ ⟨frame, one, two, fA, fB, fC, ?_⟩
        · unfold f_X5_common
          simp only [↓ob l0, hC.o3, ↓ob w1, ↓ob w2, ↓Option.elim_some, x0, ↓reduceIte]
        · unfold m_common
          simp only [↓ob i1', ↓ob i2', n10, x0, ↓reduceIte]
    · have w2 : f_X3_row hp (ad 0) x2 1 = some none := hC.rowQ (t := 1) (by omega) nq2
      have i2' : m_is (nI c) sorts x2 1 = some (nI 0) := i2
      refine same (-2) hp sz gro.rf ?_ ⟨frame, one, two, fA, fB, fC, ?_⟩
      · unfold f_X5_common
        simp only [↓ob l0, hC.o3, ↓ob w1, ↓ob w2, ↓Option.elim_some, ↓Option.elim_none, ↓reduceIte]
      · unfold m_common
        simp only [↓ob i1', ↓ob i2', n10, n00, ↓reduceIte]
  · have w1 : f_X3_row hp (ad 0) x1 4 = some none := hC.rowQ (t := 4) (by omega) nq
    have i1' : m_is (nI c) sorts x1 4 = some (nI 0) := i1
    obtain ⟨y, w2⟩ := any x2
    refine same (-2) hp sz gro.rf ?_ ⟨frame, one, two, fA, fB, fC, ?_⟩
    · unfold f_X5_common
      simp only [↓ob l0, hC.o3, ↓ob w1, ↓ob w2, ↓Option.elim_none, ↓reduceIte]
    · unfold m_common
      simp only [↓ob i1', n00, ↓reduceIte]
end COMMON
