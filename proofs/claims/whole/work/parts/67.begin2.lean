section BEGIN2
variable {P : Nat} {d sz o : Nat} {hp : cH} {ad im rw : Nat → Nat} {c : Nat} {S : Nat → Nat} {R : Nat → Nat → Fin P} {H : Nat → Fin P} {g : Nat} {Gs : Nat → Nat} {m : Nat} {pA pB : Nat → Nat} {id : Int32}
theorem cS.cz (h : cS P d hp sz o ad im rw c S R H g Gs m pA pB id) : c0 hp sz o ad := by
  obtain ⟨⟨k1, k1'⟩, ⟨k2, k2'⟩, ⟨⟨G0, k3, k3'⟩, k3''⟩, k4, k5, ⟨⟨⟨f, k6, k6'⟩, k6''⟩, ⟨⟨f2, k7, k7'⟩, k7''⟩, ⟨⟨f3, k8, k8'⟩, k8''⟩, k9⟩, k10, k11, k12, k13, k14⟩ := h
  exact ⟨⟨_, _, _, _, _, _, _, _, k1⟩, k1', ⟨_, k2⟩, k2', ⟨_, k3⟩, k3'', k5.cell, k5.2, ⟨_, k6⟩, k6'', ⟨_, k7⟩, k7'', ⟨_, k8⟩, k8'', k9⟩
theorem st_begin (hC : cS P d hp sz o ad im rw c S R H g Gs m pA pB id) (hand : Nat → Int64) (n : Int32) (p : Int64) (count gathered paired ideal : Int32) (x1 x2 : Int32) : (f_X5_begin hp sz o x1 x2 = some (-2, hp, sz) ∧ m_begin n p count hand gathered paired ideal x1 x2 = some (-2, n, p, count, hand, gathered, paired, ideal)) ∨ ∃ (P' d' : Nat) (_ : NeZero P') (hp' : cH) (hand' : Nat → Int64), isP P' ∧ P' % 2 = 1 ∧ P' < 2 ^ 31 ∧ (d' = 2 ∨ d' = 3) ∧ f_X5_begin hp sz o x1 x2 = some (1, hp', sz + 1 + 1 + 1) ∧ (∀ im rw S R Gs pA pB, cS P' d' hp' (sz + 1 + 1 + 1) o (adn ad sz) im rw 0 S R (fun _ => 0) 0 Gs 0 pA pB (-1)) ∧ cF ad o hp sz hp' (sz + 1 + 1 + 1) ∧ m_begin n p count hand gathered paired ideal x1 x2 = some (1, nI d', lN P', nI 0, hand', nI 0, nI 0, -1) ∧ vo hand' 16 (fun _ => (0 : Fin P')) := by
  by_cases q1 : x1 < 2
  · refine Or.inl ⟨?_, ?_⟩
    · unfold f_X5_begin
      rw [if_pos q1]
    · unfold m_begin
      rw [if_pos q1]
  · by_cases q2 : (3 : Int32) < x1
    · refine Or.inl ⟨?_, ?_⟩
      · unfold f_X5_begin
        rw [if_neg q1, if_pos q2]
      · unfold m_begin
        rw [if_neg q1, if_pos q2]
    · rcases prime_both x2 with ⟨P', ⟨e1, e2, e3, e4⟩, e5, e6⟩ | ⟨e5, e6⟩
      · right
        have hd : ∃ d', (d' = 2 ∨ d' = 3) ∧ x1 = nI d' := by
          rw [Int32.lt_iff_toInt_lt] at q1 q2
          have t2 : (2 : Int32).toInt = 2 := rfl
          have t3 : (3 : Int32).toInt = 3 := rfl
          rw [t2] at q1
          rw [t3] at q2
          rcases (show x1.toInt = 2 ∨ x1.toInt = 3 by omega) with z | z
          · exact ⟨2, Or.inl rfl, Int32.toInt_inj.mp z⟩
          · exact ⟨3, Or.inr rfl, Int32.toInt_inj.mp z⟩
        obtain ⟨d', hd', rfl⟩ := hd
        subst e1
        haveI : NeZero P' := ⟨by have := e3.1; omega⟩
        obtain ⟨hp', a1, a2, a3⟩ := c_anew (P := P') e3.1 e2 hd' hC.cz
        have key := loopP (P := P') (f := m_begin_L53) (d := hand) 16 (fun _ => 0) ?_ ?_
        · obtain ⟨hand', k1, k2, -⟩ := key
          have k1' : itX m_begin_L53 (0, hand) = some hand' := k1
          have z1 : ((1 : Int32) = 0) = False := by simp
          refine ⟨P', d', inferInstance, hp', hand', e3, e4, e2, hd', ?_, a2, a3, ?_, k2⟩
          · unfold f_X5_begin
            simp only [q1, q2, ↓ob e6, z1, hC.o5, ↓ob a1, ↓reduceIte]
          · have tl : (nI P').toInt64 = lN P' := by
              apply Int64.toInt_inj.mp
              rw [pk_lT (by omega), Int32.toInt_toInt64, nI_toInt e2]
            unfold m_begin
            simp only [q1, q2, ↓ob e5, z1, ↓ob k1', tl, ↓reduceIte]
            rfl
        · intro k d1 hk _
          unfold m_begin_L53
          simp (disch := omega) only [↓Option.bind_some, ↓Option.elim_some, ↓Option.elim_none, Option.bind_some, Option.elim_some, Option.elim_none, Option.some.injEq, Sum.inl.injEq, Sum.inr.injEq, ↓reduceIte, m_side, lit_nI, lz_I, nI_add, pk_mul, pk_sub, nI_ge, nI_le, nI_lt, nI_nlt, gi_t, nI_clamp, nI_eq, pk_rem, Nat.zero_add, Nat.reduceAdd, Nat.reduceMul, Nat.reduceSub, Nat.reduceMod, Nat.reduceEqDiff, reduceCtorEq, Nat.one_ne_zero, Nat.zero_ne_one, lz64 (P := P')]
        · intro d1
          unfold m_begin_L53
          simp (disch := omega) only [↓Option.bind_some, ↓Option.elim_some, ↓Option.elim_none, Option.bind_some, Option.elim_some, Option.elim_none, Option.some.injEq, Sum.inl.injEq, Sum.inr.injEq, ↓reduceIte, m_side, lit_nI, lz_I, nI_add, pk_mul, pk_sub, nI_ge, nI_le, nI_lt, nI_nlt, gi_t, nI_clamp, nI_eq, pk_rem, Nat.zero_add, Nat.reduceAdd, Nat.reduceMul, Nat.reduceSub, Nat.reduceMod, Nat.reduceEqDiff, reduceCtorEq, Nat.one_ne_zero, Nat.zero_ne_one]
      · refine Or.inl ⟨?_, ?_⟩
        · unfold f_X5_begin
          rw [if_neg q1, if_neg q2, ob e6, if_pos rfl]
        · unfold m_begin
          rw [if_neg q1, if_neg q2, ob e5, if_pos rfl]
end BEGIN2
