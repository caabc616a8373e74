section MOPS
variable {P : Nat} {d sz o : Nat} {hp : cH} {ad im rw : Nat → Nat} {c : Nat} {S : Nat → Nat} {R : Nat → Nat → Fin P} {H : Nat → Fin P} {g : Nat} {Gs : Nat → Nat} {m : Nat} {pA pB : Nat → Nat} {id : Int32}
/-- an object's sort, of any number -/
theorem sortX (hS' : ∀ a, a < c → S a < 5) (hc : c ≤ 60) {sorts : Nat → Int32} (hS : sK sorts S c) (x : Int32) {t : Nat} (ht : t < 5) : (∃ a, a < c ∧ x = nI a ∧ S a = t ∧ m_is (nI c) sorts x (nI t) = some (nI 1)) ∨ ((∀ a, a < c → x = nI a → S a ≠ t) ∧ m_is (nI c) sorts x (nI t) = some (nI 0)) := by
  rcases ix_cl c hc x with ⟨a, ha, rfl⟩ | hx
  · by_cases e : S a = t
    · exact Or.inl ⟨a, ha, rfl, e, r_isT hS hc ha e ht⟩
    · refine Or.inr ⟨fun b hb hq => ?_, r_isF hS hc ha e ht⟩
      rw [nI_eq (by omega) (by omega)] at hq
      rw [← hq]
      exact e
  · refine Or.inr ⟨fun b hb hq => ?_, r_isX hx _⟩
    exfalso
    subst hq
    rcases hx with q | q
    · exact absurd q (nI_pos (by omega))
    · exact absurd q (nI_ge hb (by omega))
theorem cS.rowQ (h : cS P d hp sz o ad im rw c S R H g Gs m pA pB id) {x : Int32} {t : Nat} (ht : t < 5) (hx : ∀ a, a < c → x = nI a → S a ≠ t) : f_X3_row hp (ad 0) x (nI t) = some none := by
  rcases ix_cl c h.le x with ⟨a, ha, rfl⟩ | hx2
  · exact h.rowN ha (hx a ha rfl) ht
  · exact h.rowX hx2 _
theorem st_compose (hp0 : isP P) (ho : P % 2 = 1) [NeZero P] (hB : P < 2 ^ 31) (hI : shf d c S R) (hC : cS P d hp sz o ad im rw c S R H g Gs m pA pB id) {sorts : Nat → Int32} {rows : Nat → Int64} (hS : sK sorts S c) (hK : rK c rows R) (draft : Nat → Int64) (x1 x2 : Int32) : ∃ K, ext d c S R K ∧ CO P d hp sz o ad K H g Gs m pA pB id (f_X5_compose hp sz o x1 x2) ∧ ∃ s' r' d', m_compose (nI d) (lN P) (nI c) sorts rows draft x1 x2 = some (K.1, nI K.2.1, s', r', d') ∧ RO s' r' K := by
  have hP := hp0.1
  have hle := hC.le
  have hd := hC.hd
  have hw := hC.hw
  have he := hC.e
  have l0 := hC.r0
  have r8 := hC.r8
  have h5 : ∀ a, a < c → S a < 5 := fun a ha => hC.s5 ha
  have bad : (f_X5_compose hp sz o x1 x2 = some (-2, hp, sz)) → m_compose (nI d) (lN P) (nI c) sorts rows draft x1 x2 = some (-2, nI c, sorts, rows, draft) → ∃ K, ext d c S R K ∧ CO P d hp sz o ad K H g Gs m pA pB id (f_X5_compose hp sz o x1 x2) ∧ ∃ s' r' d', m_compose (nI d) (lN P) (nI c) sorts rows draft x1 x2 = some (K.1, nI K.2.1, s', r', d') ∧ RO s' r' K := fun q1 q2 => ⟨(-2, c, S, R), ext_id hI hle _, CO.same hC gro.rf q1, sorts, rows, draft, q2, hS, hK⟩
  have any : ∀ x : Int32, ∃ y, f_X3_row hp (ad 0) x 3 = some y := fun x => by
    rcases sortX h5 hle hS x (show 3 < 5 by omega) with ⟨a, ha, rfl, e, -⟩ | ⟨q, -⟩
    · exact ⟨_, hC.row (t := 3) ha e⟩
    · exact ⟨_, hC.rowQ (t := 3) (by omega) q⟩
  rcases sortX h5 hle hS x1 (show 3 < 5 by omega) with ⟨a, ha, rfl, e, i1⟩ | ⟨q, i1⟩
  · have w1 : f_X3_row hp (ad 0) (nI a) 3 = some (some (rw a)) := hC.row (t := 3) ha e
    have i1' : m_is (nI c) sorts (nI a) 3 = some (nI 1) := i1
    rcases sortX h5 hle hS x2 (show 3 < 5 by omega) with ⟨b, hb, rfl, e', i2⟩ | ⟨q, i2⟩
    · have w2 : f_X3_row hp (ad 0) (nI b) 3 = some (some (rw b)) := hC.row (t := 3) hb e'
      have i2' : m_is (nI c) sorts (nI b) 3 = some (nI 1) := i2
      have va := hC.v ha
      have vb := hC.v hb
      rw [e] at va
      rw [e'] at vb
      have ka := (hI.1 a ha).2.2.2.2.1 e
      have kb := (hI.1 b hb).2.2.2.2.1 e'
      obtain ⟨hp1, a1, a2, a3⟩ := e_product hP hB he hw va vb
      have h1 := hC.gg a3
      have hinv := inv_pr ka kb
      have hcl := CO.kp (res := f_X5_compose hp sz o (nI a) (nI b)) hp0 hB hC a3 (show 3 < 5 by omega) (r := some sz) (y := some (prF (d + 1) (R a) (R b))) ⟨sz, rfl, a2⟩ (fun v hv => by
        rcases v with ⟨v1, v2, v3⟩
        have hv' : f_X5_keep hp1 (sz + 1) o 3 (some sz) = some (v1, v2, v3) := hv
        unfold f_X5_compose
        simp only [↓ob l0, hC.o3, ↓ob w1, ↓ob w2, ↓Option.elim_some, ↓ob r8, he.o2, ↓ob a1, h1.o5, ↓ob hv', ↓reduceIte])
      obtain ⟨d1, b1, b2⟩ := s_product hP hB (draft := draft) hK ha hb hd
      obtain ⟨s', r', d', c1, c2⟩ := r_made hp0 hB hK hS hd (show 3 < 5 by omega) (show vo d1 (wd d 3) _ from b2) (inv_nz hp0 (by omega) hinv)
      refine ⟨_, ext_kp hp0 hI hle (fun _ => ⟨by omega, by omega, by omega, fun _ => hinv, by omega⟩), hcl, s', r', d', ?_, c2⟩
      have c1' : m_made (nI d) (lN P) (nI c) sorts rows d1 3 = _ := c1
      unfold m_compose
      simp only [↓ob i1', ↓ob i2', n10, ↓ob b1, ↓ob c1', ↓reduceIte]
    · have w2 : f_X3_row hp (ad 0) x2 3 = some none := hC.rowQ (t := 3) (by omega) q
      have i2' : m_is (nI c) sorts x2 3 = some (nI 0) := i2
      refine bad ?_ ?_
      · unfold f_X5_compose
        simp only [↓ob l0, hC.o3, ↓ob w1, ↓ob w2, ↓Option.elim_some, ↓Option.elim_none, ↓reduceIte]
      · unfold m_compose
        simp only [↓ob i1', ↓ob i2', n10, n00, ↓reduceIte]
  · have w1 : f_X3_row hp (ad 0) x1 3 = some none := hC.rowQ (t := 3) (by omega) q
    have i1' : m_is (nI c) sorts x1 3 = some (nI 0) := i1
    obtain ⟨y, w2⟩ := any x2
    refine bad ?_ ?_
    · unfold f_X5_compose
      simp only [↓ob l0, hC.o3, ↓ob w1, ↓ob w2, ↓Option.elim_none, ↓reduceIte]
    · unfold m_compose
      simp only [↓ob i1', n00, ↓reduceIte]
theorem st_inverse (hp0 : isP P) (ho : P % 2 = 1) [NeZero P] (hB : P < 2 ^ 31) (hI : shf d c S R) (hC : cS P d hp sz o ad im rw c S R H g Gs m pA pB id) {sorts : Nat → Int32} {rows : Nat → Int64} (hS : sK sorts S c) (hK : rK c rows R) (draft frame turned : Nat → Int64) (x1 : Int32) : ∃ K, ext d c S R K ∧ CO P d hp sz o ad K H g Gs m pA pB id (f_X5_inverse hp sz o x1) ∧ ∃ s' r' d' f' t', m_inverse (nI d) (lN P) (nI c) sorts rows draft frame turned x1 = some (K.1, nI K.2.1, s', r', d', f', t') ∧ RO s' r' K := by
  have hP := hp0.1
  have hle := hC.le
  have hd := hC.hd
  have hw := hC.hw
  have he := hC.e
  have l0 := hC.r0
  have r8 := hC.r8
  have h5 : ∀ a, a < c → S a < 5 := fun a ha => hC.s5 ha
  rcases sortX h5 hle hS x1 (show 3 < 5 by omega) with ⟨a, ha, rfl, e, i1⟩ | ⟨q, i1⟩
  · have w1 : f_X3_row hp (ad 0) (nI a) 3 = some (some (rw a)) := hC.row (t := 3) ha e
    have i1' : m_is (nI c) sorts (nI a) 3 = some (nI 1) := i1
    have va := hC.v ha
    rw [e] at va
    have ka := (hI.1 a ha).2.2.2.2.1 e
    have hf := (full_q hp0).mpr ka
    obtain ⟨r, hp1, sz1, a1, a3, a4, -⟩ := e_inverted hP hB he hw va
    obtain ⟨q, rfl, a2⟩ := a4 hf
    have h1 := hC.gg a3
    have hinv := inv_iv hp0 ka
    have hcl := CO.kp (res := f_X5_inverse hp sz o (nI a)) hp0 hB hC a3 (show 3 < 5 by omega) (r := some q) (y := some (ivF (d + 1) (R a))) ⟨q, rfl, a2⟩ (fun v hv => by
      rcases v with ⟨v1, v2, v3⟩
      have hv' : f_X5_keep hp1 sz1 o 3 (some q) = some (v1, v2, v3) := hv
      unfold f_X5_inverse
      simp only [↓ob l0, hC.o3, ↓ob w1, ↓Option.elim_some, ↓ob r8, he.o2, ↓ob a1, h1.o5, ↓ob hv', ↓reduceIte])
    obtain ⟨b, fr', tu', b1, b2, -⟩ := s_isTurned hP hB (fr := frame) (tu := turned) hK ha hd
    obtain ⟨rfl, b3⟩ := b2 hf
    obtain ⟨d0, z1, -⟩ := s_clear (P := P) draft
    have hws : (d + 1) * (d + 1) ≤ 16 := by rcases hd with rfl | rfl <;> decide
    have key := loopP (f := m_inverse_L24 (nI d) tu') (d := d0) ((d + 1) * (d + 1)) (ivF (d + 1) (R a)) ?_ ?_
    · obtain ⟨d1, k1, k2, -⟩ := key
      obtain ⟨s', r', d', c1, c2⟩ := r_made hp0 hB hK hS hd (show 3 < 5 by omega) (show vo d1 (wd d 3) _ from k2) (inv_nz hp0 (by omega) hinv)
      refine ⟨_, ext_kp hp0 hI hle (fun _ => ⟨by omega, by omega, by omega, fun _ => hinv, by omega⟩), hcl, s', r', d', fr', tu', ?_, c2⟩
      have c1' : m_made (nI d) (lN P) (nI c) sorts rows d1 3 = _ := c1
      have k1' : itX (m_inverse_L24 (nI d) tu') (0, d0) = some d1 := k1
      unfold m_inverse
      simp only [↓ob i1', n10, ↓ob b1, ↓ob z1, ↓ob k1', ↓ob c1', ↓reduceIte]
    · intro k d1 hk _
      unfold m_inverse_L24
      simp (disch := omega) only [↓Option.bind_some, ↓Option.elim_some, ↓Option.elim_none, Option.bind_some, Option.elim_some, Option.elim_none, Option.some.injEq, Sum.inl.injEq, Sum.inr.injEq, ↓reduceIte, m_side, lit_nI, lz_I, nI_add, pk_mul, pk_sub, nI_ge, nI_le, nI_lt, nI_nlt, gi_t, nI_clamp, nI_eq, pk_rem, Nat.zero_add, Nat.reduceAdd, Nat.reduceMul, Nat.reduceSub, Nat.reduceMod, Nat.reduceEqDiff, reduceCtorEq, Nat.one_ne_zero, Nat.zero_ne_one, b3 k hk]
    · intro d1
      unfold m_inverse_L24
      simp (disch := omega) only [↓Option.bind_some, ↓Option.elim_some, ↓Option.elim_none, Option.bind_some, Option.elim_some, Option.elim_none, Option.some.injEq, Sum.inl.injEq, Sum.inr.injEq, ↓reduceIte, m_side, lit_nI, lz_I, nI_add, pk_mul, pk_sub, nI_ge, nI_le, nI_lt, nI_nlt, gi_t, nI_clamp, nI_eq, pk_rem, Nat.zero_add, Nat.reduceAdd, Nat.reduceMul, Nat.reduceSub, Nat.reduceMod, Nat.reduceEqDiff, reduceCtorEq, Nat.one_ne_zero, Nat.zero_ne_one]
  · have w1 : f_X3_row hp (ad 0) x1 3 = some none := hC.rowQ (t := 3) (by omega) q
    have i1' : m_is (nI c) sorts x1 3 = some (nI 0) := i1
    refine ⟨(-2, c, S, R), ext_id hI hle _, CO.same hC gro.rf ?_, sorts, rows, draft, frame, turned, ?_, hS, hK⟩
    · unfold f_X5_inverse
      simp only [↓ob l0, hC.o3, ↓ob w1, ↓Option.elim_none, ↓reduceIte]
    · unfold m_inverse
      simp only [↓ob i1', n00, ↓reduceIte]
theorem st_rank (hp0 : isP P) (ho : P % 2 = 1) [NeZero P] (hB : P < 2 ^ 31) (hI : shf d c S R) (hC : cS P d hp sz o ad im rw c S R H g Gs m pA pB id) {sorts : Nat → Int32} {rows : Nat → Int64} (hS : sK sorts S c) (hK : rK c rows R) (frame : Nat → Int64) (x1 : Int32) : ∃ v hp' sz' f', f_X5_rank hp sz o x1 = some (v, hp', sz') ∧ gro hp sz hp' sz' ∧ m_rank (nI d) (lN P) (nI c) sorts rows frame x1 = some (v, f') := by
  have hP := hp0.1
  have hle := hC.le
  have hd := hC.hd
  have hw := hC.hw
  have he := hC.e
  have l0 := hC.r0
  have r8 := hC.r8
  have h5 : ∀ a, a < c → S a < 5 := fun a ha => hC.s5 ha
  rcases sortX h5 hle hS x1 (show 4 < 5 by omega) with ⟨a, ha, rfl, e, i1⟩ | ⟨q, i1⟩
  · have w1 : f_X3_row hp (ad 0) (nI a) 4 = some (some (rw a)) := hC.row (t := 4) ha e
    have i1' : m_is (nI c) sorts (nI a) 4 = some (nI 1) := i1
    have va := hC.v ha
    rw [e] at va
    obtain ⟨hp1, sz1, a1, a3⟩ := e_rankOfSquare hP hB he hw va
    obtain ⟨fr', b1⟩ := s_squareRank hP hB (fr := frame) hK ha hd
    refine ⟨nI (gj (d + 1) (sqM (d + 1) (R a)) (d + 1)).1, hp1, sz1, fr', ?_, a3, ?_⟩
    · unfold f_X5_rank
      simp only [↓ob l0, hC.o3, ↓ob w1, ↓Option.elim_some, ↓ob r8, he.o2, ↓ob a1, ↓reduceIte]
    · unfold m_rank
      simp only [↓ob i1', n10, ↓ob b1, ↓reduceIte]
  · have w1 : f_X3_row hp (ad 0) x1 4 = some none := hC.rowQ (t := 4) (by omega) q
    have i1' : m_is (nI c) sorts x1 4 = some (nI 0) := i1
    refine ⟨-2, hp, sz, frame, ?_, gro.rf, ?_⟩
    · unfold f_X5_rank
      simp only [↓ob l0, hC.o3, ↓ob w1, ↓Option.elim_none, ↓reduceIte]
    · unfold m_rank
      simp only [↓ob i1', n00, ↓reduceIte]
end MOPS
