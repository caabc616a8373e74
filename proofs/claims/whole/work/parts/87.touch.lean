section TOUCH
variable {P : Nat} {d sz o : Nat} {hp : cH} {ad im rw : Nat → Nat} {c : Nat} {S : Nat → Nat} {R : Nat → Nat → Fin P} {H : Nat → Fin P} {g : Nat} {Gs : Nat → Nat} {m : Nat} {pA pB : Nat → Nat} {id : Int32}
theorem two_z [NeZero P] (hp0 : isP P) (ho : P % 2 = 1) {u : Fin P} (h : u = - u) : u = 0 := by
  have h2 : (2 : Fin P) * u = 0 := by grind
  exact (nz_mul hp0 h2).elim (fun q => absurd q (two_ne hp0 ho)) (fun q => q)
theorem st_same [NeZero P] (hp0 : isP P) (ho : P % 2 = 1) {a b c u : Fin P} (ha : a ≠ 0) (hu : u * u = b * b - a * c) : fi a * (- u - b) = fi a * (u - b) ↔ b * b - a * c = 0 := by
  have hf := fi_mul hp0 ha
  refine ⟨fun q => ?_, fun q => ?_⟩
  · have e : u = - u := by
      have : a * (fi a * (- u - b)) = a * (fi a * (u - b)) := by rw [q]
      grind
    have := two_z hp0 ho e
    rw [← hu, this]
    grind
  · have : u = 0 := by
      rw [q] at hu
      exact (nz_mul hp0 hu).elim (fun z => z) (fun z => z)
    rw [this]
    grind
/-- how many points: the reference -/
theorem r_many (hp0 : isP P) (ho : P % 2 = 1) [NeZero P] (hB : P < 2 ^ 31) (a b c u : Fin P) (hu : (b * b - a * c = 0 ∨ (b * b - a * c) ^ ((P - 1) / 2) = 1) → u * u = b * b - a * c ∧ 2 * u.val ≤ P) : m_many (lN P) (fL c) (fL b) (fL a) = some (lN (if a = 0 ∧ b = 0 ∧ c = 0 then P + 1 else stN a b c u)) := by
  have hP := hp0.1
  have e2 : (2 : Int64) = lN 2 := rfl
  have e1 : (1 : Int64) = lN 1 := rfl
  by_cases hz : a = 0 ∧ b = 0 ∧ c = 0
  · rw [if_pos hz]
    obtain ⟨ha, hb, hc⟩ := hz
    have z1 := (fL_0 hB).mpr ha
    have z2 := (fL_0 hB).mpr hb
    have z3 := (fL_0 hB).mpr hc
    unfold m_many
    rw [if_pos z3, if_pos z2, if_pos z1]
    congr 1
    apply Int64.toInt_inj.mp
    rw [Int64.toInt_add, pk_lT (by omega), pk_lT (by omega)]
    have : (1 : Int64).toInt = 1 := rfl
    rw [this]
    rw [Int.bmod_eq_of_le (by omega) (by omega)]
    omega
  · rw [if_neg hz]
    have red : m_many (lN P) (fL c) (fL b) (fL a) = m_many_J34 (lN P) (fL c) (fL b) (fL a) := by
      unfold m_many
      by_cases z1 : fL c = 0
      · rw [if_pos z1]
        by_cases z2 : fL b = 0
        · rw [if_pos z2]
          by_cases z3 : fL a = 0
          · exact absurd ⟨(fL_0 hB).mp z3, (fL_0 hB).mp z2, (fL_0 hB).mp z1⟩ hz
          · rw [if_neg z3]
        · rw [if_neg z2]
      · rw [if_neg z1]
    rw [red]
    by_cases ha : a = 0
    · by_cases hb : b = 0
      · have hv : stN a b c u = 1 := by
          unfold stN
          rw [if_neg (fun q => q ha), if_neg (fun q => q hb)]
        rw [hv]
        unfold m_many_J34
        rw [if_pos ((fL_0 hB).mpr ha), if_pos ((fL_0 hB).mpr hb)]
        rfl
      · have hv : stN a b c u = 2 := by
          unfold stN
          rw [if_neg (fun q => q ha), if_pos hb]
        rw [hv]
        unfold m_many_J34
        rw [if_pos ((fL_0 hB).mpr ha), if_neg (fun q => hb ((fL_0 hB).mp q))]
        rfl
    · have t1 := s_times hP hB b b
      have t2 := s_times hP hB c a
      have cm : c * a = a * c := by grind
      rw [cm] at t2
      have t3 := s_less hP hB (b * b) (a * c)
      have t4 := s_isSq hp0 hB (b * b - a * c)
      by_cases h0 : b * b - a * c = 0
      · obtain ⟨u1, u2⟩ := hu (Or.inl h0)
        have hv : stN a b c u = 1 := by
          unfold stN
          rw [if_pos ha, if_neg (fun q => q.1 h0), if_pos ((st_same hp0 ho ha u1).mpr h0)]
        rw [hv]
        unfold m_many_J34
        rw [if_neg (fun q => ha ((fL_0 hB).mp q)), ob t1, ob t2, ob t3, if_pos ((fL_0 hB).mpr h0)]
        rfl
      · by_cases h1 : (b * b - a * c) ^ ((P - 1) / 2) = 1
        · obtain ⟨u1, u2⟩ := hu (Or.inr h1)
          have hv : stN a b c u = 2 := by
            unfold stN
            rw [if_pos ha, if_neg (fun q => q.2 h1), if_neg (fun q => h0 ((st_same hp0 ho ha u1).mp q))]
          rw [hv]
          rw [if_pos (Or.inr h1)] at t4
          unfold m_many_J34
          rw [if_neg (fun q => ha ((fL_0 hB).mp q)), ob t1, ob t2, ob t3, if_neg (fun q => h0 ((fL_0 hB).mp q)), ob t4, if_neg (by decide)]
          rfl
        · have hv : stN a b c u = 0 := by
            unfold stN
            rw [if_pos ha, if_pos ⟨h0, h1⟩]
          rw [hv]
          rw [if_neg (fun q => by rcases q with q | q; exact h0 q; exact h1 q)] at t4
          unfold m_many_J34
          rw [if_neg (fun q => ha ((fL_0 hB).mp q)), ob t1, ob t2, ob t3, if_neg (fun q => h0 ((fL_0 hB).mp q)), ob t4, if_pos (by decide)]
          rfl
/-- the forms of a line's base on a quadric: both -/
theorem forms_both (hp0 : isP P) (ho : P % 2 = 1) [NeZero P] (hB : P < 2 ^ 31) (hI : shf d c S R) (hC : cS P d hp sz o ad im rw c S R H g Gs m pA pB id) {sorts : Nat → Int32} {rows : Nat → Int64} (hS : sK sorts S c) (hK : rK c rows R) {q l : Nat} (hq : q < c) (hl : l < c) (sq : S q = 4) (sl : S l = 1) (frame one two : Nat → Int64) (fA fB fC : Int64) : ∃ (X : Nat → Nat → Fin P) (fa fb fc : Fin P) (r : Nat) (hp' : cH) (sz' : Nat) (A : Nat → Nat) (fr o1 t1 : Nat → Int64), f_X4_baseOfLine hp sz (ad 9) (rw l) = some (r, hp', sz') ∧ gP hp' sz' r 2 (d + 1) A X ∧ gro hp sz hp' sz' ∧ fa = sF (fun j => X 1 j * imV (d + 1) (R q) (X 1) j) (d + 1) ∧ fb = sF (fun j => X 0 j * imV (d + 1) (R q) (X 1) j) (d + 1) ∧ fc = sF (fun j => X 0 j * imV (d + 1) (R q) (X 0) j) (d + 1) ∧ (∀ t : Fin P, ldV (fun j => 1 * X 0 j + t * X 1 j) (d + 1) < d + 1) ∧ ldV (X 1) (d + 1) < d + 1 ∧ vo o1 (d + 1) (X 0) ∧ vo t1 (d + 1) (X 1) ∧ m_forms (nI d) (lN P) rows frame one two fA fB fC (nI q) (nI l) = some (fr, o1, t1, fL fc, fL fb, fL fa) := by
  have hP := hp0.1
  have hd := hC.hd
  have hw := hC.hw
  have he := hC.e
  have vl := hC.v hl
  have nl := (hI.1 l hl).1
  have kl := (hI.1 l hl).2
  rw [sl, wd1 hd] at vl nl
  have hnz := bl_nz hw nl.1
  obtain ⟨r, hp1, sz1, A, a1, a2, a3⟩ := e_baseOfLine hP hB he hw vl hnz
  obtain ⟨fr, o1, t1, b1, b2, b3⟩ := s_base hP hB (fr := frame) (one := one) (two := two) hK hl hd
  have hbb := ba_bw hp0 hd (L := R l) (fun q => kl.2.2.1 sl q) hnz
  have b2' : vo o1 (d + 1) (bwF (d + 1) (blF (d + 1) (R l)) 0) := vo_congr b2 (fun j hj => (hbb j hj).1)
  have b3' : vo t1 (d + 1) (bwF (d + 1) (blF (d + 1) (R l)) 1) := vo_congr b3 (fun j hj => (hbb j hj).2)
  have m1 := s_form hP hB (one := o1) (two := t1) hK hq hd (b1 := 1) (b2 := 1) (by omega) (by omega) (x := bwF (d + 1) (blF (d + 1) (R l)) 0) (y := bwF (d + 1) (blF (d + 1) (R l)) 0) (by rw [if_neg (by omega)]; exact b2') (by rw [if_neg (by omega)]; exact b2')
  have m2 := s_form hP hB (one := o1) (two := t1) hK hq hd (b1 := 1) (b2 := 0) (by omega) (by omega) (x := bwF (d + 1) (blF (d + 1) (R l)) 0) (y := bwF (d + 1) (blF (d + 1) (R l)) 1) (by rw [if_neg (by omega)]; exact b2') (by rw [if_pos rfl]; exact b3')
  have m3 := s_form hP hB (one := o1) (two := t1) hK hq hd (b1 := 0) (b2 := 0) (by omega) (by omega) (x := bwF (d + 1) (blF (d + 1) (R l)) 1) (y := bwF (d + 1) (blF (d + 1) (R l)) 1) (by rw [if_pos rfl]; exact b3') (by rw [if_pos rfl]; exact b3')
  rw [frm_eq] at m1 m2 m3
  have m1' : m_form (nI d) (lN P) rows o1 t1 (nI q) 1 1 = _ := m1
  have m2' : m_form (nI d) (lN P) rows o1 t1 (nI q) 1 0 = _ := m2
  have m3' : m_form (nI d) (lN P) rows o1 t1 (nI q) 0 0 = _ := m3
  obtain ⟨k1, k2, k3, k4, k5, k6⟩ := sk_z hw (M := blF (d + 1) (R l)) hnz rfl rfl
  have hfm := fi_mul hp0 k4
  have e1 : bwF (d + 1) (blF (d + 1) (R l)) 1 (wJ (d + 1) (ldV (blF (d + 1) (R l)) (swi (d + 1) (d + 1)))) = 1 := by
    unfold bwF
    rw [if_neg (by omega), k3]
    grind
  have e2 : bwF (d + 1) (blF (d + 1) (R l)) 0 (wI (d + 1) (ldV (blF (d + 1) (R l)) (swi (d + 1) (d + 1)))) = 1 := by
    unfold bwF
    rw [if_pos rfl, sk_ng, k3]
    grind
  have e3 : bwF (d + 1) (blF (d + 1) (R l)) 1 (wI (d + 1) (ldV (blF (d + 1) (R l)) (swi (d + 1) (d + 1)))) = 0 := by
    unfold bwF
    rw [if_neg (by omega), sk_dg]
    grind
  refine ⟨bwF (d + 1) (blF (d + 1) (R l)), _, _, _, r, hp1, sz1, A, fr, o1, t1, a1, a2, a3, rfl, rfl, rfl, fun t => ldV_lt (Nat.lt_trans k1 k2) ?_, ldV_lt k2 ?_, b2', b3', ?_⟩
  · (try dsimp only)
    rw [e2, e3]
    intro z
    exact one_ne hp0 (by grind)
  · rw [e1]
    exact one_ne hp0
  · unfold m_forms
    simp only [↓ob b1, ↓ob m1', ↓ob m2', ↓ob m3']
theorem root_ex (hp0 : isP P) (ho : P % 2 = 1) [NeZero P] (hB : P < 2 ^ 31) {hp : cH} {w so ro fo sz : Nat} (he : eV P w so ro fo hp sz) (D : Fin P) : ∃ u : Fin P, (D = 0 ∨ D ^ ((P - 1) / 2) = 1) → u * u = D ∧ 2 * u.val ≤ P ∧ m_rootOf (lN P) (fL D) = some (fL u) := by
  by_cases h : D = 0 ∨ D ^ ((P - 1) / 2) = 1
  · obtain ⟨u, u1, u2, u3, -⟩ := root_both hp0 ho hB he.p0 he.o0 D h
    exact ⟨u, fun _ => ⟨u1, u2, u3⟩⟩
  · exact ⟨0, fun q => absurd q h⟩
theorem i64n {n : Nat} (h : n < 2 ^ 31) : (nI n).toInt64 = lN n := by
  apply Int64.toInt_inj.mp
  rw [pk_lT (by omega), Int32.toInt_toInt64, nI_toInt h]
theorem stN_le [NeZero P] (a b c u : Fin P) : stN a b c u ≤ 2 := by
  unfold stN
  split
  · split
    · omega
    · split <;> omega
  · split <;> omega
theorem st_touches (hp0 : isP P) (ho : P % 2 = 1) [NeZero P] (hB : P < 2 ^ 31) (hI : shf d c S R) (hC : cS P d hp sz o ad im rw c S R H g Gs m pA pB id) {sorts : Nat → Int32} {rows : Nat → Int64} (hS : sK sorts S c) (hK : rK c rows R) (frame one two : Nat → Int64) (fA fB fC : Int64) (x1 x2 : Int32) : ∃ v hp' sz' f' o' t' a' b' c', f_X5_touches hp sz o x1 x2 = some (v, hp', sz') ∧ gro hp sz hp' sz' ∧ m_touches (nI d) (lN P) (nI c) sorts rows frame one two fA fB fC x1 x2 = some (v, f', o', t', a', b', c') := by
  have hP := hp0.1
  have hle := hC.le
  have hd := hC.hd
  have hw := hC.hw
  have he := hC.e
  have l0 := hC.r0
  have r9 := hC.r9
  have h5 : ∀ a, a < c → S a < 5 := fun a ha => hC.s5 ha
  have any : ∀ x : Int32, ∃ y, f_X3_row hp (ad 0) x 1 = some y := fun x => by
    rcases sortX h5 hle hS x (show 1 < 5 by omega) with ⟨a, ha, rfl, e, -⟩ | ⟨q, -⟩
    · exact ⟨_, hC.row (t := 1) ha e⟩
    · exact ⟨_, hC.rowQ (t := 1) (by omega) q⟩
  rcases sortX h5 hle hS x1 (show 4 < 5 by omega) with ⟨q, hq, rfl, sq, i1⟩ | ⟨nq, i1⟩
  · have w1 : f_X3_row hp (ad 0) (nI q) 4 = some (some (rw q)) := hC.row (t := 4) hq sq
    have i1' : m_is (nI c) sorts (nI q) 4 = some (nI 1) := i1
    rcases sortX h5 hle hS x2 (show 1 < 5 by omega) with ⟨l, hl, rfl, sl, i2⟩ | ⟨nq2, i2⟩
    · have w2 : f_X3_row hp (ad 0) (nI l) 1 = some (some (rw l)) := hC.row (t := 1) hl sl
      have i2' : m_is (nI c) sorts (nI l) 1 = some (nI 1) := i2
      obtain ⟨X, fa, fb, fc, r, hp1, sz1, A, fr, o1, t1, a1, a2, a3, ea, eb, ec, -, -, -, -, mf⟩ := forms_both hp0 ho hB hI hC hS hK hq hl sq sl frame one two fA fB fC
      have h1 := hC.gg a3
      have he1 := h1.e
      obtain ⟨u, hu⟩ := root_ex hp0 ho hB he1 (fb * fb - fa * fc)
      have hu2 : (fb * fb - fa * fc = 0 ∨ (fb * fb - fa * fc) ^ ((P - 1) / 2) = 1) → u * u = fb * fb - fa * fc ∧ 2 * u.val ≤ P := fun z => ⟨(hu z).1, (hu z).2.1⟩
      have vq := (hC.v hq).g a3
      rw [sq] at vq
      obtain ⟨s, hp2, sz2, b1, b2, b3, b4⟩ := e_steps hp0 ho hB he1 hw vq a2 ea eb ec hu2
      have mm := r_many hp0 ho hB fa fb fc u hu2
      have h2 := h1.gg b2
      refine ⟨lN (if fa = 0 ∧ fb = 0 ∧ fc = 0 then P + 1 else stN fa fb fc u), hp2, sz2, fr, o1, t1, fL fc, fL fb, fL fa, ?_, a3.tr b2, ?_⟩
      · by_cases hz : fa = 0 ∧ fb = 0 ∧ fc = 0
        · have hs := b3 hz
          subst hs
          rw [if_pos hz]
          have r72 := h2.r7
          have p02 := h2.e.p0
          have ep : lN P + (1 : Int64) = lN (P + 1) := by
            apply Int64.toInt_inj.mp
            rw [Int64.toInt_add, pk_lT (by omega), pk_lT (by omega)]
            have : (1 : Int64).toInt = 1 := rfl
            rw [this, Int.bmod_eq_of_le (by omega) (by omega)]
            omega
          unfold f_X5_touches
          simp only [↓ob l0, hC.o3, ↓ob w1, ↓ob w2, ↓Option.elim_some, ↓ob r9, he.o4, ↓ob a1, he1.o4, ↓ob b1, ↓Option.elim_none, ↓ob r72, ↓ob p02, ep, ↓reduceIte]
        · obtain ⟨t, rfl, b5⟩ := b4 hz
          rw [if_neg hz]
          have ln := b5.len
          have hn2 := stN_le fa fb fc u
          have ei := i64n (show stN fa fb fc u < 2 ^ 31 by omega)
          unfold f_X5_touches
          simp only [↓ob l0, hC.o3, ↓ob w1, ↓ob w2, ↓Option.elim_some, ↓ob r9, he.o4, ↓ob a1, he1.o4, ↓ob b1, ↓ob ln, ei, ↓reduceIte]
      · unfold m_touches
        simp only [↓ob i1', ↓ob i2', n10, ↓ob mf, ↓ob mm, ↓reduceIte]
    · have w2 : f_X3_row hp (ad 0) x2 1 = some none := hC.rowQ (t := 1) (by omega) nq2
      have i2' : m_is (nI c) sorts x2 1 = some (nI 0) := i2
      refine ⟨-2, hp, sz, frame, one, two, fA, fB, fC, ?_, gro.rf, ?_⟩
      · unfold f_X5_touches
        simp only [↓ob l0, hC.o3, ↓ob w1, ↓ob w2, ↓Option.elim_some, ↓Option.elim_none, ↓reduceIte]
      · unfold m_touches
        simp only [↓ob i1', ↓ob i2', n10, n00, ↓reduceIte]
  · have w1 : f_X3_row hp (ad 0) x1 4 = some none := hC.rowQ (t := 4) (by omega) nq
    have i1' : m_is (nI c) sorts x1 4 = some (nI 0) := i1
    obtain ⟨y, w2⟩ := any x2
    refine ⟨-2, hp, sz, frame, one, two, fA, fB, fC, ?_, gro.rf, ?_⟩
    · unfold f_X5_touches
      simp only [↓ob l0, hC.o3, ↓ob w1, ↓ob w2, ↓Option.elim_none, ↓reduceIte]
    · unfold m_touches
      simp only [↓ob i1', n00, ↓reduceIte]
end TOUCH
