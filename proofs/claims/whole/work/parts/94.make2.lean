section MAKE2
variable {P : Nat} {d sz o : Nat} {hp : cH} {ad im rw : Nat → Nat} {c : Nat} {S : Nat → Nat} {R : Nat → Nat → Fin P} {H : Nat → Fin P} {g : Nat} {Gs : Nat → Nat} {m : Nat} {pA pB : Nat → Nat} {id : Int32}
/-- what makes a row one of its sort -/
def okh [NeZero P] (d t : Nat) (y : Nat → Fin P) : Prop := (t = 1 → d = 3 → plu y) ∧ (t = 3 → inv (d + 1) (sqM (d + 1) y)) ∧ (t = 4 → sym (d + 1) y)
theorem wd_sq {d t : Nat} (h : t = 3 ∨ t = 4) : wd d t = (d + 1) * (d + 1) := by unfold wd; rw [if_pos h]
theorem okh_of [NeZero P] {d t : Nat} (ht : t < 5) (h2 : d = 2 → t ≠ 2) {y : Nat → Fin P} (h : okh d t y) : okx d t y := ⟨ht, h2, h.1, h.2.1, h.2.2⟩
/-- the reference, behind its first tests -/
theorem r_J146 (hp0 : isP P) [NeZero P] (hB : P < 2 ^ 31) {d t c : Nat} (hd : d = 2 ∨ d = 3) (ht : t < 5) {S : Nat → Nat} {R : Nat → Nat → Fin P} {sorts : Nat → Int32} {rows : Nat → Int64} (hS : sK sorts S c) (hK : rK c rows R) {draft : Nat → Int64} {H D : Nat → Fin P} (hD : vo draft 16 D) (hH : vo draft (wd d t) H) (hx : ldV H (wd d t) < wd d t) (frame : Nat → Int64) : (((t = 3 → inv (d + 1) (sqM (d + 1) H)) ∧ (t = 4 → sym (d + 1) H)) → ∃ s' r' d' f', m_make_J146 (nI d) (lN P) (nI c) sorts rows draft frame (nI t) = some ((kpF (wd d t) t (some H) c S R).1, nI (kpF (wd d t) t (some H) c S R).2.1, s', r', d', f') ∧ RO s' r' (kpF (wd d t) t (some H) c S R)) ∧ ((¬ ((t = 3 → inv (d + 1) (sqM (d + 1) H)) ∧ (t = 4 → sym (d + 1) H))) → ∃ d' f', m_make_J146 (nI d) (lN P) (nI c) sorts rows draft frame (nI t) = some (-1, nI c, sorts, rows, d', f')) := by
  have hP := hp0.1
  have hws : (d + 1) * (d + 1) ≤ 16 := by rcases hd with rfl | rfl <;> decide
  have hD' := vo_le hD hws
  have eDH : (t = 3 ∨ t = 4) → ∀ m, m < (d + 1) * (d + 1) → D m = H m := fun q m hm => by
    rw [wd_sq q] at hH
    exact (fL_eq hB).mp ((hD' m hm).symm.trans (hH m hm))
  obtain ⟨s', r', d', c1, c2⟩ := r_made hp0 hB hK hS hd ht hH hx
  obtain ⟨o1, o2⟩ := mk_out hP hB hd ht hD' (nI c) sorts rows (d + 1) 0 frame (by omega) (fun i j hi _ => by omega)
  have esy : t = 4 → (sym (d + 1) H ↔ ∀ l k, 0 ≤ l → l < d + 1 → k < d + 1 → D (l * (d + 1) + k) = D (k * (d + 1) + l)) := by
    intro t4
    refine ⟨fun q l k _ hl hk => ?_, fun q l k hl hk => ?_⟩
    · rw [eDH (Or.inr t4) _ (row_lt hl hk), eDH (Or.inr t4) _ (row_lt hk hl)]
      exact q l k hl hk
    · have := q l k (by omega) hl hk
      rw [eDH (Or.inr t4) _ (row_lt hl hk), eDH (Or.inr t4) _ (row_lt hk hl)] at this
      exact this
  have sd := sd_ d
  by_cases q4 : t = 4 → ∀ l k, 0 ≤ l → l < d + 1 → k < d + 1 → D (l * (d + 1) + k) = D (k * (d + 1) + l)
  · obtain ⟨fr1, a1, a2⟩ := o1 q4
    have a1' : itX (m_make_L148 (nI d) (nI c) sorts rows draft (nI t)) (0, frame) = some (.inl fr1) := a1
    have h4 : t = 4 → sym (d + 1) H := fun t4 => (esy t4).mpr (q4 t4)
    by_cases t3 : t = 3
    · have e3 : (nI t = (3 : Int32)) = True := by rw [t3]; apply eq_true; decide
      have hf : fok fr1 (sqM (d + 1) H) (d + 1) (d + 1) := fok_congr a2 (fun i j hi hj => eDH (Or.inl t3) _ (row_lt hi hj))
      obtain ⟨fr2, b1, -⟩ := s_reduce hP hB (M := sqM (d + 1) H) (h := d + 1) (w := d + 1) (u := d + 1) (fr := fr1) hf (by omega) (by omega) (by omega)
      have hfull := full_s hp0 (w := d + 1) (A := H)
      have hle := (gj_le (d + 1) (sqM (d + 1) H) (d + 1)).1
      generalize (gj (d + 1) (sqM (d + 1) H) (d + 1)).1 = r1 at b1 hfull hle
      by_cases hr : r1 = d + 1
      · have l1 : nI (d + 1) ≤ nI r1 := nI_le (by omega) (by omega)
        refine ⟨fun _ => ⟨s', r', d', fr2, ?_, c2⟩, fun q => absurd ⟨fun _ => hfull.mp hr, h4⟩ q⟩
        unfold m_make_J146
        simp only [↓ob a1', e3, ↓ob sd, ↓ob b1, l1, ↓ob c1, ↓reduceIte]
      · have l1 : ¬ nI (d + 1) ≤ nI r1 := nI_ge (by omega) (by omega)
        refine ⟨fun q => absurd (hfull.mpr (q.1 t3)) hr, fun _ => ⟨draft, fr2, ?_⟩⟩
        unfold m_make_J146
        simp only [↓ob a1', e3, ↓ob sd, ↓ob b1, l1, ↓reduceIte]
    · have e3 : (nI t = (3 : Int32)) = False := n_ne (b := 3) t3 (by omega) (by omega)
      refine ⟨fun _ => ⟨s', r', d', fr1, ?_, c2⟩, fun q => absurd ⟨fun w => absurd w t3, h4⟩ q⟩
      unfold m_make_J146
      simp only [↓ob a1', e3, ↓ob c1, ↓reduceIte]
  · obtain ⟨fr1, a1⟩ := o2 q4
    have a1' : itX (m_make_L148 (nI d) (nI c) sorts rows draft (nI t)) (0, frame) = some (.inr (-1, nI c, sorts, rows, draft, fr1)) := a1
    refine ⟨fun q => absurd (fun t4 => (esy t4).mp (q.2 t4)) q4, fun _ => ⟨draft, fr1, ?_⟩⟩
    unfold m_make_J146
    simp only [↓ob a1']
theorem r_J25 (hp0 : isP P) [NeZero P] (hB : P < 2 ^ 31) {d t c : Nat} (hd : d = 2 ∨ d = 3) (ht : t < 5) {S : Nat → Nat} {R : Nat → Nat → Fin P} {sorts : Nat → Int32} {rows : Nat → Int64} (hS : sK sorts S c) (hK : rK c rows R) {hand : Nat → Int64} {H : Nat → Fin P} (hH : vo hand 16 H) (draft frame : Nat → Int64) : (ldV H (wd d t) < wd d t → okh d t H → ∃ s' r' d' f', m_make_J25 (nI d) (lN P) (nI c) sorts rows hand draft frame (nI t) = some ((kpF (wd d t) t (some H) c S R).1, nI (kpF (wd d t) t (some H) c S R).2.1, s', r', d', f') ∧ RO s' r' (kpF (wd d t) t (some H) c S R)) ∧ ((¬ (ldV H (wd d t) < wd d t ∧ okh d t H)) → ∃ d' f', m_make_J25 (nI d) (lN P) (nI c) sorts rows hand draft frame (nI t) = some (-1, nI c, sorts, rows, d', f')) := by
  have hP := hp0.1
  have hwl := (wd_le (t := t) hd).1
  have sw := s_width (t := t) hd ht
  obtain ⟨d0, z1, z2⟩ := s_clear (P := P) draft
  have key := loopP (P := P) (f := m_make_L31 (nI d) hand (nI t)) (d := d0) (wd d t) H ?_ ?_
  · obtain ⟨d1, k1, k2, k3⟩ := key
    have k1' : itX (m_make_L31 (nI d) hand (nI t)) (0, d0) = some d1 := k1
    have hD : vo d1 16 (fun k => if k < wd d t then H k else 0) := by
      intro k hk
      (try dsimp only)
      by_cases e : k < wd d t
      · rw [if_pos e]
        exact k2 k e
      · rw [if_neg e, k3 k (by omega)]
        exact z2 k hk
    have hn := s_isNothing hP hB hd ht k2
    have hle := ldV_le H (wd d t)
    by_cases hx : ldV H (wd d t) < wd d t
    · rw [if_neg (by omega)] at hn
      obtain ⟨j1, j2⟩ := r_J146 hp0 hB hd ht hS hK hD k2 hx frame
      have e00 : ((0 : Int32) = 0) = True := by apply eq_true; rfl
      by_cases q1 : t = 1 ∧ d = 3
      · obtain ⟨rfl, rfl⟩ := q1
        have e11 : (nI 1 = (1 : Int32)) = True := by apply eq_true; decide
        have e33 : (nI 3 = (3 : Int32)) = True := by apply eq_true; decide
        have w6 : wd 3 1 = 6 := rfl
        rw [w6] at k2
        have v0 : d1 ((0 : Int32)).toNatClampNeg = fL (H 0) := k2 0 (by omega)
        have v1 : d1 ((1 : Int32)).toNatClampNeg = fL (H 1) := k2 1 (by omega)
        have v2 : d1 ((2 : Int32)).toNatClampNeg = fL (H 2) := k2 2 (by omega)
        have v3 : d1 ((3 : Int32)).toNatClampNeg = fL (H 3) := k2 3 (by omega)
        have v4 : d1 ((4 : Int32)).toNatClampNeg = fL (H 4) := k2 4 (by omega)
        have v5 : d1 ((5 : Int32)).toNatClampNeg = fL (H 5) := k2 5 (by omega)
        have t1 := s_times hP hB (H 0) (H 5)
        have t2 := s_times hP hB (H 2) (H 3)
        have t3 := s_times hP hB (H 1) (H 4)
        have t4 := n_plus hP hB (H 0 * H 5) (H 2 * H 3)
        have t5 := s_less hP hB (H 0 * H 5 + H 2 * H 3) (H 1 * H 4)
        have pz := lP_ne hP hB
        have epl : (fL (H 0 * H 5 + H 2 * H 3 - H 1 * H 4) = (0 : Int64)) ↔ plu H := by
          rw [fL_0 hB]
          unfold plu
          constructor
          · intro q
            grind
          · intro q
            grind
        by_cases qp : plu H
        · have e0 := eq_true (epl.mpr qp)
          have hJ : m_make_J25 (nI 3) (lN P) (nI c) sorts rows hand draft frame (nI 1) = m_make_J146 (nI 3) (lN P) (nI c) sorts rows d1 frame (nI 1) := by
            unfold m_make_J25
            simp only [↓ob z1, ↓ob k1', ↓ob hn, e00, e11, e33, v0, v1, v2, v3, v4, v5, ↓ob t1, ↓ob t2, ↓ob t3, pz, t4, ↓ob t5, e0, ↓reduceIte]
          rw [hJ]
          exact ⟨fun _ q => j1 q.2, fun q => j2 (fun w => q ⟨hx, fun _ _ => qp, w⟩)⟩
        · have e0 := eq_false (fun w => qp (epl.mp w))
          refine ⟨fun _ q => absurd (q.1 rfl rfl) qp, fun _ => ⟨d1, frame, ?_⟩⟩
          unfold m_make_J25
          simp only [↓ob z1, ↓ob k1', ↓ob hn, e00, e11, e33, v0, v1, v2, v3, v4, v5, ↓ob t1, ↓ob t2, ↓ob t3, pz, t4, ↓ob t5, e0, ↓reduceIte]
      · have hJ : m_make_J25 (nI d) (lN P) (nI c) sorts rows hand draft frame (nI t) = m_make_J146 (nI d) (lN P) (nI c) sorts rows d1 frame (nI t) := by
          unfold m_make_J25
          by_cases t1 : t = 1
          · have e11 : (nI t = (1 : Int32)) = True := by rw [t1]; apply eq_true; decide
            have e33 : (nI d = (3 : Int32)) = False := n_ne (b := 3) (fun w => q1 ⟨t1, w⟩) (by omega) (by omega)
            simp only [↓ob z1, ↓ob k1', ↓ob hn, e00, e11, e33, ↓reduceIte]
          · have e11 : (nI t = (1 : Int32)) = False := n_ne (b := 1) t1 (by omega) (by omega)
            simp only [↓ob z1, ↓ob k1', ↓ob hn, e00, e11, ↓reduceIte]
        rw [hJ]
        exact ⟨fun _ q => j1 q.2, fun q => j2 (fun w => q ⟨hx, fun w1 w2 => absurd ⟨w1, w2⟩ q1, w⟩)⟩
    · rw [if_pos (by omega)] at hn
      have e10 : ((1 : Int32) = 0) = False := by apply eq_false; decide
      refine ⟨fun q => absurd q hx, fun _ => ⟨d1, frame, ?_⟩⟩
      unfold m_make_J25
      simp only [↓ob z1, ↓ob k1', ↓ob hn, e10, ↓reduceIte]
  · intro k d1 hk _
    have hk2 := hH k (by omega)
    unfold m_make_L31
    simp (disch := omega) only [↓Option.bind_some, ↓Option.elim_some, ↓Option.elim_none, Option.bind_some, Option.elim_some, Option.elim_none, Option.some.injEq, Sum.inl.injEq, Sum.inr.injEq, ↓reduceIte, m_side, lit_nI, lz_I, nI_add, pk_mul, pk_sub, nI_ge, nI_le, nI_lt, nI_nlt, gi_t, nI_clamp, nI_eq, pk_rem, Nat.zero_add, Nat.reduceAdd, Nat.reduceMul, Nat.reduceSub, Nat.reduceMod, Nat.reduceEqDiff, reduceCtorEq, Nat.one_ne_zero, Nat.zero_ne_one, sw, hk2]
  · intro d1
    unfold m_make_L31
    simp (disch := omega) only [↓Option.bind_some, ↓Option.elim_some, ↓Option.elim_none, Option.bind_some, Option.elim_some, Option.elim_none, Option.some.injEq, Sum.inl.injEq, Sum.inr.injEq, ↓reduceIte, m_side, lit_nI, lz_I, nI_add, pk_mul, pk_sub, nI_ge, nI_le, nI_lt, nI_nlt, gi_t, nI_clamp, nI_eq, pk_rem, Nat.zero_add, Nat.reduceAdd, Nat.reduceMul, Nat.reduceSub, Nat.reduceMod, Nat.reduceEqDiff, reduceCtorEq, Nat.one_ne_zero, Nat.zero_ne_one, sw]
/-- the class: the row's length, its copy, its sort -/
theorem c_len (hC : cS P d hp sz o ad im rw c S R H g Gs m pA pB id) {t : Nat} (ht : t < 5) (h2 : d = 2 → t ≠ 2) : f_X5_lengthOf hp o (nI t) = some (nI (wd d t)) := by
  have i5 := hC.i5
  have hd := hC.hd
  unfold f_X5_lengthOf
  rcases hd with rfl | rfl
  · rcases (show t = 0 ∨ t = 1 ∨ t = 3 ∨ t = 4 by omega) with rfl | rfl | rfl | rfl <;> simp only [↓ob i5] <;> rfl
  · rcases (show t = 0 ∨ t = 1 ∨ t = 2 ∨ t = 3 ∨ t = 4 by omega) with rfl | rfl | rfl | rfl | rfl <;> simp only [↓ob i5] <;> rfl
theorem c_copy [NeZero P] {hp : cH} {sz a n : Nat} {x : Nat → Fin P} (h : vA hp sz a 16 x) (hn : n ≤ 16) : ∃ hp', f_J7_copyOf_c38d5 hp sz a (nI n) = some (sz, hp', sz + 1) ∧ vA hp' (sz + 1) sz n x ∧ gro hp sz hp' (sz + 1) := by
  have l1 := h.len
  by_cases e : n = 16
  · subst e
    obtain ⟨hp1, a1, a2, a3⟩ := c_fa (sz := sz) h.1 (by omega)
    obtain ⟨aw, aj, -⟩ := aJ_fa a2
    refine ⟨hp1, ?_, ⟨a2, by omega⟩, ⟨old_of a3 (Nat.le_refl _), by omega⟩⟩
    unfold f_J7_copyOf_c38d5
    simp only [↓ob l1, ↓reduceIte, ↓ob a1, ↓ob aj]
  · have e1 : (nI n = nI 16) = False := n_ne e (by omega) (by omega)
    have n1 := nJ_h (hp := hp) (sz := sz) (n := n) (by omega)
    have h1 := h.g (gro.nw (hp := hp) (sz := sz) (n := n) (d := fun _ => 0))
    have l2 := h1.len
    have hz : fa (hW hp sz n (fun _ => 0)) sz n (fun _ => (0 : Fin P)) := fa_hW (fun j _ => fL_z.symm)
    obtain ⟨hp2, b1, b2, b3⟩ := cp_fa (sp := 0) (dp := 0) (k := n) h1.1 hz (by omega) (by omega) (by omega) (by omega)
    have b1' : cpJ (hW hp sz n (fun _ => 0)) a 0 sz 0 (nI n) = some hp2 := b1
    have mn : f_J9_min_7cf53 (nI 16) (nI n) = some (nI n) := by
      unfold f_J9_min_7cf53
      rw [if_pos (nI_lt (by omega) (by omega))]
    refine ⟨hp2, ?_, ⟨fa_congr b2 (fun j hj => by rw [if_pos (by omega), Nat.sub_zero, Nat.zero_add]), by omega⟩, ⟨?_, by omega⟩⟩
    · unfold f_J7_copyOf_c38d5
      simp only [↓ob l1, e1, ↓reduceIte, ↓ob n1, ↓ob l2, ↓ob mn, ↓ob b1']
    · intro b hb
      have hb2 : ¬ sz ≤ b := hb
      rw [b3 b (by show ¬ b = sz; omega), hW_o (by omega)]
theorem c_isRow (hp0 : isP P) (ho : P % 2 = 1) [NeZero P] (hB : P < 2 ^ 31) (hC : cS P d hp sz o ad im rw c S R H g Gs m pA pB id) {t q : Nat} (ht : t < 5) (h2 : d = 2 → t ≠ 2) {x : Nat → Fin P} (hx : vA hp sz q (wd d t) x) : ∃ v hp' sz', f_X5_isRowOf hp sz o (nI t) q = some (v, hp', sz') ∧ gro hp sz hp' sz' ∧ (okh d t x → v = 1) ∧ (¬ okh d t x → v = 0) := by
  have hP := hp0.1
  have hd := hC.hd
  have hw := hC.hw
  have he := hC.e
  have i5 := hC.i5
  have r8 := hC.r8
  have r9 := hC.r9
  rcases (show t = 0 ∨ t = 1 ∨ t = 2 ∨ t = 3 ∨ t = 4 by omega) with rfl | rfl | rfl | rfl | rfl
  · refine ⟨1, hp, sz, ?_, gro.rf, fun _ => rfl, fun q => absurd ⟨by omega, by omega, by omega⟩ q⟩
    rfl
  · rcases hd with rfl | rfl
    · have e22 : (nI 2 = (2 : Int32)) = True := by apply eq_true; decide
      have e11 : (nI 1 = 1) = True := by apply eq_true; decide
      refine ⟨1, hp, sz, ?_, gro.rf, fun _ => rfl, fun q => absurd ⟨by omega, by omega, by omega⟩ q⟩
      unfold f_X5_isRowOf
      simp only [e11, ↓reduceIte, ↓ob i5, e22]
    · have e32 : (nI 3 = (2 : Int32)) = False := by apply eq_false; decide
      have e11 : (nI 1 = 1) = True := by apply eq_true; decide
      have hx6 : vA hp sz q (swi 4 4) x := hx
      obtain ⟨hp1, sz1, a1, a2⟩ := e_linesMeet hP hB he hw hx6 hx6
      have epl : crF (swi 4 4) x x = 0 ↔ plu x := by
        show crF 6 x x = 0 ↔ _
        rw [cr_is]
        unfold plu
        have h2 := two_ne hp0 ho
        constructor
        · intro q
          have : (2 : Fin P) * (x 0 * x 5 - x 1 * x 4 + x 2 * x 3) = 0 := by grind
          exact (nz_mul hp0 this).elim (fun w => absurd w h2) (fun w => w)
        · intro q
          grind
      by_cases qp : plu x
      · rw [if_pos (epl.mpr qp)] at a1
        refine ⟨1, hp1, sz1, ?_, a2, fun _ => rfl, fun q => absurd ⟨fun _ _ => qp, by omega, by omega⟩ q⟩
        unfold f_X5_isRowOf
        simp only [e11, ↓reduceIte, ↓ob i5, e32, ↓ob r9, he.o4, ↓ob a1, n10]
      · rw [if_neg (fun w => qp (epl.mp w))] at a1
        refine ⟨0, hp1, sz1, ?_, a2, fun q => absurd (q.1 rfl rfl) qp, fun _ => rfl⟩
        unfold f_X5_isRowOf
        simp only [e11, ↓reduceIte, ↓ob i5, e32, ↓ob r9, he.o4, ↓ob a1, n00]
  · refine ⟨1, hp, sz, ?_, gro.rf, fun _ => rfl, fun q => absurd ⟨by omega, by omega, by omega⟩ q⟩
    rfl
  · have hx' : vA hp sz q ((d + 1) * (d + 1)) x := hx
    obtain ⟨hp1, sz1, a1, a2⟩ := e_rankOfSquare hP hB he hw hx'
    have i51 := (hC.gg a2).i5
    have e31 : (nI 3 = 1) = False := by apply eq_false; decide
    have e32 : (nI 3 = 2) = False := by apply eq_false; decide
    have e33 : (nI 3 = 3) = True := by apply eq_true; decide
    have ad1 : nI d + (1 : Int32) = nI (d + 1) := by rw [show (1 : Int32) = nI 1 from rfl, nI_add]
    have hfull := full_s hp0 (w := d + 1) (A := x)
    have hle := (gj_le (d + 1) (sqM (d + 1) x) (d + 1)).1
    generalize (gj (d + 1) (sqM (d + 1) x) (d + 1)).1 = r1 at a1 hfull hle
    by_cases hr : r1 = d + 1
    · have l1 : (nI r1 = nI (d + 1)) = True := by rw [hr]; apply eq_true; rfl
      refine ⟨1, hp1, sz1, ?_, a2, fun _ => rfl, fun q => absurd ⟨by omega, fun _ => hfull.mp hr, by omega⟩ q⟩
      unfold f_X5_isRowOf
      simp only [e31, e32, e33, ↓reduceIte, ↓ob r8, he.o2, ↓ob a1, ↓ob i51, ad1, l1]
    · have l1 : (nI r1 = nI (d + 1)) = False := n_ne hr (by omega) (by omega)
      refine ⟨0, hp1, sz1, ?_, a2, fun q => absurd (hfull.mpr (q.2.1 rfl)) hr, fun _ => rfl⟩
      unfold f_X5_isRowOf
      simp only [e31, e32, e33, ↓reduceIte, ↓ob r8, he.o2, ↓ob a1, ↓ob i51, ad1, l1]
  · have hx' : vA hp sz q ((d + 1) * (d + 1)) x := hx
    have hws : (d + 1) * (d + 1) ≤ 16 := by rcases hd with rfl | rfl <;> decide
    obtain ⟨hp1, a1, a2, a3⟩ := e_turned hP hB he hw hx'
    obtain ⟨s1, s2⟩ := t_isSame hB (hx'.g a3).1 a2.1 (by omega)
    have e41 : (nI 4 = 1) = False := by apply eq_false; decide
    have e42 : (nI 4 = 2) = False := by apply eq_false; decide
    have e43 : (nI 4 = 3) = False := by apply eq_false; decide
    have e44 : (nI 4 = 4) = True := by apply eq_true; decide
    have b1 : ((1 : Int32) = 0 ∨ (1 : Int32) = 1) = True := by apply eq_true; decide
    have b0 : ((0 : Int32) = 0 ∨ (0 : Int32) = 1) = True := by apply eq_true; decide
    by_cases qs : sym (d + 1) x
    · have w1 := s1 (fun j hj => (sym_tr.mp qs j hj).symm)
      refine ⟨1, hp1, sz + 1, ?_, a3, fun _ => rfl, fun q => absurd ⟨by omega, by omega, fun _ => qs⟩ q⟩
      unfold f_X5_isRowOf
      simp only [e41, e42, e43, e44, ↓reduceIte, ↓ob r8, he.o2, ↓ob a1, ↓ob w1]
      simp
    · have w1 := s2 (fun w => qs (sym_tr.mpr (fun m hm => (w m hm).symm)))
      refine ⟨0, hp1, sz + 1, ?_, a3, fun q => absurd (q.2.2 rfl) qs, fun _ => rfl⟩
      unfold f_X5_isRowOf
      simp only [e41, e42, e43, e44, ↓reduceIte, ↓ob r8, he.o2, ↓ob a1, ↓ob w1]
      simp
theorem st_make (hp0 : isP P) (ho : P % 2 = 1) [NeZero P] (hB : P < 2 ^ 31) (hI : shf d c S R) (hC : cS P d hp sz o ad im rw c S R H g Gs m pA pB id) {sorts : Nat → Int32} {rows : Nat → Int64} (hS : sK sorts S c) (hK : rK c rows R) {hand : Nat → Int64} (hH : vo hand 16 H) (draft frame : Nat → Int64) (x1 : Int32) : ∃ K, ext d c S R K ∧ CO P d hp sz o ad K H g Gs m pA pB id (f_X5_make hp sz o x1) ∧ ∃ s' r' d' f', m_make (nI d) (lN P) (nI c) sorts rows hand draft frame x1 = some (K.1, nI K.2.1, s', r', d', f') ∧ RO s' r' K := by
  have hP := hp0.1
  have hle := hC.le
  have hd := hC.hd
  have bad : f_X5_lengthOf hp o x1 = some 0 → m_make (nI d) (lN P) (nI c) sorts rows hand draft frame x1 = some (-2, nI c, sorts, rows, draft, frame) → ∃ K, ext d c S R K ∧ CO P d hp sz o ad K H g Gs m pA pB id (f_X5_make hp sz o x1) ∧ ∃ s' r' d' f', m_make (nI d) (lN P) (nI c) sorts rows hand draft frame x1 = some (K.1, nI K.2.1, s', r', d', f') ∧ RO s' r' K := by
    intro q1 q2
    refine ⟨(-2, c, S, R), ext_id hI hle _, CO.same hC gro.rf ?_, sorts, rows, draft, frame, q2, hS, hK⟩
    unfold f_X5_make
    simp only [hC.o5, ↓ob q1, ↓reduceIte]
  have i5 := hC.i5
  rcases ix_cl 5 (by omega) x1 with ⟨t, ht, rfl⟩ | hx
  · by_cases h2 : d = 2 → t ≠ 2
    · have hm : m_make (nI d) (lN P) (nI c) sorts rows hand draft frame (nI t) = m_make_J25 (nI d) (lN P) (nI c) sorts rows hand draft frame (nI t) := by
        unfold m_make
        rw [if_neg (nI_pos (by omega)), if_neg (show ¬ (4 : Int32) < nI t from nI_nlt (a := 4) (b := t) (by omega) (by omega))]
        by_cases t2 : t = 2
        · have d3 : (nI d = (2 : Int32)) = False := n_ne (b := 2) (fun w => h2 w t2) (by omega) (by omega)
          have e2 : (nI t = (2 : Int32)) = True := by rw [t2]; apply eq_true; decide
          simp only [e2, d3, ↓reduceIte]
        · have e2 : (nI t = (2 : Int32)) = False := n_ne (b := 2) t2 (by omega) (by omega)
          simp only [e2, ↓reduceIte]
      have hwl := wd_le (t := t) hd
      have l1 := c_len hC ht h2
      have r1 := hC.r1
      have hv : vA hp sz (ad 1) 16 H := hC.2.2.2.2.1
      have nz : (nI (wd d t) = (0 : Int32)) = False := n_ne (b := 0) (by omega) (by omega) (by omega)
      obtain ⟨hp1, a1, a2, a3⟩ := c_copy hv hwl.1
      have h1 := hC.gg a3
      obtain ⟨v, hp2, sz2, b1, b2, b3, b4⟩ := c_isRow hp0 ho hB h1 ht h2 a2
      have h2' := h1.gg b2
      have a4 := a2.g b2
      obtain ⟨j1, j2⟩ := r_J25 hp0 hB hd ht hS hK hH draft frame
      rw [hm]
      by_cases qk : okh d t H
      · have hv1 := b3 qk
        subst hv1
        have e10 : ((1 : Int32) = 0) = False := by apply eq_false; decide
        have hcl := CO.kp (res := f_X5_make hp sz o (nI t)) hp0 hB hC (a3.tr b2) ht (r := some sz) (y := some H) ⟨sz, rfl, a4⟩ (fun v hv => by
          rcases v with ⟨v1, v2, v3⟩
          unfold f_X5_make
          simp only [hC.o5, ↓ob l1, nz, ↓ob r1, ↓ob a1, h1.o5, ↓ob b1, e10, h2'.o5, ↓ob hv, ↓reduceIte])
        refine ⟨_, ext_kp hp0 hI hle (fun _ => okh_of ht h2 qk), hcl, ?_⟩
        by_cases hx : ldV H (wd d t) < wd d t
        · exact j1 hx qk
        · obtain ⟨d', f', k1⟩ := j2 (fun w => hx w.1)
          have := ldV_le H (wd d t)
          rw [kp_0 (ldV_eq.mp (by omega))]
          exact ⟨sorts, rows, d', f', k1, hS, hK⟩
      · have hv1 := b4 qk
        subst hv1
        have e00 : ((0 : Int32) = 0) = True := by apply eq_true; decide
        obtain ⟨d', f', k1⟩ := j2 (fun w => qk w.2)
        refine ⟨(-1, c, S, R), ext_id hI hle _, CO.same hC (a3.tr b2) ?_, sorts, rows, d', f', k1, hS, hK⟩
        unfold f_X5_make
        simp only [hC.o5, ↓ob l1, nz, ↓ob r1, ↓ob a1, h1.o5, ↓ob b1, e00, ↓reduceIte]
    · have q : d = 2 ∧ t = 2 := by omega
      obtain ⟨rfl, rfl⟩ := q
      refine bad ?_ ?_
      · unfold f_X5_lengthOf
        simp only [↓ob i5]
        rfl
      · unfold m_make
        rfl
  · have z5 : nI 5 = (5 : Int32) := rfl
    rw [z5] at hx
    have ne : ∀ k : Int32, (0 ≤ k ∧ k < 5) → ¬ x1 = k := by
      intro k hk e
      subst e
      rw [Int32.le_iff_toInt_le] at hk
      rw [Int32.lt_iff_toInt_lt] at hk
      rcases hx with q | q
      · rw [Int32.lt_iff_toInt_lt] at q
        omega
      · rw [Int32.le_iff_toInt_le] at q
        omega
    refine bad ?_ ?_
    · unfold f_X5_lengthOf
      simp only [↓ob i5, if_neg (ne 0 (by decide)), if_neg (ne 1 (by decide)), if_neg (ne 2 (by decide)), if_neg (ne 3 (by decide)), if_neg (ne 4 (by decide))]
    · unfold m_make
      by_cases h0 : x1 < 0
      · rw [if_pos h0]
      · rw [if_neg h0, if_pos]
        rcases hx with q | q
        · exact absurd q h0
        · rw [Int32.le_iff_toInt_le] at q
          rw [Int32.lt_iff_toInt_lt]
          have z1 : (5 : Int32).toInt = 5 := rfl
          have z2 : (4 : Int32).toInt = 4 := rfl
          omega
end MAKE2
