section MAPO
variable {P : Nat} {d sz o : Nat} {hp : cH} {ad im rw : Nat → Nat} {c : Nat} {S : Nat → Nat} {R : Nat → Nat → Fin P} {H : Nat → Fin P} {g : Nat} {Gs : Nat → Nat} {m : Nat} {pA pB : Nat → Nat} {id : Int32}
theorem c_pts (hC : cS P d hp sz o ad im rw c S R H g Gs m pA pB id) {q N n : Nat} {f : Nat → Int32} {G : Nat → Nat} (hq : hp q = some (.inl (0, N, .inl f))) (hqs : q < sz) (hn : n ≤ N) (hN : N ≤ 9) (hG : ∀ k, k < n → f k = nI (G k) ∧ G k < c ∧ S (G k) = 0) : ∃ hp' A, f_X5_pointRows hp sz o q (nI n) = some (sz, hp', sz + 1) ∧ gP hp' (sz + 1) sz n (d + 1) A (fun k => R (G k)) ∧ gro hp sz hp' (sz + 1) := by
  obtain ⟨hp1, b1, b2⟩ := bP.nw (hp := hp) (sz := sz) (n := n) (w := d + 1) (X := fun k => R (G k)) (by omega)
  have key := it_inv (f := fun s : Int32 × cH × Nat × Nat => f_X5_pointRows_L8 o q (nI n) sz s.1 s.2.1 s.2.2.1 s.2.2.2) (fun k s => s.1 = nI k ∧ s.2.2.1 = sz + 1 ∧ bP hp sz s.2.1 (sz + 1) sz n k (d + 1) (fun k => R (G k))) n (fun r => r.2.1 = sz + 1 ∧ bP hp sz r.1 (sz + 1) sz n n (d + 1) (fun k => R (G k))) ?_ ?_ (nI 0, hp1, sz + 1, 9) ⟨rfl, rfl, b2⟩
  · obtain ⟨⟨hp2, sz2, rc2⟩, k1, k2, k3⟩ := key
    dsimp only at k2 k3
    subst k2
    obtain ⟨A, k4⟩ := k3.all
    have k1' : itX (fun s : Int32 × cH × Nat × Nat => f_X5_pointRows_L8 o q (nI n) sz s.1 s.2.1 s.2.2.1 s.2.2.2) (0, hp1, sz + 1, 9) = some (hp2, sz + 1, rc2) := k1
    refine ⟨hp2, A, ?_, k4, k3.gr⟩
    unfold f_X5_pointRows
    simp only [↓ob b1, ↓ob k1']
  · rintro k ⟨k', hp2, sz2, rc2⟩ hk ⟨e1, e2, hb⟩
    dsimp only at e1 e2 hb
    subst e1
    subst e2
    have h2 := hC.gg hb.gr
    have hq2 : hp2 q = some (.inl (0, N, .inl f)) := by rw [hb.gr.1 q (by omega)]; exact hq
    have lk := lI_of hq2 (show k < N by omega) (by omega)
    obtain ⟨g1, g2, g3⟩ := hG k hk
    have vk := h2.v g2
    rw [g3] at vk
    obtain ⟨hp3, p1, p2, -, -, -⟩ := hb.put hk (by omega) vk
    have wr : f_X3_row hp2 (ad 0) (f k) 0 = some (some (rw (G k))) := by rw [g1]; exact h2.row (t := 0) g2 g3
    have l02 := h2.r0
    have lt : ¬ nI n ≤ nI k := nI_ge hk (by omega)
    refine ⟨(nI (k + 1), hp3, sz + 1, rc2), ?_, rfl, rfl, p2⟩
    (try dsimp only)
    unfold f_X5_pointRows_L8
    simp only [lt, ↓ob l02, ↓ob lk, h2.o3, ↓ob wr, ↓Option.elim_some, ↓ob p1, ↓reduceIte]
    rw [show (1 : Int32) = nI 1 from rfl, nI_add]
  · rintro ⟨k', hp2, sz2, rc2⟩ ⟨e1, e2, hb⟩
    dsimp only at e1 e2 hb
    subst e1
    refine ⟨(hp2, sz2, rc2), ?_, e2, hb⟩
    (try dsimp only)
    unfold f_X5_pointRows_L8
    rw [if_pos (nI_le (Nat.le_refl n) (by omega))]
theorem pK.wk {cc : Nat} {ps : Nat → Int32} {X : Nat → Nat} {m k : Nat} (h : pK cc ps X m) (hk : k ≤ m) : pK cc ps X k := fun i hi => h i (by omega)
/-- map: both; the pairs are forgotten where it succeeds -/
theorem st_map (hp0 : isP P) (ho : P % 2 = 1) [NeZero P] (hB : P < 2 ^ 31) (hI : shf d c S R) (hC : cS P d hp sz o ad im rw c S R H g Gs m pA pB id) {sorts : Nat → Int32} {rows : Nat → Int64} (hS : sK sorts S c) (hK : rK c rows R) {qA qB : Nat → Int32} (hA : pK c qA pA m) (hA2 : ∀ k, k < m → S (pA k) = 0) (hBq : pK c qB pB m) (hB2 : ∀ k, k < m → S (pB k) = 0) (draft frame one two : Nat → Int64) : ∃ K m', ext d c S R K ∧ (m' = 0 ∨ m' = m) ∧ (∃ hp' sz' im' rw', f_X5_map hp sz o = some (K.1, hp', sz') ∧ cS P d hp' sz' o ad im' rw' K.2.1 K.2.2.1 K.2.2.2 H g Gs m' pA pB id ∧ cF ad o hp sz hp' sz') ∧ ∃ s' r' d' f' o' t', m_map (nI d) (lN P) (nI c) sorts rows (nI m) qA qB draft frame one two = some (K.1, nI K.2.1, s', r', nI m', d', f', o', t') ∧ RO s' r' K := by
  have hP := hp0.1
  have hle := hC.le
  have hd := hC.hd
  have hw := hC.hw
  have he := hC.e
  have i11 := hC.i11
  have i5 := hC.i5
  have r8 := hC.r8
  have r3 := hC.r3
  have hgm := hC.gm
  have ad2 : nI d + (2 : Int32) = nI (d + 2) := by rw [show (2 : Int32) = nI 2 from rfl, nI_add]
  have stay : ∀ v hp' sz', gro hp sz hp' sz' → f_X5_map hp sz o = some (v, hp', sz') → (∃ d' f' o' t', m_map (nI d) (lN P) (nI c) sorts rows (nI m) qA qB draft frame one two = some (v, nI c, sorts, rows, nI m, d', f', o', t')) → ∃ K m', ext d c S R K ∧ (m' = 0 ∨ m' = m) ∧ (∃ hp' sz' im' rw', f_X5_map hp sz o = some (K.1, hp', sz') ∧ cS P d hp' sz' o ad im' rw' K.2.1 K.2.2.1 K.2.2.2 H g Gs m' pA pB id ∧ cF ad o hp sz hp' sz') ∧ ∃ s' r' d' f' o' t', m_map (nI d) (lN P) (nI c) sorts rows (nI m) qA qB draft frame one two = some (K.1, nI K.2.1, s', r', nI m', d', f', o', t') ∧ RO s' r' K := by
    intro v hp' sz' q0 q1 q2
    obtain ⟨d', f', o', t', q2⟩ := q2
    exact ⟨(v, c, S, R), m, ext_id hI hle _, Or.inr rfl, ⟨hp', sz', im, rw, q1, hC.gg q0, cF.g q0⟩, sorts, rows, d', f', o', t', q2, hS, hK⟩
  by_cases hm : m = d + 2
  · have hmt : (nI m = nI (d + 2)) = True := by rw [hm]; simp
    have hC0 := hC
    obtain ⟨⟨k1, k1'⟩, ⟨k2, k2'⟩, ⟨⟨G0, k3, k3'⟩, k3''⟩, k4, k5, ⟨⟨⟨f, k6, k6'⟩, k6''⟩, ⟨⟨f2, k7, k7'⟩, k7''⟩, ⟨⟨f3, k8, k8'⟩, k8''⟩, k9⟩, k10, k11, k12, k13, k14⟩ := hC0
    obtain ⟨hp1, A1, a1, a2, a3⟩ := c_pts hC (n := d + 2) (G := pA) k7 k7'' (by omega) (by omega) (fun k hk => ⟨k7' k (by omega), (hA k (by omega)).2, hA2 k (by omega)⟩)
    have h1 := hC.gg a3
    have he1 := h1.e
    have a1' : f_X5_pointRows hp sz o (ad 3) (nI m) = some (sz, hp1, sz + 1) := by rw [hm]; exact a1
    obtain ⟨rf, hp2, sz2, b1, b3, b4, b5⟩ := e_frameOf hP hB he1 hw (X := fun k => R (pA k)) a2
    have h2 := h1.gg b3
    have r82 := h2.r8
    have r42 := h2.r4
    have i112 := h2.i11
    obtain ⟨hp3, A3, c1, c2, c3⟩ := c_pts h2 (q := ad 4) (N := 5) (f := f3) (n := d + 2) (G := pB) (by rw [b3.1 _ (by have := a3.2; omega), a3.1 _ (by omega)]; exact k8) (by have := a3.2; have := b3.2; omega) (by omega) (by omega) (fun k hk => ⟨k8' k (by omega), (hBq k (by omega)).2, hB2 k (by omega)⟩)
    have h3 := h2.gg c3
    have he3 := h3.e
    have c1' : f_X5_pointRows hp2 sz2 o (ad 4) (nI m) = some (sz2, hp3, sz2 + 1) := by rw [hm]; exact c1
    obtain ⟨rt, hp4, sz4, d1, d3, d4, d5⟩ := e_frameOf hP hB he3 hw (X := fun k => R (pB k)) c2
    have h4 := h3.gg d3
    have he4 := h4.e
    have r84 := h4.r8
    have hg4 : gro hp sz hp4 sz4 := ((a3.tr b3).tr c3).tr d3
    obtain ⟨wA, frA, mA, mA1, mA2⟩ := s_isWide hP hB (fr := frame) hK (b := 1) (hA.wk (show d + 2 ≤ m by omega)) (hBq.wk (show d + 2 ≤ m by omega)) hd (by omega) (X := fun k => R (pA k)) (by funext k; rw [if_neg (by omega)])
    obtain ⟨wB, frB, mB, mB1, mB2⟩ := s_isWide hP hB (fr := frA) hK (b := 0) (hA.wk (show d + 2 ≤ m by omega)) (hBq.wk (show d + 2 ≤ m by omega)) hd (by omega) (X := fun k => R (pB k)) (by funext k; rw [if_pos rfl])
    have mA' : m_isWide (nI d) (lN P) rows qA qB frame 1 = some (wA, frA) := mA
    have mB' : m_isWide (nI d) (lN P) rows qA qB frA 0 = some (wB, frB) := mB
    have iA := wide_iff hp0 (w := d + 1) (X := fun k => R (pA k))
    have iB := wide_iff hp0 (w := d + 1) (X := fun k => R (pB k))
    by_cases gA : (gj (d + 1) (clM (fun k => R (pA k))) (d + 1)).1 = d + 1 ∧ ∀ j, j < d + 1 → (gj (d + 1) (clM (fun k => R (pA k))) (d + 1)).2 j (d + 1) ≠ 0
    · have hwA := mA1 (iA.mpr gA)
      subst hwA
      obtain ⟨qf, rfl, b2⟩ := b4 gA
      by_cases gB : (gj (d + 1) (clM (fun k => R (pB k))) (d + 1)).1 = d + 1 ∧ ∀ j, j < d + 1 → (gj (d + 1) (clM (fun k => R (pB k))) (d + 1)).2 j (d + 1) ≠ 0
      · have hwB := mB1 (iB.mpr gB)
        subst hwB
        obtain ⟨qt, rfl, d2⟩ := d4 gB
        have ivA := inv_fr hp0 gA.1 gA.2
        have ivB := inv_fr hp0 gB.1 gB.2
        have hff := (full_q hp0).mpr ivA
        have b2' := (b2.g c3).g d3
        obtain ⟨r5, hp5, sz5, e1, e3, e4, -⟩ := e_inverted hP hB he4 hw b2'
        obtain ⟨qi, rfl, e2⟩ := e4 hff
        have h5 := h4.gg e3
        have he5 := h5.e
        have r85 := h5.r8
        obtain ⟨hp6, f1, f2', f3'⟩ := e_product hP hB he5 hw (d2.g e3) e2
        have hg6 : gro hp sz hp6 (sz5 + 1) := (hg4.tr e3).tr f3'
        have h6 := hC.gg hg6
        have hinv := inv_pr ivB (inv_iv hp0 ivA)
        obtain ⟨hp7, sz7, im7, rw7, g1, g2, g3⟩ := h6.keep hp0 hB (show 3 < 5 by omega) (r := some sz5) (y := some (prF (d + 1) (frF (d + 1) (fun k => R (pB k))) (ivF (d + 1) (frF (d + 1) (fun k => R (pA k)))))) ⟨sz5, rfl, f2'⟩
        generalize hKK : kpF (wd d 3) 3 (some (prF (d + 1) (frF (d + 1) (fun k => R (pB k))) (ivF (d + 1) (frF (d + 1) (fun k => R (pA k)))))) c S R = K at g1 g2
        have hext : ext d c S R K := by
          rw [← hKK]
          exact ext_kp hp0 hI hle (fun _ => ⟨by omega, by omega, by omega, fun _ => hinv, by omega⟩)
        have g1' : f_X5_keep hp6 (sz5 + 1) o 3 (some sz5) = some (K.1, hp7, sz7) := g1
        obtain ⟨fr3, o3, t3, n1, n2, -⟩ := s_columns hP hB (fr := frB) (one := one) (two := two) hK (b := 1) (hA.wk (show d + 2 ≤ m by omega)) (hBq.wk (show d + 2 ≤ m by omega)) hd (by omega) (X := fun k => R (pA k)) (by funext k; rw [if_neg (by omega)])
        obtain ⟨rfl, n3⟩ := n2 rfl
        obtain ⟨fr4, o4, t4, n4, -, n5⟩ := s_columns hP hB (fr := fr3) (one := o3) (two := t3) hK (b := 0) (hA.wk (show d + 2 ≤ m by omega)) (hBq.wk (show d + 2 ≤ m by omega)) hd (by omega) (X := fun k => R (pB k)) (by funext k; rw [if_pos rfl])
        obtain ⟨rfl, n6⟩ := n5 rfl
        obtain ⟨d0, z1, z2⟩ := s_clear (P := P) draft
        obtain ⟨fa, fb, rr, dd, y1, y2, y3, y4⟩ := s_mapM hP hB (fr := fr4) (draft := d0) hd n3 n6 z2
        obtain ⟨s', r', d', x1, x2⟩ := r_made hp0 hB hK hS hd (show 3 < 5 by omega) (show vo dd (wd d 3) _ from y4) (inv_nz hp0 (by omega) hinv)
        rw [hKK] at x1 x2
        have x1' : m_made (nI d) (lN P) (nI c) sorts rows dd 3 = _ := x1
        have n1' : m_columns (nI d) (lN P) rows qA qB frB one t3 1 = some (fr3, o4, t3) := n1
        have n4' : m_columns (nI d) (lN P) rows qA qB fr3 o4 t3 0 = some (fr4, o4, t4) := n4
        have y1' : itX (m_map_L43 (nI d) o4) (0, fr4) = some fa := y1
        have y3' : itX (m_map_L138 (nI d) (lN P) fb t4) (0, d0) = some dd := y3
        have sd : m_side (nI d) = some (nI (d + 1)) := by
          unfold m_side
          rw [show (1 : Int32) = nI 1 from rfl, nI_add]
        have m2 : (2 : Int32) * nI (d + 1) = nI (2 * (d + 1)) := by rw [show (2 : Int32) = nI 2 from rfl, pk_mul]
        by_cases hneg : K.1 < 0
        · have hneg2 : ¬ (0 : Int32) ≤ K.1 := by
            rw [Int32.le_iff_toInt_le]
            rw [Int32.lt_iff_toInt_lt] at hneg
            omega
          refine ⟨K, m, hext, Or.inr rfl, ⟨hp7, sz7, im7, rw7, ?_, g2, (cF.g hg6).tr g3⟩, s', r', d', fb, o4, t4, ?_, x2⟩
          · unfold f_X5_map
            simp only [↓ob i11, ↓ob i5, ad2, hmt, ↓ob r8, ↓ob r3, hC.o5, ↓ob a1', he1.o2, ↓ob b1, ↓ob r82, ↓ob r42, ↓ob i112, h2.o5, ↓ob c1', he3.o2, ↓ob d1, ↓Option.elim_some, ↓ob r84, he4.o2, ↓ob e1, ↓ob r85, he5.o2, ↓ob f1, h6.o5, ↓ob g1', hneg, ↓reduceIte]
          · unfold m_map
            simp only [ad2, hmt, ↓ob mA', ↓ob mB', n10, ↓ob n1', ↓ob n4', ↓ob y1', ↓ob sd, m2, ↓ob y2, ↓ob z1, ↓ob y3', ↓ob x1', hneg2, ↓reduceIte]
        · have hneg2 : (0 : Int32) ≤ K.1 := by
            rw [Int32.le_iff_toInt_le]
            rw [Int32.lt_iff_toInt_lt] at hneg
            omega
          have pv0 := (g2.pv 0).2.1
          obtain ⟨u1, u2⟩ := g2.fld (g' := g) (m' := 0) (id' := id) (Nat.le_refl _) (Nat.zero_le _)
          refine ⟨K, 0, hext, Or.inl rfl, ⟨_, sz7, im7, rw7, ?_, u1, ((cF.g hg6).tr g3).tr u2⟩, s', r', d', fb, o4, t4, ?_, x2⟩
          · unfold f_X5_map
            simp only [↓ob i11, ↓ob i5, ad2, hmt, ↓ob r8, ↓ob r3, hC.o5, ↓ob a1', he1.o2, ↓ob b1, ↓ob r82, ↓ob r42, ↓ob i112, h2.o5, ↓ob c1', he3.o2, ↓ob d1, ↓Option.elim_some, ↓ob r84, he4.o2, ↓ob e1, ↓ob r85, he5.o2, ↓ob f1, h6.o5, ↓ob g1', hneg, ↓ob pv0, ↓reduceIte]
            rfl
          · unfold m_map
            simp only [ad2, hmt, ↓ob mA', ↓ob mB', n10, ↓ob n1', ↓ob n4', ↓ob y1', ↓ob sd, m2, ↓ob y2, ↓ob z1, ↓ob y3', ↓ob x1', hneg2, ↓reduceIte]
            rfl
      · have hwB := mB2 (fun q => gB (iB.mp q))
        subst hwB
        have hrt := d5 gB
        subst hrt
        refine stay (-1) hp4 sz4 hg4 ?_ ⟨draft, frB, one, two, ?_⟩
        · unfold f_X5_map
          simp only [↓ob i11, ↓ob i5, ad2, hmt, ↓ob r8, ↓ob r3, hC.o5, ↓ob a1', he1.o2, ↓ob b1, ↓ob r82, ↓ob r42, ↓ob i112, h2.o5, ↓ob c1', he3.o2, ↓ob d1, ↓Option.elim_some, ↓Option.elim_none, ↓reduceIte]
        · unfold m_map
          simp only [ad2, hmt, ↓ob mA', ↓ob mB', n10, n00, ↓reduceIte]
    · have hwA := mA2 (fun q => gA (iA.mp q))
      subst hwA
      have hrf := b5 gA
      subst hrf
      refine stay (-1) hp4 sz4 hg4 ?_ ⟨draft, frA, one, two, ?_⟩
      · unfold f_X5_map
        simp only [↓ob i11, ↓ob i5, ad2, hmt, ↓ob r8, ↓ob r3, hC.o5, ↓ob a1', he1.o2, ↓ob b1, ↓ob r82, ↓ob r42, ↓ob i112, h2.o5, ↓ob c1', he3.o2, ↓ob d1, ↓Option.elim_none, ↓reduceIte]
      · unfold m_map
        simp only [ad2, hmt, ↓ob mA', n00, ↓reduceIte]
  · have hmt : (nI m = nI (d + 2)) = False := n_ne hm (by omega) (by omega)
    refine stay (-1) hp sz gro.rf ?_ ⟨draft, frame, one, two, ?_⟩
    · unfold f_X5_map
      simp only [↓ob i11, ↓ob i5, ad2, hmt, ↓reduceIte]
    · unfold m_map
      simp only [ad2, hmt, ↓reduceIte]
end MAPO
