section MOPS2
variable {P : Nat} {d sz o : Nat} {hp : cH} {ad im rw : Nat → Nat} {c : Nat} {S : Nat → Nat} {R : Nat → Nat → Fin P} {H : Nat → Fin P} {g : Nat} {Gs : Nat → Nat} {m : Nat} {pA pB : Nat → Nat} {id : Int32}
theorem flt {d : Nat} (hd : d = 2 ∨ d = 3) : d - 1 < 5 ∧ (d = 2 → d - 1 ≠ 2) ∧ d - 1 ≠ 3 ∧ d - 1 ≠ 4 := by omega
theorem st_polar (hp0 : isP P) (ho : P % 2 = 1) [NeZero P] (hB : P < 2 ^ 31) (hI : shf d c S R) (hC : cS P d hp sz o ad im rw c S R H g Gs m pA pB id) {sorts : Nat → Int32} {rows : Nat → Int64} (hS : sK sorts S c) (hK : rK c rows R) (draft frame turned : Nat → Int64) (x1 x2 : Int32) : ∃ K, ext d c S R K ∧ CO P d hp sz o ad K H g Gs m pA pB id (f_X5_polar hp sz o x1 x2) ∧ ∃ s' r' d' f' t', m_polar (nI d) (lN P) (nI c) sorts rows draft frame turned x1 x2 = some (K.1, nI K.2.1, s', r', d', f', t') ∧ RO s' r' K := by
  have hP := hp0.1
  have hle := hC.le
  have hd := hC.hd
  have hw := hC.hw
  have he := hC.e
  have l0 := hC.r0
  have r8 := hC.r8
  have i6 := hC.i6
  have h5 : ∀ a, a < c → S a < 5 := fun a ha => hC.s5 ha
  have d3 : (nI 2 = (3 : Int32)) = False := by simp; decide
  have d2 : (nI 3 = (2 : Int32)) = False := by simp; decide
  have d33 : (nI 3 = (3 : Int32)) = True := by simp; decide
  have d22 : (nI 2 = (2 : Int32)) = True := by simp; decide
  have bad : (f_X5_polar hp sz o x1 x2 = some (-2, hp, sz)) → m_polar (nI d) (lN P) (nI c) sorts rows draft frame turned x1 x2 = some (-2, nI c, sorts, rows, draft, frame, turned) → ∃ K, ext d c S R K ∧ CO P d hp sz o ad K H g Gs m pA pB id (f_X5_polar hp sz o x1 x2) ∧ ∃ s' r' d' f' t', m_polar (nI d) (lN P) (nI c) sorts rows draft frame turned x1 x2 = some (K.1, nI K.2.1, s', r', d', f', t') ∧ RO s' r' K := fun q1 q2 => ⟨(-2, c, S, R), ext_id hI hle _, CO.same hC gro.rf q1, sorts, rows, draft, frame, turned, q2, hS, hK⟩
  rcases sortX h5 hle hS x1 (show 4 < 5 by omega) with ⟨a, ha, rfl, e, i1⟩ | ⟨q, i1⟩
  · have w1 : f_X3_row hp (ad 0) (nI a) 4 = some (some (rw a)) := hC.row (t := 4) ha e
    have i1' : m_is (nI c) sorts (nI a) 4 = some (nI 1) := i1
    have va := hC.v ha
    rw [e] at va
    rcases ix_cl c hle x2 with ⟨b, hb, rfl⟩ | hx2
    · have w2 := hC.item hb
      have t2 := hC.t hb
      have r2 := hC.r hb
      have vb := hC.v hb
      have sb := hC.s5 hb
      have ob2 := r_obj (x := 0) hle hb
      have hsb := (hS b hb).1
      have g60 := gi_nI (show b < 60 by omega) (show 60 < 2 ^ 31 by omega)
      have cl := nI_clamp (show b < 2 ^ 31 by omega)
      obtain ⟨d0, z1, z2⟩ := s_clear (P := P) draft
      by_cases s0 : S b = 0
      · rw [s0] at vb t2 hsb
        have t2' : gI hp (im b) 1 0 = some 0 := t2
        obtain ⟨hp1, a1, a2, a3⟩ := e_image hP hB he hw va vb
        have h1 := hC.gg a3
        have hcl := CO.kp (res := f_X5_polar hp sz o (nI a) (nI b)) hp0 hB hC a3 (show d - 1 < 5 by omega) (r := some sz) (y := some (imV (d + 1) (R a) (R b))) ⟨sz, rfl, by rw [wdf hd]; exact a2⟩ (fun v hv => by
          rcases v with ⟨v1, v2, v3⟩
          unfold f_X5_polar
          simp only [↓ob l0, hC.o3, ↓ob w1, ↓ob w2, ↓Option.elim_some, ↓ob t2', ↓ob i6, ↓ob r8, ↓ob r2, he.o2, ↓ob a1, h1.o5, ↓ob hv, ↓reduceIte])
        obtain ⟨d1, b1, b2⟩ := s_polarV hP hB (turned := turned) hK ha hb hd (b := 0) (by omega) (N := fun _ => 0) (by omega) z2
        rw [if_pos rfl] at b2
        obtain ⟨s', r', d', c1, c2⟩ := r_madeN hp0 hB hK hS hd (show d - 1 < 5 by omega) (show vo d1 (wd d (d - 1)) _ by rw [wdf hd]; exact b2)
        refine ⟨_, ext_kp hp0 hI hle (fun _ => ⟨by omega, by omega, fun q1 q2 => by omega, by omega, by omega⟩), hcl, s', r', d', frame, turned, ?_, c2⟩
        have b1' : itX (m_polar_L84 (nI d) (lN P) rows turned (nI a) (nI b) 0) (0, d0) = some d1 := b1
        have lt : ¬ (2 : Int32) < 0 := by decide
        have hsb' : sorts b = (0 : Int32) := hsb
        have z01 : ((0 : Int32) = 1) = False := by simp
        unfold m_polar m_polar_J48 m_polar_J77
        rcases hd with rfl | rfl
        · have c1' : m_madeOrNone (nI 2) (lN P) (nI c) sorts rows d1 1 = _ := c1
          simp only [↓ob i1', n10, ↓ob ob2, if_pos g60, cl, hsb', lt, d3, d22, ↓ob z1, ↓ob b1', ↓ob c1', ↓reduceIte]
        · have c1' : m_madeOrNone (nI 3) (lN P) (nI c) sorts rows d1 2 = _ := c1
          simp only [↓ob i1', n10, ↓ob ob2, if_pos g60, cl, hsb', lt, d33, d2, z01, ↓ob z1, ↓ob b1', ↓ob c1', ↓reduceIte]
      · have t0 : (nI (S b) = (0 : Int32)) = False := n_ne (b := 0) s0 (by omega) (by omega)
        by_cases sf : S b = d - 1
        · rw [sf, wdf hd] at vb
          have tf : (nI (S b) = nI (d - 1)) = True := by rw [sf]; simp
          obtain ⟨r, hp1, sz1, a1, a3, a4, a5⟩ := e_inverted hP hB he hw va
          obtain ⟨bb, fr', tu', b1, b2, b3⟩ := s_isTurned hP hB (fr := frame) (tu := turned) hK ha hd
          have he1 := he.g a3
          have h1 := hC.gg a3
          have r81 := h1.r8
          have r21 := h1.r hb
          have lt : ¬ (2 : Int32) < sorts b := by
            rw [hsb, sf]
            rcases hd with rfl | rfl <;> decide
          have sne : (sorts b = (0 : Int32)) = False := by rw [hsb]; exact t0
          have z10 : ((1 : Int32) = 0) = False := by simp
          by_cases hf : (gj (d + 1) (agM (d + 1) (R a)) (d + 1)).1 = d + 1
          · obtain ⟨q, rfl, a2⟩ := a4 hf
            obtain ⟨rfl, b4⟩ := b2 hf
            obtain ⟨hp2, f1, f2, f3⟩ := e_image hP hB he1 hw a2 (vb.g a3)
            have h2 := h1.gg f3
            have hcl := CO.kp (res := f_X5_polar hp sz o (nI a) (nI b)) hp0 hB hC (a3.tr f3) (show 0 < 5 by omega) (r := some sz1) (y := some (imV (d + 1) (ivF (d + 1) (R a)) (R b))) ⟨sz1, rfl, f2⟩ (fun v hv => by
              rcases v with ⟨v1, v2, v3⟩
              have hv' : f_X5_keep hp2 (sz1 + 1) o 0 (some sz1) = some (v1, v2, v3) := hv
              unfold f_X5_polar
              simp only [↓ob l0, hC.o3, ↓ob w1, ↓ob w2, ↓Option.elim_some, ↓ob t2, t0, ↓ob i6, tf, ↓ob r8, he.o2, ↓ob a1, ↓ob r81, ↓ob r21, he1.o2, ↓ob f1, h2.o5, ↓ob hv', ↓reduceIte])
            obtain ⟨d1, g1, g2⟩ := s_polarV hP hB (turned := tu') hK ha hb hd (b := 1) (by omega) (N := ivF (d + 1) (R a)) (fun _ => b4) z2
            rw [if_neg (by omega)] at g2
            obtain ⟨s', r', d', c1, c2⟩ := r_madeN hp0 hB hK hS hd (show 0 < 5 by omega) (show vo d1 (wd d 0) _ from g2)
            refine ⟨_, ext_kp hp0 hI hle (fun _ => ⟨by omega, by omega, by omega, by omega, by omega⟩), hcl, s', r', d', fr', tu', ?_, c2⟩
            have g1' : itX (m_polar_L84 (nI d) (lN P) rows tu' (nI a) (nI b) 1) (0, d0) = some d1 := g1
            have c1' : m_madeOrNone (nI d) (lN P) (nI c) sorts rows d1 0 = _ := c1
            unfold m_polar m_polar_J48 m_polar_J77
            rcases hd with rfl | rfl
            · simp only [↓ob i1', n10, ↓ob ob2, if_pos g60, cl, lt, sne, z10, d3, d22, ↓ob b1, ↓ob z1, ↓ob g1', ↓ob c1', ↓reduceIte]
            · have s1 : (sorts b = (1 : Int32)) = False := by rw [hsb, sf]; simp; decide
              simp only [↓ob i1', n10, ↓ob ob2, if_pos g60, cl, lt, sne, z10, s1, d33, d2, ↓ob b1, ↓ob z1, ↓ob g1', ↓ob c1', ↓reduceIte]
          · have hr := a5 hf
            subst hr
            have hb3 := b3 hf
            subst hb3
            refine ⟨(-1, c, S, R), ext_id hI hle _, CO.same hC a3 ?_, sorts, rows, draft, fr', tu', ?_, hS, hK⟩
            · unfold f_X5_polar
              simp only [↓ob l0, hC.o3, ↓ob w1, ↓ob w2, ↓Option.elim_some, ↓Option.elim_none, ↓ob t2, t0, ↓ob i6, tf, ↓ob r8, he.o2, ↓ob a1, ↓reduceIte]
            · unfold m_polar m_polar_J48 m_polar_J77
              rcases hd with rfl | rfl
              · simp only [↓ob i1', n10, n00, ↓ob ob2, if_pos g60, cl, lt, sne, z10, d3, d22, ↓ob b1, ↓reduceIte]
              · have s1 : (sorts b = (1 : Int32)) = False := by rw [hsb, sf]; simp; decide
                simp only [↓ob i1', n10, n00, ↓ob ob2, if_pos g60, cl, lt, sne, z10, s1, d33, d2, ↓ob b1, ↓reduceIte]
        · have tf : (nI (S b) = nI (d - 1)) = False := n_ne sf (by omega) (by omega)
          have kb := (hI.1 b hb).2
          refine bad ?_ ?_
          · unfold f_X5_polar
            simp only [↓ob l0, hC.o3, ↓ob w1, ↓ob w2, ↓Option.elim_some, ↓ob t2, t0, ↓ob i6, tf, ↓reduceIte]
          · unfold m_polar
            by_cases s2 : 2 < S b
            · have lt : (2 : Int32) < sorts b := by rw [hsb]; exact nI_lt (a := 2) s2 (by omega)
              simp only [↓ob i1', n10, ↓ob ob2, if_pos g60, cl, lt, ↓reduceIte]
            · rcases hd with rfl | rfl
              · have := kb.2.1 rfl
                omega
              · have lt : ¬ (2 : Int32) < sorts b := by rw [hsb]; exact nI_nlt (show S b ≤ 2 by omega) (show 2 < 2 ^ 31 by omega)
                have s1 : sorts b = (1 : Int32) := by rw [hsb, show S b = 1 by omega]; rfl
                simp only [↓ob i1', n10, ↓ob ob2, if_pos g60, cl, lt, s1, d33, ↓reduceIte]
                simp only [(show ¬ (2 : Int32) < 1 by decide), ↓reduceIte]
    · have w2 := hC.itemX hx2
      have ob2 := r_objX hx2
      refine bad ?_ ?_
      · unfold f_X5_polar
        simp only [↓ob l0, hC.o3, ↓ob w1, ↓ob w2, ↓Option.elim_some, ↓Option.elim_none, ↓reduceIte]
      · unfold m_polar
        simp only [↓ob i1', n10, n00, ↓ob ob2, ↓reduceIte]
  · have w1 : f_X3_row hp (ad 0) x1 4 = some none := hC.rowQ (t := 4) (by omega) q
    have i1' : m_is (nI c) sorts x1 4 = some (nI 0) := i1
    have w2 : ∃ y, f_X3_item hp (ad 0) x2 = some y := by
      rcases ix_cl c hle x2 with ⟨b, hb, rfl⟩ | hx2
      · exact ⟨_, hC.item hb⟩
      · exact ⟨_, hC.itemX hx2⟩
    obtain ⟨y, w2⟩ := w2
    refine bad ?_ ?_
    · unfold f_X5_polar
      simp only [↓ob l0, hC.o3, ↓ob w1, ↓ob w2, ↓Option.elim_none, ↓reduceIte]
    · unfold m_polar
      simp only [↓ob i1', n00, ↓reduceIte]
end MOPS2
