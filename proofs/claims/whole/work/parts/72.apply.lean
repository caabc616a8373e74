section APPLY
variable {P : Nat} {d sz o : Nat} {hp : cH} {ad im rw : Nat → Nat} {c : Nat} {S : Nat → Nat} {R : Nat → Nat → Fin P} {H : Nat → Fin P} {g : Nat} {Gs : Nat → Nat} {m : Nat} {pA pB : Nat → Nat} {id : Int32}
theorem ap_im [NeZero P] {w : Nat} (N x : Nat → Fin P) {j : Nat} (hj : j < w) : sF (fun i => x i * N (i * w + j)) w = imV w (trF w N) x j := by
  unfold imV
  refine sF_congr w (fun i hi => ?_)
  (try dsimp only)
  rw [tr_at N hi]
  grind
theorem st_apply (hp0 : isP P) (ho : P % 2 = 1) [NeZero P] (hB : P < 2 ^ 31) (hI : shf d c S R) (hC : cS P d hp sz o ad im rw c S R H g Gs m pA pB id) {sorts : Nat → Int32} {rows : Nat → Int64} (hS : sK sorts S c) (hK : rK c rows R) (draft frame one two turned : Nat → Int64) (x1 x2 : Int32) : ∃ K, ext d c S R K ∧ CO P d hp sz o ad K H g Gs m pA pB id (f_X5_apply hp sz o x1 x2) ∧ ∃ s' r' d' f' o' t' u', m_apply (nI d) (lN P) (nI c) sorts rows draft frame one two turned x1 x2 = some (K.1, nI K.2.1, s', r', d', f', o', t', u') ∧ RO s' r' K := by
  have hP := hp0.1
  have hle := hC.le
  have hd := hC.hd
  have hw := hC.hw
  have he := hC.e
  have l0 := hC.r0
  have r8 := hC.r8
  have r9 := hC.r9
  have i6 := hC.i6
  have h5 : ∀ a, a < c → S a < 5 := fun a ha => hC.s5 ha
  have d3 : (nI 2 = (3 : Int32)) = False := by simp; decide
  have d33 : (nI 3 = (3 : Int32)) = True := by simp; decide
  have bad : (f_X5_apply hp sz o x1 x2 = some (-2, hp, sz)) → m_apply (nI d) (lN P) (nI c) sorts rows draft frame one two turned x1 x2 = some (-2, nI c, sorts, rows, draft, frame, one, two, turned) → ∃ K, ext d c S R K ∧ CO P d hp sz o ad K H g Gs m pA pB id (f_X5_apply hp sz o x1 x2) ∧ ∃ s' r' d' f' o' t' u', m_apply (nI d) (lN P) (nI c) sorts rows draft frame one two turned x1 x2 = some (K.1, nI K.2.1, s', r', d', f', o', t', u') ∧ RO s' r' K := fun q1 q2 => ⟨(-2, c, S, R), ext_id hI hle _, CO.same hC gro.rf q1, sorts, rows, draft, frame, one, two, turned, q2, hS, hK⟩
  rcases sortX h5 hle hS x1 (show 3 < 5 by omega) with ⟨a, ha, rfl, e, i1⟩ | ⟨q, i1⟩
  · have w1 : f_X3_row hp (ad 0) (nI a) 3 = some (some (rw a)) := hC.row (t := 3) ha e
    have i1' : m_is (nI c) sorts (nI a) 3 = some (nI 1) := i1
    have va := hC.v ha
    rw [e] at va
    have hinv := (hI.1 a ha).2.2.2.2.1 e
    have hf := (full_q hp0).mpr hinv
    rcases ix_cl c hle x2 with ⟨b, hb, rfl⟩ | hx2
    · have w2 := hC.item hb
      have vb := hC.v hb
      have sb := hC.s5 hb
      have nb := (hI.1 b hb).1
      have kb := (hI.1 b hb).2
      have ob2 := r_obj (x := 0) hle hb
      have hsb := (hS b hb).1
      have g60 := gi_nI (show b < 60 by omega) (show 60 < 2 ^ 31 by omega)
      have cl := nI_clamp (show b < 2 ^ 31 by omega)
      obtain ⟨d0, z1, z2⟩ := s_clear (P := P) draft
      obtain ⟨r, hp1, sz1, a1, a3, a4, -⟩ := e_inverted hP hB he hw va
      obtain ⟨q, rfl, a2⟩ := a4 hf
      obtain ⟨bb, fr', tu', b1, b2, -⟩ := s_isTurned hP hB (fr := frame) (tu := turned) hK ha hd
      obtain ⟨rfl, b4⟩ := b2 hf
      have he1 := he.g a3
      have h1 := hC.gg a3
      have r81 := h1.r8
      have r91 := h1.r9
      have i61 := h1.i6
      have t21 := h1.t hb
      have r21 := h1.r hb
      have va1 := va.g a3
      have vb1 := vb.g a3
      by_cases s0 : S b = 0
      · rw [s0] at vb vb1 t21 hsb nb
        have t0 : (nI 0 = nI (d - 1)) = False := n_ne (by omega) (by omega) (by omega)
        obtain ⟨hp2, f1, f2, f3⟩ := e_image hP hB he1 hw va1 vb1
        have h2 := h1.gg f3
        have hcl := CO.kp (res := f_X5_apply hp sz o (nI a) (nI b)) hp0 hB hC (a3.tr f3) (show 0 < 5 by omega) (r := some sz1) (y := some (imV (d + 1) (R a) (R b))) ⟨sz1, rfl, f2⟩ (fun v hv => by
          rcases v with ⟨v1, v2, v3⟩
          have hv' : f_X5_keep hp2 (sz1 + 1) o 0 (some sz1) = some (v1, v2, v3) := hv
          unfold f_X5_apply
          simp only [↓ob l0, hC.o3, ↓ob w1, ↓ob w2, ↓Option.elim_some, ↓ob r8, he.o2, ↓ob a1, ↓ob t21, ↓ob i61, t0, n00, ↓ob r81, ↓ob r21, he1.o2, ↓ob f1, h2.o5, ↓ob hv', ↓reduceIte])
        obtain ⟨o1, g1, g2⟩ := s_takeOne (one := one) hK hb (show d < 8 by omega)
        obtain ⟨d1, o2, t2, g3, g4, g5, -⟩ := s_mapped hP hB (draft := d0) (one := o1) (two := two) hK ha hd (b := 1) (by omega) (x := R b) (by rw [if_neg (by omega)]; exact g2)
        obtain ⟨s', r', d', c1, c2⟩ := r_made hp0 hB hK hS hd (show 0 < 5 by omega) (show vo d1 (wd d 0) _ from g4) (im_nz hinv nb.1)
        refine ⟨_, ext_kp hp0 hI hle (fun _ => ⟨by omega, by omega, by omega, by omega, by omega⟩), hcl, s', r', d', fr', o2, t2, tu', ?_, c2⟩
        have hsb' : sorts b = (0 : Int32) := hsb
        have g3' : m_mapped (nI d) (lN P) rows d0 o1 two (nI a) 1 = some (d1, o2, t2) := g3
        have c1' : m_made (nI d) (lN P) (nI c) sorts rows d1 0 = _ := c1
        unfold m_apply
        simp only [↓ob i1', n10, ↓ob ob2, if_pos g60, cl, ↓ob b1, hsb', ↓ob z1, ↓ob g1, ↓ob g3', ↓ob c1', ↓reduceIte]
      · have t0 : (nI (S b) = (0 : Int32)) = False := n_ne (b := 0) s0 (by omega) (by omega)
        have s0' : (sorts b = (0 : Int32)) = False := by rw [hsb]; exact t0
        by_cases sf : S b = d - 1
        · have tf : (nI (S b) = nI (d - 1)) = True := by rw [sf]; simp
          rw [sf, wdf hd] at vb vb1 nb
          obtain ⟨hp2, f1, f2, f3⟩ := e_turned hP hB he1 hw a2
          have he2 := he1.g f3
          have h2 := h1.gg f3
          have r22 := h2.r hb
          obtain ⟨hp3, g1, g2, g3⟩ := e_image hP hB he2 hw f2 (vb1.g f3)
          have h3 := h2.gg g3
          have hcl := CO.kp (res := f_X5_apply hp sz o (nI a) (nI b)) hp0 hB hC ((a3.tr f3).tr g3) (show d - 1 < 5 by omega) (r := some (sz1 + 1)) (y := some (imV (d + 1) (trF (d + 1) (ivF (d + 1) (R a))) (R b))) ⟨sz1 + 1, rfl, by rw [wdf hd]; exact g2⟩ (fun v hv => by
            rcases v with ⟨v1, v2, v3⟩
            unfold f_X5_apply
            simp only [↓ob l0, hC.o3, ↓ob w1, ↓ob w2, ↓Option.elim_some, ↓ob r8, he.o2, ↓ob a1, ↓ob t21, ↓ob i61, tf, ↓ob r81, he1.o2, ↓ob f1, ↓ob r22, he2.o2, ↓ob g1, h3.o5, ↓ob hv, ↓reduceIte])
          obtain ⟨d1, k1, k2⟩ := s_applyV hP hB hK hb hd b4 z2
          have k3 : vo d1 (wd d (d - 1)) (imV (d + 1) (trF (d + 1) (ivF (d + 1) (R a))) (R b)) := by
            rw [wdf hd]
            exact vo_congr k2 (fun j hj => ap_im _ _ hj)
          obtain ⟨s', r', d', c1, c2⟩ := r_made hp0 hB hK hS hd (show d - 1 < 5 by omega) k3 (by rw [wdf hd]; exact im_nz (inv_tr hp0 (inv_iv hp0 hinv)) nb.1)
          refine ⟨_, ext_kp hp0 hI hle (fun _ => ⟨by omega, by omega, fun q1 q2 => by omega, by omega, by omega⟩), hcl, s', r', d', fr', one, two, tu', ?_, c2⟩
          have k1' : itX (m_apply_L109 (nI d) (lN P) rows tu' (nI b)) (0, d0) = some d1 := k1
          have c1' := (show m_made (nI d) (lN P) (nI c) sorts rows d1 (sorts b) = m_made (nI d) (lN P) (nI c) sorts rows d1 (nI (d - 1)) by rw [hsb, sf]).trans c1
          unfold m_apply m_apply_J92 m_apply_J102
          rcases hd with rfl | rfl
          · have q1 : (sorts b = (1 : Int32)) = True := by rw [hsb, sf]; simp; rfl
            simp only [↓ob i1', n10, ↓ob ob2, if_pos g60, cl, ↓ob b1, s0', q1, d3, ↓ob z1, ↓ob k1', ↓ob c1', ↓reduceIte]
          · have q1 : (sorts b = (1 : Int32)) = False := by rw [hsb]; exact n_ne (b := 1) (by omega) (by omega) (by omega)
            have q2 : (sorts b = (2 : Int32)) = True := by rw [hsb, sf]; simp; rfl
            simp only [↓ob i1', n10, ↓ob ob2, if_pos g60, cl, ↓ob b1, s0', q1, q2, ↓ob z1, ↓ob k1', ↓ob c1', ↓reduceIte]
        · have tf : (nI (S b) = nI (d - 1)) = False := n_ne sf (by omega) (by omega)
          by_cases s1 : S b = 1
          · have hd3 : d = 3 := by omega
            subst hd3
            have u0 : (nI (S b) = (0 : Int32)) = False := t0
            have u1 : (nI (S b) = 1) = True := by rw [s1]; simp; rfl
            rw [s1] at vb vb1 nb kb
            have plb := kb.2.2.1 rfl rfl
            have nb6 : nrm 6 (R b) := nb
            obtain ⟨r2, hp2, sz2, f1, f2, f3⟩ := e_lineImage hP hB he1 hw va1 vb1 (show ldV (blF 4 (R b)) (swi 4 4) < swi 4 4 from nb6.1)
            have h2 := h1.gg f3
            have hcl := CO.kp (res := f_X5_apply hp sz o (nI a) (nI b)) hp0 hB hC (a3.tr f3) (show 1 < 5 by omega) (r := some r2) (y := some (wgF 4 (imV 4 (R a) (bwF 4 (R b) 0)) (imV 4 (R a) (bwF 4 (R b) 1)))) ⟨r2, rfl, f2⟩ (fun v hv => by
              rcases v with ⟨v1, v2, v3⟩
              have hv' : f_X5_keep hp2 sz2 o 1 (some r2) = some (v1, v2, v3) := hv
              unfold f_X5_apply
              simp only [↓ob l0, hC.o3, ↓ob w1, ↓ob w2, ↓Option.elim_some, ↓ob r8, he.o2, ↓ob a1, ↓ob t21, ↓ob i61, tf, u0, u1, ↓ob r91, ↓ob r21, he1.o4, ↓ob f1, h2.o5, ↓ob hv', ↓reduceIte])
            obtain ⟨f5, o5, t5, p1, p2, p3⟩ := s_base hP hB (fr := fr') (one := one) (two := two) hK hb (Or.inr rfl)
            have hbb := ba_bw hp0 (d := 3) (Or.inr rfl) (L := R b) (fun _ => plb) nb6.1
            have p2' : vo o5 4 (bwF 4 (R b) 0) := vo_congr p2 (fun j hj => (hbb j hj).1)
            have p3' : vo t5 4 (bwF 4 (R b) 1) := vo_congr p3 (fun j hj => (hbb j hj).2)
            obtain ⟨d6, o6, t6, q1, q2, q3, -⟩ := s_mapped hP hB (draft := draft) (one := o5) (two := t5) hK ha (Or.inr rfl) (b := 1) (by omega) (x := bwF 4 (R b) 0) (by rw [if_neg (by omega)]; exact p2')
            obtain ⟨q4, rfl⟩ := q3 rfl
            obtain ⟨d7, o7, t7, v1, v2, -, v3⟩ := s_mapped hP hB (draft := d6) (one := o6) (two := t6) hK ha (Or.inr rfl) (b := 0) (by omega) (x := bwF 4 (R b) 1) (by rw [if_pos rfl]; exact p3')
            obtain ⟨rfl, v4⟩ := v3 rfl
            obtain ⟨d8, e1, e2⟩ := s_through3 hP hB (draft := d7) (show vo o7 4 (imV 4 (R a) (bwF 4 (R b) 0)) from q4) (show vo t7 4 (imV 4 (R a) (bwF 4 (R b) 1)) from v4)
            have e3 : vo d8 (wd 3 1) (wgF 4 (imV 4 (R a) (bwF 4 (R b) 0)) (imV 4 (R a) (bwF 4 (R b) 1))) := vo_congr e2 (fun k hk => (ln_wg _ _ hk).symm)
            obtain ⟨k1, k2, k3, k4, k5, k6⟩ := sk_z (w := 4) (Or.inr rfl) (M := R b) nb6.1 rfl rfl
            have hfm := fi_mul hp0 k4
            have hnz := wg_im hp0 (w := 4) (Or.inr rfl) (b0 := bwF 4 (R b) 0) (b1 := bwF 4 (R b) 1) hinv (Nat.lt_trans k1 k2) k2 (by
              unfold bwF
              rw [if_pos rfl, sk_ng, k3]
              grind) (by
              unfold bwF
              rw [if_pos rfl, sk_dg]
              grind) (by
              unfold bwF
              rw [if_neg (by omega), k3]
              grind)
            obtain ⟨s', r', d', c1, c2⟩ := r_made hp0 hB hK hS (Or.inr rfl) (show 1 < 5 by omega) e3 hnz
            refine ⟨_, ext_kp hp0 hI hle (fun _ => ⟨by omega, by omega, fun _ _ => plu_wg _ _, by omega, by omega⟩), hcl, s', r', d', f5, o7, t7, tu', ?_, c2⟩
            have x1 : (sorts b = (1 : Int32)) = True := by rw [hsb]; exact u1
            have q1' : m_mapped (nI 3) (lN P) rows draft o5 t6 (nI a) 1 = some (d6, o7, t6) := q1
            have v1' : m_mapped (nI 3) (lN P) rows d6 o7 t6 (nI a) 0 = some (d7, o7, t7) := v1
            have c1' := (show m_made (nI 3) (lN P) (nI c) sorts rows d8 (sorts b) = m_made (nI 3) (lN P) (nI c) sorts rows d8 (nI 1) by rw [hsb, s1]).trans c1
            unfold m_apply
            simp only [↓ob i1', n10, ↓ob ob2, if_pos g60, cl, ↓ob b1, s0', x1, d33, ↓ob p1, ↓ob q1', ↓ob v1', ↓ob e1, ↓ob c1', ↓reduceIte]
          · have h34 : S b = 3 ∨ S b = 4 := by
              have := kb.2.1
              omega
            have hwd : wd d (S b) = (d + 1) * (d + 1) := by rcases h34 with q | q <;> rw [q] <;> rfl
            have u1 : (nI (S b) = 1) = False := n_ne (b := 1) s1 (by omega) (by omega)
            have u2 : (nI (S b) = 2) = False := n_ne (b := 2) (by omega) (by omega) (by omega)
            rw [hwd] at vb vb1 nb
            obtain ⟨d1, o2, k1, k2⟩ := s_squared hP hB (draft := draft) (one := one) hK ha hb hd sb b4
            have hres : ∃ y : Nat → Fin P, (∀ j, y j = prF (d + 1) (prF (d + 1) (if S b = 3 then R a else trF (d + 1) (ivF (d + 1) (R a))) (R b)) (ivF (d + 1) (R a)) j) ∧ okx d (S b) y ∧ ldV y ((d + 1) * (d + 1)) < (d + 1) * (d + 1) ∧ CO P d hp sz o ad (kpF (wd d (S b)) (S b) (some y) c S R) H g Gs m pA pB id (f_X5_apply hp sz o (nI a) (nI b)) := by
              rcases h34 with s3 | s4
              · have u3 : (nI (S b) = 3) = True := by rw [s3]; simp; rfl
                have hib := kb.2.2.2.1 s3
                obtain ⟨hp2, f1, f2, f3⟩ := e_product hP hB he1 hw va1 vb1
                have he2 := he1.g f3
                have h2 := h1.gg f3
                obtain ⟨hp3, g1, g2, g3⟩ := e_product hP hB he2 hw f2 (a2.g f3)
                have h3 := h2.gg g3
                have hi3 := inv_pr (inv_pr hinv hib) (inv_iv hp0 hinv)
                refine ⟨_, fun j => by rw [if_pos s3], ⟨sb, kb.2.1, by omega, fun _ => hi3, by omega⟩, inv_nz hp0 (by omega) hi3, CO.kp hp0 hB hC ((a3.tr f3).tr g3) sb (r := some (sz1 + 1)) (y := some _) ⟨sz1 + 1, rfl, by rw [hwd]; exact g2⟩ (fun v hv => ?_)⟩
                rcases v with ⟨v1, v2, v3⟩
                have hv' : f_X5_keep hp3 (sz1 + 1 + 1) o 3 (some (sz1 + 1)) = some (v1, v2, v3) := by rw [s3] at hv; exact hv
                unfold f_X5_apply
                simp only [↓ob l0, hC.o3, ↓ob w1, ↓ob w2, ↓Option.elim_some, ↓ob r8, he.o2, ↓ob a1, ↓ob t21, ↓ob i61, tf, t0, u1, u2, u3, ↓ob r81, ↓ob r21, he1.o2, ↓ob f1, he2.o2, ↓ob g1, h3.o5, ↓ob hv', ↓reduceIte]
              · have u3 : (nI (S b) = 3) = False := n_ne (b := 3) (by omega) (by omega) (by omega)
                have hsy := kb.2.2.2.2 s4
                obtain ⟨hp2, f1, f2, f3⟩ := e_turned hP hB he1 hw a2
                have he2 := he1.g f3
                have h2 := h1.gg f3
                have r22 := h2.r hb
                obtain ⟨hp3, g1, g2, g3⟩ := e_product hP hB he2 hw f2 (vb1.g f3)
                have he3 := he2.g g3
                have h3 := h2.gg g3
                obtain ⟨hp4, p1, p2, p3⟩ := e_product hP hB he3 hw g2 ((a2.g f3).g g3)
                have h4 := h3.gg p3
                refine ⟨_, fun j => by rw [if_neg (by omega)], ⟨sb, kb.2.1, by omega, by omega, fun _ => sym_con hsy⟩, con_nz hp0 (by omega) hinv nb.1, CO.kp hp0 hB hC (((a3.tr f3).tr g3).tr p3) sb (r := some (sz1 + 1 + 1)) (y := some _) ⟨sz1 + 1 + 1, rfl, by rw [hwd]; exact p2⟩ (fun v hv => ?_)⟩
                rcases v with ⟨v1, v2, v3⟩
                have hv' : f_X5_keep hp4 (sz1 + 1 + 1 + 1) o 4 (some (sz1 + 1 + 1)) = some (v1, v2, v3) := by rw [s4] at hv; exact hv
                unfold f_X5_apply
                simp only [↓ob l0, hC.o3, ↓ob w1, ↓ob w2, ↓Option.elim_some, ↓ob r8, he.o2, ↓ob a1, ↓ob t21, ↓ob i61, tf, t0, u1, u2, u3, ↓ob r81, he1.o2, ↓ob f1, ↓ob r22, he2.o2, ↓ob g1, he3.o2, ↓ob p1, h4.o5, ↓ob hv', ↓reduceIte]
            obtain ⟨y, y1, y2, y3, y4⟩ := hres
            obtain ⟨s', r', d', c1, c2⟩ := r_made hp0 hB hK hS hd sb (show vo d1 (wd d (S b)) y by rw [hwd]; exact vo_congr k2 (fun j _ => (y1 j).symm)) (by rw [hwd]; exact y3)
            refine ⟨_, ext_kp hp0 hI hle (fun _ => y2), y4, s', r', d', fr', o2, two, tu', ?_, c2⟩
            have q1 : (sorts b = (1 : Int32)) = False := by rw [hsb]; exact u1
            have q2 : (sorts b = (2 : Int32)) = False := by rw [hsb]; exact u2
            have k1' : m_squared (nI d) (lN P) rows draft one tu' (nI a) (nI b) (sorts b) = some (d1, o2) := by rw [hsb]; exact k1
            have c1' := (show m_made (nI d) (lN P) (nI c) sorts rows d1 (sorts b) = m_made (nI d) (lN P) (nI c) sorts rows d1 (nI (S b)) by rw [hsb]).trans c1
            unfold m_apply m_apply_J92
            simp only [↓ob i1', n10, ↓ob ob2, if_pos g60, cl, ↓ob b1, s0', q1, q2, ↓ob k1', ↓ob c1', ↓reduceIte]
    · have w2 := hC.itemX hx2
      have ob2 := r_objX hx2
      refine bad ?_ ?_
      · unfold f_X5_apply
        simp only [↓ob l0, hC.o3, ↓ob w1, ↓ob w2, ↓Option.elim_some, ↓Option.elim_none, ↓reduceIte]
      · unfold m_apply
        simp only [↓ob i1', n10, n00, ↓ob ob2, ↓reduceIte]
  · have w1 : f_X3_row hp (ad 0) x1 3 = some none := hC.rowQ (t := 3) (by omega) q
    have i1' : m_is (nI c) sorts x1 3 = some (nI 0) := i1
    have w2 : ∃ y, f_X3_item hp (ad 0) x2 = some y := by
      rcases ix_cl c hle x2 with ⟨b, hb, rfl⟩ | hx2
      · exact ⟨_, hC.item hb⟩
      · exact ⟨_, hC.itemX hx2⟩
    obtain ⟨y, w2⟩ := w2
    refine bad ?_ ?_
    · unfold f_X5_apply
      simp only [↓ob l0, hC.o3, ↓ob w1, ↓ob w2, ↓Option.elim_none, ↓reduceIte]
    · unfold m_apply
      simp only [↓ob i1', n00, ↓reduceIte]
end APPLY
