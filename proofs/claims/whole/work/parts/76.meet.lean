section MEET
variable {P : Nat} {d sz o : Nat} {hp : cH} {ad im rw : Nat → Nat} {c : Nat} {S : Nat → Nat} {R : Nat → Nat → Fin P} {H : Nat → Fin P} {g : Nat} {Gs : Nat → Nat} {m : Nat} {pA pB : Nat → Nat} {id : Int32}
theorem c_betw (hC : cS P d hp sz o ad im rw c S R H g Gs m pA pB id) {a : Nat} (ha : a < c) : f_X5_isBetweenLineAndFlat hp o (im a) = some (nI (if 1 ≤ S a ∧ S a ≤ d - 1 then 1 else 0)) := by
  have t1 := hC.t ha
  have i6 := hC.i6
  have s5 := hC.s5 ha
  have hd := hC.hd
  unfold f_X5_isBetweenLineAndFlat
  by_cases e1 : 1 ≤ S a
  · have l1 : ¬ nI (S a) < (1 : Int32) := nI_nlt (b := 1) e1 (by omega)
    by_cases e2 : S a ≤ d - 1
    · have l2 : ¬ nI (d - 1) < nI (S a) := nI_nlt e2 (by omega)
      rw [if_pos ⟨e1, e2⟩]
      simp only [↓ob t1, ↓ob i6, l1, l2, ↓reduceIte]
      rfl
    · have l2 : nI (d - 1) < nI (S a) := nI_lt (by omega) (by omega)
      rw [if_neg (fun q => e2 q.2)]
      simp only [↓ob t1, ↓ob i6, l1, l2, ↓reduceIte]
      rfl
  · have l1 : nI (S a) < (1 : Int32) := nI_lt (b := 1) (by omega) (by omega)
    rw [if_neg (fun q => e1 q.1)]
    simp only [↓ob t1, l1, ↓reduceIte]
    rfl
theorem st_meet (hp0 : isP P) (ho : P % 2 = 1) [NeZero P] (hB : P < 2 ^ 31) (hI : shf d c S R) (hC : cS P d hp sz o ad im rw c S R H g Gs m pA pB id) {sorts : Nat → Int32} {rows : Nat → Int64} (hS : sK sorts S c) (hK : rK c rows R) (draft frame one two turned : Nat → Int64) (x1 x2 : Int32) : ∃ K, ext d c S R K ∧ CO P d hp sz o ad K H g Gs m pA pB id (f_X5_meet hp sz o x1 x2) ∧ ∃ s' r' d' f' o' t' u', m_meet (nI d) (lN P) (nI c) sorts rows draft frame one two turned x1 x2 = some (K.1, nI K.2.1, s', r', d', f', o', t', u') ∧ RO s' r' K := by
  have hP := hp0.1
  have hle := hC.le
  have hd := hC.hd
  have hw := hC.hw
  have he := hC.e
  have l0 := hC.r0
  have r9 := hC.r9
  have i5 := hC.i5
  have i6 := hC.i6
  have h5 : ∀ a, a < c → S a < 5 := fun a ha => hC.s5 ha
  have ng1 : ¬ (0 : Int32) ≤ -1 := by decide
  have ng2 : ¬ (0 : Int32) ≤ -2 := by decide
  have ps0 : (0 : Int32) ≤ nI 0 := by decide
  have ps1 : (0 : Int32) ≤ nI 1 := by decide
  have bad : (f_X5_meet hp sz o x1 x2 = some (-2, hp, sz)) → m_both (nI d) (lN P) (nI c) sorts rows draft frame one two turned x1 x2 = some (-2, draft, frame, one, two, turned) → ∃ K, ext d c S R K ∧ CO P d hp sz o ad K H g Gs m pA pB id (f_X5_meet hp sz o x1 x2) ∧ ∃ s' r' d' f' o' t' u', m_meet (nI d) (lN P) (nI c) sorts rows draft frame one two turned x1 x2 = some (K.1, nI K.2.1, s', r', d', f', o', t', u') ∧ RO s' r' K := fun q1 q2 => ⟨(-2, c, S, R), ext_id hI hle _, CO.same hC gro.rf q1, sorts, rows, draft, frame, one, two, turned, by
    unfold m_meet
    simp only [↓ob q2, ng2, ↓reduceIte], hS, hK⟩
  rcases ix_cl c hle x1 with ⟨a, ha, rfl⟩ | hx1
  · rcases ix_cl c hle x2 with ⟨b, hb, rfl⟩ | hx2
    · have lw := hC.lower ha hb
      have hg := hC.higher ha hb
      have na := (hI.1 a ha).1
      have nb := (hI.1 b hb).1
      have ka := (hI.1 a ha).2
      have kb := (hI.1 b hb).2
      by_cases hab : (1 ≤ S a ∧ S a ≤ d - 1) ∧ (1 ≤ S b ∧ S b ≤ d - 1)
      · obtain ⟨qa, qb⟩ := hab
        have ba := c_betw hC ha
        have bb := c_betw hC hb
        rw [if_pos qa] at ba
        rw [if_pos qb] at bb
        by_cases hff : S a = d - 1 ∧ S b = d - 1
        · obtain ⟨fa1, fb1⟩ := hff
          have va := hC.v ha
          have vb := hC.v hb
          rw [fa1, wdf hd] at va na
          rw [fb1, wdf hd] at vb nb
          rw [fa1, fb1, if_neg (by omega)] at lw hg
          have ta := hC.t ha
          rw [fa1] at ta
          have ra := hC.r ha
          have rb := hC.r hb
          obtain ⟨q, hp1, sz1, a1, a2, a3⟩ := e_crossing hP hB he hw va vb
          have h1 := hC.gg a3
          have wdd : wd d (d - 2) = swi (d + 1) (d + 1) := by rcases hd with rfl | rfl <;> rfl
          have hcl := CO.kp (res := f_X5_meet hp sz o (nI a) (nI b)) hp0 hB hC a3 (show d - 2 < 5 by omega) (r := some q) (y := some (flF (swi (d + 1) (d + 1)) (wgF (d + 1) (R a) (R b)))) ⟨q, rfl, by rw [wdd]; exact a2⟩ (fun v hv => by
            rcases v with ⟨v1, v2, v3⟩
            unfold f_X5_meet
            rcases hd with rfl | rfl
            · have hv' : f_X5_keep hp1 sz1 o 0 (some q) = some (v1, v2, v3) := hv
              simp only [↓ob l0, hC.o3, ↓ob lw, ↓ob hg, ↓Option.elim_some, hC.o5, ↓ob ba, ↓ob bb, n10, ↓ob ta, ↓ob i6, ↓ob i5, d22, ↓ob r9, ↓ob ra, ↓ob rb, he.o4, ↓ob a1, h1.o5, ↓ob hv', ↓reduceIte]
            · have hv' : f_X5_keep hp1 sz1 o 1 (some q) = some (v1, v2, v3) := hv
              simp only [↓ob l0, hC.o3, ↓ob lw, ↓ob hg, ↓Option.elim_some, hC.o5, ↓ob ba, ↓ob bb, n10, ↓ob ta, ↓ob i6, ↓ob i5, d23, ↓ob r9, ↓ob ra, ↓ob rb, he.o4, ↓ob a1, h1.o5, ↓ob hv', ↓reduceIte])
          obtain ⟨dr, o1, t1, e1, e2⟩ := rb_flat hp0 hB hd hS hK ha hb fa1 fb1 draft frame one two turned
          have pl : d - 2 = 1 → d = 3 → plu (flF (swi (d + 1) (d + 1)) (wgF (d + 1) (R a) (R b))) := fun _ q => by
            subst q
            exact plu_fl (plu_wg _ _)
          refine ⟨_, ext_kp hp0 hI hle (fun _ => ⟨by omega, by omega, pl, by omega, by omega⟩), hcl, ?_⟩
          have hn36 : swi (d + 1) (d + 1) = 3 ∨ swi (d + 1) (d + 1) = 6 := by rcases hd with rfl | rfl; exact Or.inl rfl; exact Or.inr rfl
          by_cases eab : a = b
          · subst eab
            rw [if_pos rfl] at e2
            rw [kp_0 (fun j hj => ?_)]
            · refine ⟨sorts, rows, dr, frame, o1, t1, turned, ?_, hS, hK⟩
              unfold m_meet
              simp only [↓ob e2, ng1, ↓reduceIte]
            · unfold flF
              rw [wg_same]
              by_cases z : j % 3 = 1
              · rw [if_pos z]
                grind
              · rw [if_neg z]
          · rw [if_neg eab] at e2
            have hdiff : ¬ ∀ j, j < d + 1 → R a j = R b j := fun q => eab (hI.2 a b ha hb (by rw [fa1, fb1]) (by rw [fa1, wdf hd]; exact q))
            have hnz : ldV (flF (swi (d + 1) (d + 1)) (wgF (d + 1) (R a) (R b))) (swi (d + 1) (d + 1)) < swi (d + 1) (d + 1) := by
              refine fl_nz hn36 ?_
              rcases Nat.lt_or_ge (ldV (wgF (d + 1) (R a) (R b)) (swi (d + 1) (d + 1))) (swi (d + 1) (d + 1)) with z | z
              · exact z
              · have := ldV_le (wgF (d + 1) (R a) (R b)) (swi (d + 1) (d + 1))
                exact absurd (wg_eq hp0 hw na nb (ldV_eq.mp (by omega))) hdiff
            obtain ⟨s', r', d', c1, c2⟩ := r_made hp0 hB hK hS hd (show d - 2 < 5 by omega) e1 (by rw [wdd]; exact hnz)
            refine ⟨s', r', d', frame, o1, t1, turned, ?_, c2⟩
            have psd : (0 : Int32) ≤ nI (d - 2) := by rcases hd with rfl | rfl <;> decide
            unfold m_meet
            simp only [↓ob e2, psd, ↓ob c1, ↓reduceIte]
        · have hd3 : d = 3 := by omega
          subst hd3
          by_cases hll : S a = 1 ∧ S b = 1
          · obtain ⟨sa, sb⟩ := hll
            have va := hC.v ha
            have vb := hC.v hb
            have ta := hC.t ha
            have tb := hC.t hb
            have ra := hC.r ha
            have rb := hC.r hb
            rw [sa] at va na ta
            rw [sb] at vb nb tb
            rw [sa, sb, if_neg (by omega)] at lw hg
            have n12 : (nI 1 = nI 2) = False := n_ne (by omega) (by omega) (by omega)
            have n12' : (nI 1 = (2 : Int32)) = False := n12
            have nb6 : nrm 6 (R b) := nb
            have i6' : gI hp o 5 6 = some (nI 2) := i6
            obtain ⟨q, hp1, sz1, a1, a2, a3⟩ := e_pointOfLines hP hB he (A := R a) (B := R b) va vb (fl_nz (Or.inr rfl) nb6.1)
            have h1 := hC.gg a3
            have hcl := CO.kp (res := f_X5_meet hp sz o (nI a) (nI b)) hp0 hB hC a3 (show 0 < 5 by omega) (r := q) (y := ptF (R a) (R b)) a2 (fun v hv => by
              rcases v with ⟨v1, v2, v3⟩
              have hv' : f_X5_keep hp1 sz1 o 0 q = some (v1, v2, v3) := hv
              unfold f_X5_meet
              simp only [↓ob l0, hC.o3, ↓ob lw, ↓ob hg, ↓Option.elim_some, hC.o5, ↓ob ba, ↓ob bb, n10, ↓ob ta, ↓ob tb, ↓ob i6', n12, n12', ↓ob r9, ↓ob ra, ↓ob rb, he.o4, ↓ob a1, h1.o5, ↓ob hv', ↓reduceIte])
            obtain ⟨g1, g2⟩ := rb_lines hp0 hB hI hS hK ha hb sa sb draft frame one two turned
            by_cases hq : a = b ∨ crF 6 (R a) (R b) ≠ 0
            · have e2 := g1 hq
              have hpt : ptF (R a) (R b) = none := by
                by_cases hc0 : crF 6 (R a) (R b) = 0
                · have hab : a = b := by rcases hq with z | z; exact z; exact absurd hc0 z
                  subst hab
                  have pla := ka.2.2.1 sa rfl
                  have hfn := fl_nz (Or.inr rfl) nb6.1
                  have z : ∀ r, ¬ ldV (sxF 4 (R a) (bwF 4 (flF 6 (R a)) r)) 4 < 4 := fun r => ld_z (fun j hj => by
                    rw [← sx_cgL (fun k hk => fl_fl (R a) hk) hj, sx_sp (flF 6 (R a)) _ hj]
                    exact on_self (plu_fl pla) r hj)
                  unfold ptF
                  rw [if_pos hc0, if_neg (z 0), if_neg (z 1)]
                · unfold ptF
                  rw [if_neg hc0]
              rw [hpt] at hcl
              refine ⟨(-1, c, S, R), ext_id hI hle _, hcl, sorts, rows, draft, frame, one, two, turned, ?_, hS, hK⟩
              unfold m_meet
              simp only [↓ob e2, ng1, ↓reduceIte]
            · obtain ⟨x, l, y, x1, y1, l1, l2, dr, fr, o1, t1, u1, e1, e2⟩ := g2 ⟨fun z => hq (Or.inl z), Classical.byContradiction (fun z => hq (Or.inr z))⟩
              rw [y1, kp_mul (W := wd 3 0) hp0 l1 l2] at hcl
              obtain ⟨s', r', d', c1, c2⟩ := r_made hp0 hB hK hS (Or.inr rfl) (show 0 < 5 by omega) (show vo dr (wd 3 0) x from e1) x1
              refine ⟨_, ext_kp hp0 hI hle (fun _ => ⟨by omega, by omega, by omega, by omega, by omega⟩), hcl, s', r', d', fr, o1, t1, u1, ?_, c2⟩
              unfold m_meet
              simp only [↓ob e2, ps0, ↓ob c1, ↓reduceIte]
          · have gen : ∀ x y, x < c → y < c → ((x = a ∧ y = b) ∨ (x = b ∧ y = a)) → S x = 1 → S y = 2 → f_X3_lower hp (ad 0) (nI a) (nI b) = some (some (im x)) → f_X3_higher hp (ad 0) (nI a) (nI b) = some (some (im y)) → f_X5_isBetweenLineAndFlat hp o (im x) = some (nI 1) → f_X5_isBetweenLineAndFlat hp o (im y) = some (nI 1) → ∃ K, ext 3 c S R K ∧ CO P 3 hp sz o ad (K) H g Gs m pA pB id (f_X5_meet hp sz o (nI a) (nI b)) ∧ ∃ s' r' d' f' o' t' u', m_meet (nI 3) (lN P) (nI c) sorts rows draft frame one two turned (nI a) (nI b) = some (K.1, nI K.2.1, s', r', d', f', o', t', u') ∧ RO s' r' K := by
              intro x y hx hy hxy sx sy lw hg bx by'
              have vx := hC.v hx
              have vy := hC.v hy
              have tx := hC.t hx
              have ty := hC.t hy
              have rx := hC.r hx
              have ry := hC.r hy
              rw [sx] at vx tx
              rw [sy] at vy ty
              have n12 : (nI 1 = nI 2) = False := n_ne (by omega) (by omega) (by omega)
              have i6' : gI hp o 5 6 = some (nI 2) := i6
              obtain ⟨q, hp1, sz1, a1, a2, a3⟩ := e_pointOnPlane hP hB he hw (L := R x) (x := R y) vx vy
              have h1 := hC.gg a3
              have hcl := CO.kp (res := f_X5_meet hp sz o (nI a) (nI b)) hp0 hB hC a3 (show 0 < 5 by omega) (r := some q) (y := some (sxF 4 (R x) (R y))) ⟨q, rfl, a2⟩ (fun v hv => by
                rcases v with ⟨v1, v2, v3⟩
                have hv' : f_X5_keep hp1 sz1 o 0 (some q) = some (v1, v2, v3) := hv
                unfold f_X5_meet
                simp only [↓ob l0, hC.o3, ↓ob lw, ↓ob hg, ↓Option.elim_some, hC.o5, ↓ob bx, ↓ob by', n10, ↓ob tx, ↓ob ty, ↓ob i6', n12, d22, ↓ob r9, ↓ob rx, ↓ob ry, he.o4, ↓ob a1, h1.o5, ↓ob hv', ↓reduceIte])
              obtain ⟨dr, e1, e2⟩ := rb_lp hp0 hB hS hK ha hb hxy sx sy draft frame one two turned
              refine ⟨_, ext_kp hp0 hI hle (fun _ => ⟨by omega, by omega, by omega, by omega, by omega⟩), hcl, ?_⟩
              by_cases e : ldV (sxF 4 (R x) (R y)) 4 < 4
              · rw [if_pos e] at e2
                obtain ⟨s', r', d', c1, c2⟩ := r_made hp0 hB hK hS (Or.inr rfl) (show 0 < 5 by omega) (show vo dr (wd 3 0) _ from e1) e
                refine ⟨s', r', d', frame, one, two, turned, ?_, c2⟩
                unfold m_meet
                simp only [↓ob e2, ps0, ↓ob c1, ↓reduceIte]
              · rw [if_neg e] at e2
                have hl := ldV_le (sxF 4 (R x) (R y)) 4
                rw [kp_0 (W := wd 3 0) (ldV_eq.mp (show ldV (sxF 4 (R x) (R y)) (wd 3 0) = wd 3 0 by show ldV (sxF 4 (R x) (R y)) 4 = 4; omega))]
                refine ⟨sorts, rows, dr, frame, one, two, turned, ?_, hS, hK⟩
                unfold m_meet
                simp only [↓ob e2, ng1, ↓reduceIte]
            by_cases sa : S a = 1
            · have sb : S b = 2 := by omega
              rw [sa, sb, if_neg (by omega)] at lw hg
              exact gen a b ha hb (Or.inl ⟨rfl, rfl⟩) sa sb lw hg ba bb
            · have sa2 : S a = 2 := by omega
              have sb : S b = 1 := by omega
              rw [sa2, sb, if_pos (by omega)] at lw hg
              exact gen b a hb ha (Or.inr ⟨rfl, rfl⟩) sb sa2 lw hg bb ba
      · obtain ⟨a1, a2, ia1, ia2, oa1, oa2, xa, ea1, ea2⟩ := is01 h5 hle hS (nI a) (s := 1) (t := 2) (by omega) (by omega) (by omega)
        obtain ⟨b1, b2, ib1, ib2, ob1, ob2, xb, eb1, eb2⟩ := is01 h5 hle hS (nI b) (s := 1) (t := 2) (by omega) (by omega) (by omega)
        have inj : ∀ u v, u < c → v < c → nI u = nI v → u = v := fun u v hu hv q => (nI_eq (by omega) (by omega)).mp q
        have na1 : S a ≠ 1 → a1 = 0 := fun q => ea1 (fun k hk e => by rw [← inj a k ha hk e]; exact q)
        have na2 : S a ≠ 2 → a2 = 0 := fun q => ea2 (fun k hk e => by rw [← inj a k ha hk e]; exact q)
        have nb1 : S b ≠ 1 → b1 = 0 := fun q => eb1 (fun k hk e => by rw [← inj b k hb hk e]; exact q)
        have nb2 : S b ≠ 2 → b2 = 0 := fun q => eb2 (fun k hk e => by rw [← inj b k hb hk e]; exact q)
        refine bad ?_ (rb_bad hd ia1 ia2 ib1 ib2 oa1 oa2 ob1 ob2 xa xb (fun q => ?_) (fun q => ?_))
        · generalize hxx : (if S b < S a then b else a) = x at lw
          generalize hyy : (if S b < S a then a else b) = y at hg
          have hxc : x < c := by rw [← hxx]; split <;> assumption
          have hyc : y < c := by rw [← hyy]; split <;> assumption
          have bx := c_betw hC hxc
          have by' := c_betw hC hyc
          have hxy : ¬ ((1 ≤ S x ∧ S x ≤ d - 1) ∧ (1 ≤ S y ∧ S y ≤ d - 1)) := by
            intro z
            apply hab
            by_cases q : S b < S a
            · rw [if_pos q] at hxx hyy
              subst hxx
              subst hyy
              exact ⟨z.2, z.1⟩
            · rw [if_neg q] at hxx hyy
              subst hxx
              subst hyy
              exact z
          unfold f_X5_meet
          by_cases z : 1 ≤ S x ∧ S x ≤ d - 1
          · rw [if_pos z] at bx
            rw [if_neg (fun z2 => hxy ⟨z, z2⟩)] at by'
            simp only [↓ob l0, hC.o3, ↓ob lw, ↓ob hg, ↓Option.elim_some, hC.o5, ↓ob bx, ↓ob by', n10, n00, ↓reduceIte]
          · rw [if_neg z] at bx
            simp only [↓ob l0, hC.o3, ↓ob lw, ↓ob hg, ↓Option.elim_some, hC.o5, ↓ob bx, n00, ↓reduceIte]
        · rintro ⟨z1, z2⟩
          have w1 : S a = 1 := Classical.byContradiction (fun w => by have := na1 w; omega)
          have w2 : S b = 1 := Classical.byContradiction (fun w => by have := nb1 w; omega)
          omega
        · rintro ⟨z1, z2⟩
          have w1 : S a = 1 ∨ S a = 2 := Classical.byContradiction (fun w => by have := na1 (by omega); have := na2 (by omega); omega)
          have w2 : S b = 1 ∨ S b = 2 := Classical.byContradiction (fun w => by have := nb1 (by omega); have := nb2 (by omega); omega)
          omega
    · obtain ⟨a1, a2, ia1, ia2, oa1, oa2, xa, -, -⟩ := is01 h5 hle hS (nI a) (s := 1) (t := 2) (by omega) (by omega) (by omega)
      have ib1 := r_isX (sorts := sorts) hx2 1
      have ib2 := r_isX (sorts := sorts) hx2 2
      obtain ⟨x, y, h1, h2, h3⟩ := hC.lowX (Or.inr hx2 : (nI a < 0 ∨ nI c ≤ nI a) ∨ (x2 < 0 ∨ nI c ≤ x2))
      refine bad ?_ (rb_bad hd ia1 ia2 ib1 ib2 oa1 oa2 (Or.inl rfl) (Or.inl rfl) xa (Or.inl rfl) (by omega) (by omega))
      unfold f_X5_meet
      cases x with
      | none => simp only [↓ob l0, hC.o3, ↓ob h1, ↓ob h2, ↓Option.elim_none, ↓reduceIte]
      | some x =>
        have h4 : y = none := by rcases h3 with q | q; cases q; exact q
        subst h4
        simp only [↓ob l0, hC.o3, ↓ob h1, ↓ob h2, ↓Option.elim_none, ↓Option.elim_some, ↓reduceIte]
  · obtain ⟨b1, b2, ib1, ib2, ob1, ob2, xb, -, -⟩ := is01 h5 hle hS x2 (s := 1) (t := 2) (by omega) (by omega) (by omega)
    have ia1 := r_isX (sorts := sorts) hx1 1
    have ia2 := r_isX (sorts := sorts) hx1 2
    obtain ⟨x, y, h1, h2, h3⟩ := hC.lowX (Or.inl hx1 : (x1 < 0 ∨ nI c ≤ x1) ∨ (x2 < 0 ∨ nI c ≤ x2))
    refine bad ?_ (rb_bad hd ia1 ia2 ib1 ib2 (Or.inl rfl) (Or.inl rfl) ob1 ob2 (Or.inl rfl) xb (by omega) (by omega))
    unfold f_X5_meet
    cases x with
    | none => simp only [↓ob l0, hC.o3, ↓ob h1, ↓ob h2, ↓Option.elim_none, ↓reduceIte]
    | some x =>
      have h4 : y = none := by rcases h3 with q | q; cases q; exact q
      subst h4
      simp only [↓ob l0, hC.o3, ↓ob h1, ↓ob h2, ↓Option.elim_none, ↓Option.elim_some, ↓reduceIte]
end MEET
