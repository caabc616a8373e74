section PAR
variable {P : Nat} {d sz o : Nat} {hp : cH} {ad im rw : Nat → Nat} {c : Nat} {S : Nat → Nat} {R : Nat → Nat → Fin P} {H : Nat → Fin P} {g : Nat} {Gs : Nat → Nat} {m : Nat} {pA pB : Nat → Nat} {id : Int32}
theorem r_parB (hd : d = 2 ∨ d = 3) {sorts : Nat → Int32} {rows draft frame one two turned : Nat → Int64} {p : Int64} {x1 x2 ideal : Int32} {a1 a2 b1 b2 : Nat} (ia1 : m_is (nI c) sorts x1 1 = some (nI a1)) (ia2 : m_is (nI c) sorts x1 2 = some (nI a2)) (ib1 : m_is (nI c) sorts x2 1 = some (nI b1)) (ib2 : m_is (nI c) sorts x2 2 = some (nI b2)) (ha1 : a1 = 0 ∨ a1 = 1) (ha2 : a2 = 0 ∨ a2 = 1) (hb1 : b1 = 0 ∨ b1 = 1) (hb2 : b2 = 0 ∨ b2 = 1) (hna : a1 = 0 ∨ a2 = 0) (hnb : b1 = 0 ∨ b2 = 0) (h2 : d = 2 → a2 = 0 ∧ b2 = 0 ∧ ¬ (a1 = 1 ∧ b1 = 1)) (h3 : d = 3 → ¬ ((a1 = 1 ∨ a2 = 1) ∧ (b1 = 1 ∨ b2 = 1))) : m_parallel (nI d) p (nI c) sorts rows ideal draft frame one two turned x1 x2 = some (-2, draft, frame, one, two, turned) := by
  unfold m_parallel m_parallel_J22 m_parallel_J50 m_parallel_J68 m_parallel_J72
  rcases hd with rfl | rfl <;> rcases ha1 with rfl | rfl <;> rcases ha2 with rfl | rfl <;> rcases hb1 with rfl | rfl <;> rcases hb2 with rfl | rfl <;> first | omega | (exfalso; have := h2 rfl; omega) | (exfalso; exact h3 rfl (by omega)) | simp only [↓ob ia1, ↓ob ia2, ↓ob ib1, ↓ob ib2, n00, n10, d32, d33, z10, z01, ↓reduceIte]
theorem r_parJ (hd : d = 2 ∨ d = 3) {sorts : Nat → Int32} {rows draft frame one two turned : Nat → Int64} {p : Int64} {x1 x2 ideal : Int32} {a1 a2 b1 b2 : Nat} (ia1 : m_is (nI c) sorts x1 1 = some (nI a1)) (ia2 : m_is (nI c) sorts x1 2 = some (nI a2)) (ib1 : m_is (nI c) sorts x2 1 = some (nI b1)) (ib2 : m_is (nI c) sorts x2 2 = some (nI b2)) (ha1 : a1 = 0 ∨ a1 = 1) (ha2 : a2 = 0 ∨ a2 = 1) (hb1 : b1 = 0 ∨ b1 = 1) (hb2 : b2 = 0 ∨ b2 = 1) (hna : a1 = 0 ∨ a2 = 0) (hnb : b1 = 0 ∨ b2 = 0) (h2 : d = 2 → a1 = 1 ∧ b1 = 1) (h3 : (a1 = 1 ∨ a2 = 1) ∧ (b1 = 1 ∨ b2 = 1)) {l3 : Int32} (hl : l3 = if a1 = 1 ∧ b1 = 1 then 1 else 0) : m_parallel (nI d) p (nI c) sorts rows ideal draft frame one two turned x1 x2 = m_parallel_J105 (nI d) p (nI c) sorts rows ideal draft frame one two turned x1 x2 l3 := by
  subst hl
  unfold m_parallel m_parallel_J22 m_parallel_J50 m_parallel_J68 m_parallel_J72
  rcases hd with rfl | rfl <;> rcases ha1 with rfl | rfl <;> rcases ha2 with rfl | rfl <;> rcases hb1 with rfl | rfl <;> rcases hb2 with rfl | rfl <;> first | omega | (exfalso; have := h2 rfl; omega) | simp [ia1, ia2, ib1, ib2, n00, n10, d32, d33]
/-- whether an object lies far: both -/
theorem far_both (hp0 : isP P) (ho : P % 2 = 1) [NeZero P] (hB : P < 2 ^ 31) (hI : shf d c S R) (hC : cS P d hp sz o ad im rw c S R H g Gs m pA pB id) {sorts : Nat → Int32} {rows : Nat → Int64} (hS : sK sorts S c) (hK : rK c rows R) {x e : Nat} (hx : x < c) (he' : e < c) (sx : 1 ≤ S x ∧ S x ≤ d - 1) (se : S e = d - 1) (draft one two : Nat → Int64) {hp1 : cH} {sz1 : Nat} (hg : gro hp sz hp1 sz1) : ∃ (v : Nat) (hp' : cH) (sz' : Nat) (dr o1 : Nat → Int64), (v = 0 ∨ v = 1) ∧ (v = if x = e ∨ (S x ≠ d - 1 ∧ ldV (sxF 4 (R x) (R e)) 4 = 4) then 1 else 0) ∧ f_X5_liesFar hp1 sz1 o (im x) (rw e) = some (nI v, hp', sz') ∧ gro hp1 sz1 hp' sz' ∧ m_isFar (nI d) (lN P) sorts rows (nI e) draft one two (nI x) = some (nI v, dr, o1) := by
  have hP := hp0.1
  have hle := hC.le
  have hd := hC.hd
  have hw := hC.hw
  have h1 := hC.gg hg
  have he := h1.e
  have r9 := h1.r9
  have i6 := h1.i6
  have tx := h1.t hx
  have rx := h1.r hx
  have vx := h1.v hx
  have ve := h1.v he'
  rw [se, wdf hd] at ve
  have gx := gi_nI (show x < 60 by omega) (show 60 < 2 ^ 31 by omega)
  have cx := nI_clamp (show x < 2 ^ 31 by omega)
  have hsx := (hS x hx).1
  by_cases sf : S x = d - 1
  · have tf : (nI (S x) = nI (d - 1)) = True := by rw [sf]; simp
    rw [sf, wdf hd] at vx
    obtain ⟨q1, q2⟩ := t_isSame hB vx.1 ve.1 (by omega)
    by_cases exe : x = e
    · subst exe
      have q3 := q1 (fun j _ => rfl)
      refine ⟨1, hp1, sz1, draft, one, Or.inr rfl, (if_pos (Or.inl rfl)).symm, ?_, gro.rf, ?_⟩
      · unfold f_X5_liesFar
        simp only [↓ob tx, ↓ob i6, tf, ↓ob rx, ↓ob q3, ↓reduceIte]
        rfl
      · unfold m_isFar
        simp only [↓reduceIte]
        rfl
    · have hdiff : ¬ ∀ j, j < d + 1 → R x j = R e j := fun q => exe (hI.2 x e hx he' (by rw [sf, se]) (by rw [sf, wdf hd]; exact q))
      have q3 := q2 hdiff
      have hne : (nI x = nI e) = False := n_ne exe (by omega) (by omega)
      refine ⟨0, hp1, sz1, draft, one, Or.inl rfl, (if_neg (fun q => by rcases q with q | q; exact exe q; exact q.1 sf)).symm, ?_, gro.rf, ?_⟩
      · unfold f_X5_liesFar
        simp only [↓ob tx, ↓ob i6, tf, ↓ob rx, ↓ob q3, ↓reduceIte]
        rfl
      · unfold m_isFar
        rcases hd with rfl | rfl
        · simp only [hne, d32, ↓reduceIte]
          rfl
        · have q1 : (sorts x = (1 : Int32)) = False := by rw [hsx]; exact n_ne (b := 1) (by omega) (by omega) (by omega)
          simp only [hne, d33, if_pos gx, cx, q1, ↓reduceIte]
          rfl
  · have tf : (nI (S x) = nI (d - 1)) = False := n_ne sf (by omega) (by omega)
    have hd3 : d = 3 := by omega
    subst hd3
    have s1 : S x = 1 := by omega
    have exe : x ≠ e := fun q => by rw [q] at s1; omega
    have hne : (nI x = nI e) = False := n_ne exe (by omega) (by omega)
    rw [s1] at vx
    obtain ⟨hp2, sz2, a1, a3⟩ := e_lineIsOnPlane hP hB he hw (show vA hp1 sz1 (rw x) (swi 4 4) (R x) from vx) ve
    have a1' : f_X4_lineIsOnPlane hp1 sz1 (ad 9) (rw x) (rw e) = some (nI (if ldV (sxF 4 (R x) (R e)) 4 = 4 then 1 else 0), hp2, sz2) := a1
    obtain ⟨dr, hr⟩ := r_onLP hp0 hB hS hK hx he' s1 se draft one two
    have q1 : (sorts x = (1 : Int32)) = True := by rw [hsx, s1]; simp; rfl
    by_cases z : ldV (sxF 4 (R x) (R e)) 4 = 4
    · rw [if_pos z] at a1' hr
      refine ⟨1, hp2, sz2, dr, one, Or.inr rfl, (if_pos (Or.inr ⟨sf, z⟩)).symm, ?_, a3, ?_⟩
      · unfold f_X5_liesFar
        simp only [↓ob tx, ↓ob i6, tf, ↓ob r9, ↓ob rx, he.o4, ↓ob a1', ↓reduceIte]
        rfl
      · unfold m_isFar
        simp only [hne, d33, if_pos gx, cx, q1, ↓ob hr, n11, ↓reduceIte]
        rfl
    · rw [if_neg z] at a1' hr
      refine ⟨0, hp2, sz2, dr, one, Or.inl rfl, (if_neg (fun q => by rcases q with q | q; exact exe q; exact z q.2)).symm, ?_, a3, ?_⟩
      · unfold f_X5_liesFar
        simp only [↓ob tx, ↓ob i6, tf, ↓ob r9, ↓ob rx, he.o4, ↓ob a1', ↓reduceIte]
        rfl
      · unfold m_isFar
        simp only [hne, d33, if_pos gx, cx, q1, ↓ob hr, n01, ↓reduceIte]
        rfl
theorem st_middle (hp0 : isP P) (ho : P % 2 = 1) [NeZero P] (hB : P < 2 ^ 31) (hI : shf d c S R) (hC : cS P d hp sz o ad im rw c S R H g Gs m pA pB id) {sorts : Nat → Int32} {rows : Nat → Int64} (hS : sK sorts S c) (hK : rK c rows R) (hid : id = -1 ∨ ∃ e, e < c ∧ id = nI e ∧ S e = d - 1) (draft : Nat → Int64) (x1 x2 : Int32) : ∃ K, ext d c S R K ∧ CO P d hp sz o ad K H g Gs m pA pB id (f_X5_middle hp sz o x1 x2) ∧ ∃ s' r' d', m_middle (nI d) (lN P) (nI c) sorts rows id draft x1 x2 = some (K.1, nI K.2.1, s', r', d') ∧ RO s' r' K := by
  have hP := hp0.1
  have hle := hC.le
  have hd := hC.hd
  have hw := hC.hw
  have he := hC.e
  have l0 := hC.r0
  have r8 := hC.r8
  have i6 := hC.i6
  have i12 := hC.i12
  have h5 : ∀ a, a < c → S a < 5 := fun a ha => hC.s5 ha
  have same : ∀ v, f_X5_middle hp sz o x1 x2 = some (v, hp, sz) → m_middle (nI d) (lN P) (nI c) sorts rows id draft x1 x2 = some (v, nI c, sorts, rows, draft) → ∃ K, ext d c S R K ∧ CO P d hp sz o ad K H g Gs m pA pB id (f_X5_middle hp sz o x1 x2) ∧ ∃ s' r' d', m_middle (nI d) (lN P) (nI c) sorts rows id draft x1 x2 = some (K.1, nI K.2.1, s', r', d') ∧ RO s' r' K := fun v q1 q2 => ⟨(v, c, S, R), ext_id hI hle _, CO.same hC gro.rf q1, sorts, rows, draft, q2, hS, hK⟩
  have any : ∀ x : Int32, ∃ y, f_X3_row hp (ad 0) x 0 = some y := fun x => by
    rcases sortX h5 hle hS x (show 0 < 5 by omega) with ⟨a, ha, rfl, e, -⟩ | ⟨q, -⟩
    · exact ⟨_, hC.row (t := 0) ha e⟩
    · exact ⟨_, hC.rowQ (t := 0) (by omega) q⟩
  rcases sortX h5 hle hS x1 (show 0 < 5 by omega) with ⟨a, ha, rfl, sa, i1⟩ | ⟨q, i1⟩
  · have w1 : f_X3_row hp (ad 0) (nI a) 0 = some (some (rw a)) := hC.row (t := 0) ha sa
    have i1' : m_is (nI c) sorts (nI a) 0 = some (nI 1) := i1
    rcases sortX h5 hle hS x2 (show 0 < 5 by omega) with ⟨b, hb, rfl, sb, i2⟩ | ⟨q, i2⟩
    · have w2 : f_X3_row hp (ad 0) (nI b) 0 = some (some (rw b)) := hC.row (t := 0) hb sb
      have i2' : m_is (nI c) sorts (nI b) 0 = some (nI 1) := i2
      rcases hid with hid | ⟨e, he', hid, se⟩
      · subst hid
        have wf : f_X3_row hp (ad 0) (-1) (nI (d - 1)) = some none := hC.rowX (Or.inl (by decide)) _
        refine same (-1) ?_ ?_
        · unfold f_X5_middle
          simp only [↓ob l0, hC.o3, ↓ob w1, ↓ob w2, ↓Option.elim_some, ↓ob i12, ↓ob i6, ↓ob wf, ↓Option.elim_none, ↓reduceIte]
        · unfold m_middle
          by_cases q : nI a = nI b
          · simp only [↓ob i1', ↓ob i2', n10, q, ↓reduceIte]
          · simp only [↓ob i1', ↓ob i2', n10, q, ↓reduceIte]
      · subst hid
        have wf : f_X3_row hp (ad 0) (nI e) (nI (d - 1)) = some (some (rw e)) := hC.row he' se
        have nid : ¬ nI e = (-1 : Int32) := nm1 (by omega)
        by_cases hab : a = b
        · subst hab
          refine same (-1) ?_ ?_
          · unfold f_X5_middle
            simp only [↓ob l0, hC.o3, ↓ob w1, ↓ob w2, ↓Option.elim_some, ↓ob i12, ↓ob i6, ↓ob wf, ↓reduceIte]
          · unfold m_middle
            simp only [↓ob i1', n10, ↓reduceIte]
        · have hne : (nI a = nI b) = False := n_ne hab (by omega) (by omega)
          have va := hC.v ha
          have vb := hC.v hb
          have ve := hC.v he'
          rw [sa] at va
          rw [sb] at vb
          rw [se, wdf hd] at ve
          have da := e_dot hP hB he (n := d + 1) (by omega) ve va
          have db := e_dot hP hB he (n := d + 1) (by omega) ve vb
          have ea := s_dot hP hB hK ha he' (show d < 8 by omega)
          have eb := s_dot hP hB hK hb he' (show d < 8 by omega)
          have cm : ∀ y : Nat → Fin P, sF (fun k => y k * R e k) (d + 1) = sF (fun j => R e j * y j) (d + 1) := fun y => sF_congr _ (fun k _ => by (try dsimp only); grind)
          rw [cm] at ea eb
          generalize hX : sF (fun j => R e j * R a j) (d + 1) = oX at *
          generalize hY : sF (fun j => R e j * R b j) (d + 1) = oY at *
          by_cases x0 : oX = 0
          · refine same (-1) ?_ ?_
            · unfold f_X5_middle
              simp only [↓ob l0, hC.o3, ↓ob w1, ↓ob w2, ↓Option.elim_some, ↓ob i12, ↓ob i6, ↓ob wf, hne, ↓ob r8, he.o2, ↓ob da, ↓ob db, lz64 (P := P), fL_eq hB, x0, ↓reduceIte]
            · unfold m_middle
              simp only [↓ob i1', ↓ob i2', n10, hne, nid, ↓ob ea, lz64 (P := P), fL_eq hB, x0, ↓reduceIte]
          · by_cases y0 : oY = 0
            · refine same (-1) ?_ ?_
              · unfold f_X5_middle
                simp only [↓ob l0, hC.o3, ↓ob w1, ↓ob w2, ↓Option.elim_some, ↓ob i12, ↓ob i6, ↓ob wf, hne, ↓ob r8, he.o2, ↓ob da, ↓ob db, lz64 (P := P), fL_eq hB, x0, y0, ↓reduceIte]
              · unfold m_middle
                simp only [↓ob i1', ↓ob i2', n10, hne, nid, ↓ob ea, ↓ob eb, lz64 (P := P), fL_eq hB, x0, y0, ↓reduceIte]
            · obtain ⟨hp1, a1, a2, a3⟩ := e_sum hP hB he hw va vb oY oX
              have h1 := hC.gg a3
              have hcl := CO.kp (res := f_X5_middle hp sz o (nI a) (nI b)) hp0 hB hC a3 (show 0 < 5 by omega) (r := some sz) (y := some (fun j => oY * R a j + oX * R b j)) ⟨sz, rfl, a2⟩ (fun v hv => by
                rcases v with ⟨v1, v2, v3⟩
                have hv' : f_X5_keep hp1 (sz + 1) o 0 (some sz) = some (v1, v2, v3) := hv
                have fx : ¬ fL oX = 0 := fun q => x0 ((fL_0 hB).mp q)
                have fy : ¬ fL oY = 0 := fun q => y0 ((fL_0 hB).mp q)
                unfold f_X5_middle
                simp only [↓ob l0, hC.o3, ↓ob w1, ↓ob w2, ↓Option.elim_some, ↓ob i12, ↓ob i6, ↓ob wf, hne, ↓ob r8, he.o2, ↓ob da, ↓ob db, fx, fy, ↓ob a1, h1.o5, ↓ob hv', ↓reduceIte])
              obtain ⟨d0, z1, -⟩ := s_clear (P := P) draft
              have key := loopP (f := m_middle_L92 (nI d) (lN P) rows (nI a) (nI b) (fL oY) (fL oX)) (d := d0) (d + 1) (fun j => oY * R a j + oX * R b j) ?_ ?_
              · obtain ⟨d1, k1, k2, -⟩ := key
                obtain ⟨s', r', d', c1, c2⟩ := r_madeN hp0 hB hK hS hd (show 0 < 5 by omega) (show vo d1 (wd d 0) _ from k2)
                refine ⟨_, ext_kp hp0 hI hle (fun _ => ⟨by omega, by omega, by omega, by omega, by omega⟩), hcl, s', r', d', ?_, c2⟩
                have k1' : itX (m_middle_L92 (nI d) (lN P) rows (nI a) (nI b) (fL oY) (fL oX)) (0, d0) = some d1 := k1
                have c1' : m_madeOrNone (nI d) (lN P) (nI c) sorts rows d1 0 = _ := c1
                have fx : ¬ fL oX = 0 := fun q => x0 ((fL_0 hB).mp q)
                have fy : ¬ fL oY = 0 := fun q => y0 ((fL_0 hB).mp q)
                unfold m_middle
                simp only [↓ob i1', ↓ob i2', n10, hne, nid, ↓ob ea, ↓ob eb, fx, fy, ↓ob z1, ↓ob k1', ↓ob c1', ↓reduceIte]
              · intro k d1 hk _
                unfold m_middle_L92
                simp (disch := omega) only [↓Option.bind_some, ↓Option.elim_some, ↓Option.elim_none, Option.bind_some, Option.elim_some, Option.elim_none, Option.some.injEq, Sum.inl.injEq, Sum.inr.injEq, ↓reduceIte, m_side, lit_nI, lz_I, nI_add, pk_mul, pk_sub, nI_ge, nI_le, nI_lt, nI_nlt, gi_t, nI_clamp, nI_eq, pk_rem, Nat.zero_add, Nat.reduceAdd, Nat.reduceMul, Nat.reduceSub, Nat.reduceMod, Nat.reduceEqDiff, reduceCtorEq, Nat.one_ne_zero, Nat.zero_ne_one, s_of hK ha, s_of hK hb, s_times hP hB, s_less hP hB, s_over hP hB, n_plus hP hB, lz64 (P := P), lo64 (P := P) hP, lPz hP hB]
              · intro d1
                unfold m_middle_L92
                simp (disch := omega) only [↓Option.bind_some, ↓Option.elim_some, ↓Option.elim_none, Option.bind_some, Option.elim_some, Option.elim_none, Option.some.injEq, Sum.inl.injEq, Sum.inr.injEq, ↓reduceIte, m_side, lit_nI, lz_I, nI_add, pk_mul, pk_sub, nI_ge, nI_le, nI_lt, nI_nlt, gi_t, nI_clamp, nI_eq, pk_rem, Nat.zero_add, Nat.reduceAdd, Nat.reduceMul, Nat.reduceSub, Nat.reduceMod, Nat.reduceEqDiff, reduceCtorEq, Nat.one_ne_zero, Nat.zero_ne_one]
    · have w2 : f_X3_row hp (ad 0) x2 0 = some none := hC.rowQ (t := 0) (by omega) q
      have i2' : m_is (nI c) sorts x2 0 = some (nI 0) := i2
      refine same (-2) ?_ ?_
      · unfold f_X5_middle
        simp only [↓ob l0, hC.o3, ↓ob w1, ↓ob w2, ↓Option.elim_some, ↓Option.elim_none, ↓reduceIte]
      · unfold m_middle
        simp only [↓ob i1', ↓ob i2', n10, n00, ↓reduceIte]
  · have w1 : f_X3_row hp (ad 0) x1 0 = some none := hC.rowQ (t := 0) (by omega) q
    have i1' : m_is (nI c) sorts x1 0 = some (nI 0) := i1
    obtain ⟨y, w2⟩ := any x2
    refine same (-2) ?_ ?_
    · unfold f_X5_middle
      simp only [↓ob l0, hC.o3, ↓ob w1, ↓ob w2, ↓Option.elim_none, ↓reduceIte]
    · unfold m_middle
      simp only [↓ob i1', n00, ↓reduceIte]
end PAR
