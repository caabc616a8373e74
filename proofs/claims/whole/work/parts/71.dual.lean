section DUAL
variable {P : Nat} {d sz o : Nat} {hp : cH} {ad im rw : Nat → Nat} {c : Nat} {S : Nat → Nat} {R : Nat → Nat → Fin P} {H : Nat → Fin P} {g : Nat} {Gs : Nat → Nat} {m : Nat} {pA pB : Nat → Nat} {id : Int32}
theorem flF6 [NeZero P] (L : Nat → Fin P) {k : Nat} (hk : k < 6) : flF 6 L k = fl6 L k := by
  rcases (show k = 0 ∨ k = 1 ∨ k = 2 ∨ k = 3 ∨ k = 4 ∨ k = 5 by omega) with rfl | rfl | rfl | rfl | rfl | rfl <;> rfl
theorem plu_fl [NeZero P] {L : Nat → Fin P} (h : plu L) : plu (flF 6 L) := by
  unfold plu at h ⊢
  simp [flF]
  grind
/-- the reference copies a row -/
theorem r_copy [NeZero P] (hP : 2 < P) (hB : P < 2 ^ 31) {rows draft : Nat → Int64} (hK : rK c rows R) {a : Nat} (ha : a < c) (hd : d = 2 ∨ d = 3) {t : Nat} (ht : t < 5) : ∃ d', itX (m_dual_L116 (nI d) rows (nI a) (nI t)) (nI 0, draft) = some d' ∧ vo d' (wd d t) (R a) := by
  have hw := (wd_le (t := t) hd).1
  have hk := hK.1
  have key := loopP (f := m_dual_L116 (nI d) rows (nI a) (nI t)) (d := draft) (wd d t) (R a) ?_ ?_
  · obtain ⟨d', k1, k2, -⟩ := key
    exact ⟨d', k1, k2⟩
  · intro k d1 hk _
    unfold m_dual_L116
    simp (disch := omega) only [↓Option.bind_some, ↓Option.elim_some, ↓Option.elim_none, Option.bind_some, Option.elim_some, Option.elim_none, Option.some.injEq, Sum.inl.injEq, Sum.inr.injEq, ↓reduceIte, m_side, lit_nI, lz_I, nI_add, pk_mul, pk_sub, nI_ge, nI_le, nI_lt, nI_nlt, gi_t, nI_clamp, nI_eq, pk_rem, Nat.zero_add, Nat.reduceAdd, Nat.reduceMul, Nat.reduceSub, Nat.reduceMod, Nat.reduceEqDiff, reduceCtorEq, Nat.one_ne_zero, Nat.zero_ne_one, s_width hd ht, s_of hK ha]
  · intro d1
    unfold m_dual_L116
    simp (disch := omega) only [↓Option.bind_some, ↓Option.elim_some, ↓Option.elim_none, Option.bind_some, Option.elim_some, Option.elim_none, Option.some.injEq, Sum.inl.injEq, Sum.inr.injEq, ↓reduceIte, m_side, lit_nI, lz_I, nI_add, pk_mul, pk_sub, nI_ge, nI_le, nI_lt, nI_nlt, gi_t, nI_clamp, nI_eq, pk_rem, Nat.zero_add, Nat.reduceAdd, Nat.reduceMul, Nat.reduceSub, Nat.reduceMod, Nat.reduceEqDiff, reduceCtorEq, Nat.one_ne_zero, Nat.zero_ne_one, s_width hd ht]
theorem r_mirror [NeZero P] (hP : 2 < P) (hB : P < 2 ^ 31) {turned draft : Nat → Int64} (hd : d = 2 ∨ d = 3) {N : Nat → Fin P} (hN : vo turned ((d + 1) * (d + 1)) N) : ∃ d', itX (m_dual_L44 (nI d) turned) (nI 0, draft) = some d' ∧ vo d' ((d + 1) * (d + 1)) (trF (d + 1) N) := by
  have hw : d + 1 = 3 ∨ d + 1 = 4 := by omega
  have hws : (d + 1) * (d + 1) ≤ 16 := by rcases hd with rfl | rfl <;> decide
  have key := loop2 (P := P) (f1 := m_dual_L44 (nI d) turned) (f2 := fun i => m_dual_L55 (nI d) turned (nI i)) (d := draft) (d + 1) (d + 1) (fun i j => i * (d + 1) + j) (ij_inj hw) (fun i j => N (j * (d + 1) + i)) ?_ ?_ ?_ ?_
  · obtain ⟨d', k1, k2, -⟩ := key
    exact ⟨d', k1, vo_sq (v := fun i j => N (j * (d + 1) + i)) (by omega) k2⟩
  · intro i d1 hi
    unfold m_dual_L44
    simp (disch := omega) only [↓Option.bind_some, ↓Option.elim_some, ↓Option.elim_none, Option.bind_some, Option.elim_some, Option.elim_none, Option.some.injEq, Sum.inl.injEq, Sum.inr.injEq, ↓reduceIte, m_side, lit_nI, lz_I, nI_add, pk_mul, pk_sub, nI_ge, nI_le, nI_lt, nI_nlt, gi_t, nI_clamp, nI_eq, pk_rem, Nat.zero_add, Nat.reduceAdd, Nat.reduceMul, Nat.reduceSub, Nat.reduceMod, Nat.reduceEqDiff, reduceCtorEq, Nat.one_ne_zero, Nat.zero_ne_one]
  · intro i j d1 hi hj _
    have r1 := row_lt hi hj
    have r2 := row_lt hj hi
    refine ⟨vp_updL d1 (i * (d + 1) + j) (fL (N (j * (d + 1) + i))), ?_, pk_uLs, fun m hm => pk_uLn hm⟩
    unfold m_dual_L55
    simp (disch := omega) only [↓Option.bind_some, ↓Option.elim_some, ↓Option.elim_none, Option.bind_some, Option.elim_some, Option.elim_none, Option.some.injEq, Sum.inl.injEq, Sum.inr.injEq, ↓reduceIte, m_side, lit_nI, lz_I, nI_add, pk_mul, pk_sub, nI_ge, nI_le, nI_lt, nI_nlt, gi_t, nI_clamp, nI_eq, pk_rem, Nat.zero_add, Nat.reduceAdd, Nat.reduceMul, Nat.reduceSub, Nat.reduceMod, Nat.reduceEqDiff, reduceCtorEq, Nat.one_ne_zero, Nat.zero_ne_one, hN _ r2]
  · intro i d1 hi
    unfold m_dual_L55
    simp (disch := omega) only [↓Option.bind_some, ↓Option.elim_some, ↓Option.elim_none, Option.bind_some, Option.elim_some, Option.elim_none, Option.some.injEq, Sum.inl.injEq, Sum.inr.injEq, ↓reduceIte, m_side, lit_nI, lz_I, nI_add, pk_mul, pk_sub, nI_ge, nI_le, nI_lt, nI_nlt, gi_t, nI_clamp, nI_eq, pk_rem, Nat.zero_add, Nat.reduceAdd, Nat.reduceMul, Nat.reduceSub, Nat.reduceMod, Nat.reduceEqDiff, reduceCtorEq, Nat.one_ne_zero, Nat.zero_ne_one]
  · intro d1
    unfold m_dual_L44
    simp (disch := omega) only [↓Option.bind_some, ↓Option.elim_some, ↓Option.elim_none, Option.bind_some, Option.elim_some, Option.elim_none, Option.some.injEq, Sum.inl.injEq, Sum.inr.injEq, ↓reduceIte, m_side, lit_nI, lz_I, nI_add, pk_mul, pk_sub, nI_ge, nI_le, nI_lt, nI_nlt, gi_t, nI_clamp, nI_eq, pk_rem, Nat.zero_add, Nat.reduceAdd, Nat.reduceMul, Nat.reduceSub, Nat.reduceMod, Nat.reduceEqDiff, reduceCtorEq, Nat.one_ne_zero, Nat.zero_ne_one]
theorem st_dual (hp0 : isP P) (ho : P % 2 = 1) [NeZero P] (hB : P < 2 ^ 31) (hI : shf d c S R) (hC : cS P d hp sz o ad im rw c S R H g Gs m pA pB id) {sorts : Nat → Int32} {rows : Nat → Int64} (hS : sK sorts S c) (hK : rK c rows R) (draft frame turned : Nat → Int64) (x1 : Int32) : ∃ K, ext d c S R K ∧ CO P d hp sz o ad K H g Gs m pA pB id (f_X5_dual hp sz o x1) ∧ ∃ s' r' d' f' t', m_dual (nI d) (lN P) (nI c) sorts rows draft frame turned x1 = some (K.1, nI K.2.1, s', r', d', f', t') ∧ RO s' r' K := by
  have hP := hp0.1
  have hle := hC.le
  have hd := hC.hd
  have hw := hC.hw
  have he := hC.e
  have l0 := hC.r0
  have r8 := hC.r8
  have r9 := hC.r9
  have i6 := hC.i6
  have h5 : ∀ a, a < c → S a < 5 := fun a ha => hC.s5 ha
  have d3 : (nI 2 = (3 : Int32)) = False := by simp; decide
  have d2 : (nI 3 = (2 : Int32)) = False := by simp; decide
  have d33 : (nI 3 = (3 : Int32)) = True := by simp; decide
  have d22 : (nI 2 = (2 : Int32)) = True := by simp; decide
  rcases ix_cl c hle x1 with ⟨a, ha, rfl⟩ | hx1
  · have w1 := hC.item ha
    have t1 := hC.t ha
    have ra := hC.r ha
    have va := hC.v ha
    have sa := hC.s5 ha
    have na := (hI.1 a ha).1
    have ka := (hI.1 a ha).2
    have ob1 := r_obj (x := 0) hle ha
    have hsa := (hS a ha).1
    have g60 := gi_nI (show a < 60 by omega) (show 60 < 2 ^ 31 by omega)
    have cl := nI_clamp (show a < 2 ^ 31 by omega)
    obtain ⟨d0, z1, z2⟩ := s_clear (P := P) draft
    obtain ⟨dc, y1, y2⟩ := r_copy hP hB (draft := d0) hK ha hd sa
    by_cases s0 : S a = 0
    · rw [s0] at va t1 hsa na y1 y2
      have t1' : gI hp (im a) 1 0 = some 0 := t1
      have hcl := CO.kp (res := f_X5_dual hp sz o (nI a)) hp0 hB hC gro.rf (show d - 1 < 5 by omega) (r := some (rw a)) (y := some (R a)) ⟨rw a, rfl, by rw [wdf hd]; exact va⟩ (fun v hv => by
        rcases v with ⟨v1, v2, v3⟩
        unfold f_X5_dual
        simp only [↓ob l0, hC.o3, ↓ob w1, ↓Option.elim_some, ↓ob t1', ↓ob i6, ↓ob ra, hC.o5, ↓ob hv, ↓reduceIte])
      obtain ⟨s', r', d', c1, c2⟩ := r_made hp0 hB hK hS hd (show d - 1 < 5 by omega) (show vo dc (wd d (d - 1)) (R a) by rw [wdf hd]; exact y2) (by rw [wdf hd]; exact na.1)
      refine ⟨_, ext_kp hp0 hI hle (fun _ => ⟨by omega, by omega, fun q1 q2 => by omega, by omega, by omega⟩), hcl, s', r', d', frame, turned, ?_, c2⟩
      have y1' : itX (m_dual_L116 (nI d) rows (nI a) 0) (0, d0) = some dc := y1
      have hsa' : sorts a = (0 : Int32) := hsa
      have q3 : ((0 : Int32) = 3) = False := by simp
      have q4 : ((0 : Int32) = 4) = False := by simp
      have q1 : ((0 : Int32) = 1) = False := by simp
      unfold m_dual m_dual_J166
      rcases hd with rfl | rfl
      · have c1' : m_made (nI 2) (lN P) (nI c) sorts rows dc 1 = _ := c1
        simp only [↓ob ob1, n10, if_pos g60, cl, hsa', q3, q4, ↓ob z1, ↓ob y1', d3, d22, ↓ob c1', ↓reduceIte]
      · have c1' : m_made (nI 3) (lN P) (nI c) sorts rows dc 2 = _ := c1
        simp only [↓ob ob1, n10, if_pos g60, cl, hsa', q3, q4, q1, ↓ob z1, ↓ob y1', d33, d2, ↓ob c1', ↓reduceIte]
    · have t0 : (nI (S a) = (0 : Int32)) = False := n_ne (b := 0) s0 (by omega) (by omega)
      have s0' : (sorts a = (0 : Int32)) = False := by rw [hsa]; exact t0
      by_cases sf : S a = d - 1
      · have tf : (nI (S a) = nI (d - 1)) = True := by rw [sf]; simp
        rw [sf, wdf hd] at va na y2
        have hcl := CO.kp (res := f_X5_dual hp sz o (nI a)) hp0 hB hC gro.rf (show 0 < 5 by omega) (r := some (rw a)) (y := some (R a)) ⟨rw a, rfl, va⟩ (fun v hv => by
          rcases v with ⟨v1, v2, v3⟩
          have hv' : f_X5_keep hp sz o 0 (some (rw a)) = some (v1, v2, v3) := hv
          unfold f_X5_dual
          simp only [↓ob l0, hC.o3, ↓ob w1, ↓Option.elim_some, ↓ob t1, t0, ↓ob i6, tf, ↓ob ra, hC.o5, ↓ob hv', ↓reduceIte])
        obtain ⟨s', r', d', c1, c2⟩ := r_made hp0 hB hK hS hd (show 0 < 5 by omega) (show vo dc (wd d 0) (R a) from y2) na.1
        refine ⟨_, ext_kp hp0 hI hle (fun _ => ⟨by omega, by omega, by omega, by omega, by omega⟩), hcl, s', r', d', frame, turned, ?_, c2⟩
        have y1' : itX (m_dual_L116 (nI d) rows (nI a) (sorts a)) (0, d0) = some dc := by rw [hsa]; exact y1
        have c1' : m_made (nI d) (lN P) (nI c) sorts rows dc 0 = _ := c1
        have q3 : (sorts a = (3 : Int32)) = False := by rw [hsa]; exact n_ne (b := 3) (by omega) (by omega) (by omega)
        have q4 : (sorts a = (4 : Int32)) = False := by rw [hsa]; exact n_ne (b := 4) (by omega) (by omega) (by omega)
        unfold m_dual m_dual_J166
        rcases hd with rfl | rfl
        · simp only [↓ob ob1, n10, if_pos g60, cl, q3, q4, s0', ↓ob z1, ↓ob y1', d3, ↓ob c1', ↓reduceIte]
        · have q1 : (sorts a = (1 : Int32)) = False := by rw [hsa]; exact n_ne (b := 1) (by omega) (by omega) (by omega)
          simp only [↓ob ob1, n10, if_pos g60, cl, q3, q4, q1, s0', ↓ob z1, ↓ob y1', d33, ↓ob c1', ↓reduceIte]
      · have tf : (nI (S a) = nI (d - 1)) = False := n_ne sf (by omega) (by omega)
        by_cases s1 : S a = 1
        · have hd3 : d = 3 := by omega
          subst hd3
          have t11 : (nI (S a) = (1 : Int32)) = True := by rw [s1]; simp; rfl
          rw [s1] at va na y2 ka
          obtain ⟨hp1, a1, a2, a3⟩ := e_flipped hP hB he (n := 6) (by omega) va
          have h1 := hC.gg a3
          have hcl := CO.kp (res := f_X5_dual hp sz o (nI a)) hp0 hB hC a3 (show 1 < 5 by omega) (r := some sz) (y := some (flF 6 (R a))) ⟨sz, rfl, a2⟩ (fun v hv => by
            rcases v with ⟨v1, v2, v3⟩
            have hv' : f_X5_keep hp1 (sz + 1) o 1 (some sz) = some (v1, v2, v3) := hv
            unfold f_X5_dual
            simp only [↓ob l0, hC.o3, ↓ob w1, ↓Option.elim_some, ↓ob t1, t0, ↓ob i6, tf, t11, ↓ob r9, ↓ob ra, he.o4, ↓ob a1, h1.o5, ↓ob hv', ↓reduceIte])
          obtain ⟨dt, f1, f2⟩ := s_turn hP hB (show vo dc 6 (R a) from y2)
          have f3 : vo dt (wd 3 1) (flF 6 (R a)) := vo_congr f2 (fun k hk => (flF6 (R a) hk).symm)
          obtain ⟨s', r', d', c1, c2⟩ := r_made hp0 hB hK hS (Or.inr rfl) (show 1 < 5 by omega) f3 (fl_nz (Or.inr rfl) na.1)
          refine ⟨_, ext_kp hp0 hI hle (fun _ => ⟨by omega, by omega, fun _ _ => plu_fl (ka.2.2.1 rfl rfl), by omega, by omega⟩), hcl, s', r', d', frame, turned, ?_, c2⟩
          have y1' : itX (m_dual_L116 (nI 3) rows (nI a) (sorts a)) (0, d0) = some dc := by rw [hsa]; exact y1
          have c1' : m_made (nI 3) (lN P) (nI c) sorts rows dt 1 = _ := c1
          have q3 : (sorts a = (3 : Int32)) = False := by rw [hsa]; exact n_ne (b := 3) (by omega) (by omega) (by omega)
          have q4 : (sorts a = (4 : Int32)) = False := by rw [hsa]; exact n_ne (b := 4) (by omega) (by omega) (by omega)
          have q1 : (sorts a = (1 : Int32)) = True := by rw [hsa]; exact t11
          unfold m_dual
          simp only [↓ob ob1, n10, if_pos g60, cl, q3, q4, q1, ↓ob z1, ↓ob y1', d33, ↓ob f1, ↓ob c1', ↓reduceIte]
        · have t11 : (nI (S a) = (1 : Int32)) = False := n_ne (b := 1) s1 (by omega) (by omega)
          have h34 : S a = 3 ∨ S a = 4 := by
            have := ka.2.1
            omega
          have hwd : wd d (S a) = (d + 1) * (d + 1) := by rcases h34 with q | q <;> rw [q] <;> rfl
          rw [hwd] at va na y2
          obtain ⟨r, hp1, sz1, a1, a3, a4, a5⟩ := e_inverted hP hB he hw va
          obtain ⟨bb, fr', tu', b1, b2, b3⟩ := s_isTurned hP hB (fr := frame) (tu := turned) hK ha hd
          have he1 := he.g a3
          have h1 := hC.gg a3
          have r81 := h1.r8
          have t1' := h1.t ha
          have q34 : (sorts a = (3 : Int32)) = True ∨ ((sorts a = (3 : Int32)) = False ∧ (sorts a = (4 : Int32)) = True) := by
            rw [hsa]
            rcases h34 with q | q
            · rw [q]
              left
              simp
              rfl
            · rw [q]
              right
              refine ⟨n_ne (b := 3) (by omega) (by omega) (by omega), ?_⟩
              simp
              rfl
          have rd : m_dual (nI d) (lN P) (nI c) sorts rows draft frame turned (nI a) = m_dual_J28 (nI d) (lN P) (nI c) sorts rows draft frame turned (nI a) (nI (S a)) := by
            unfold m_dual
            rcases q34 with q | ⟨q, q'⟩
            · simp only [↓ob ob1, n10, if_pos g60, cl, q, ↓reduceIte]
              rw [hsa]
            · simp only [↓ob ob1, n10, if_pos g60, cl, q, q', ↓reduceIte]
              rw [hsa]
          by_cases hf : (gj (d + 1) (agM (d + 1) (R a)) (d + 1)).1 = d + 1
          · obtain ⟨q, rfl, a2⟩ := a4 hf
            obtain ⟨rfl, b4⟩ := b2 hf
            have hinv := (full_q hp0).mp hf
            obtain ⟨dt, f1, f2⟩ := r_mirror hP hB (draft := d0) hd b4
            have hnz := inv_nz hp0 (by omega) (inv_tr hp0 (inv_iv hp0 hinv))
            obtain ⟨s', r', d', c1, c2⟩ := r_made hp0 hB hK hS hd (show S a < 5 from sa) (show vo dt (wd d (S a)) (trF (d + 1) (ivF (d + 1) (R a))) by rw [hwd]; exact f2) (by rw [hwd]; exact hnz)
            have hcl : CO P d hp sz o ad (kpF (wd d (S a)) (S a) (some (trF (d + 1) (ivF (d + 1) (R a)))) c S R) H g Gs m pA pB id (f_X5_dual hp sz o (nI a)) := by
              rcases h34 with s3 | s4
              · have t13 : (nI (S a) = (3 : Int32)) = True := by rw [s3]; simp; rfl
                obtain ⟨hp2, g1, g2, g3⟩ := e_turned hP hB he1 hw a2
                have h2 := h1.gg g3
                refine CO.kp hp0 hB hC (a3.tr g3) sa (r := some sz1) (y := some (trF (d + 1) (ivF (d + 1) (R a)))) ⟨sz1, rfl, by rw [hwd]; exact g2⟩ (fun v hv => ?_)
                rcases v with ⟨v1, v2, v3⟩
                unfold f_X5_dual
                simp only [↓ob l0, hC.o3, ↓ob w1, ↓Option.elim_some, ↓ob t1, t0, ↓ob i6, tf, t11, ↓ob r8, ↓ob ra, he.o2, ↓ob a1, ↓ob t1', t13, ↓ob r81, he1.o2, ↓ob g1, h2.o5, ↓ob hv, ↓reduceIte]
              · have t13 : (nI (S a) = (3 : Int32)) = False := n_ne (b := 3) (by omega) (by omega) (by omega)
                have hsy := sym_iv hp0 hinv (ka.2.2.2.2 s4)
                have key := CO.kp (res := f_X5_dual hp sz o (nI a)) hp0 hB hC a3 sa (r := some q) (y := some (ivF (d + 1) (R a))) ⟨q, rfl, by rw [hwd]; exact a2⟩ (fun v hv => by
                  rcases v with ⟨v1, v2, v3⟩
                  unfold f_X5_dual
                  simp only [↓ob l0, hC.o3, ↓ob w1, ↓Option.elim_some, ↓ob t1, t0, ↓ob i6, tf, t11, ↓ob r8, ↓ob ra, he.o2, ↓ob a1, ↓ob t1', t13, h1.o5, ↓ob hv, ↓reduceIte])
                rw [kp_cg (W := wd d (S a)) (x := ivF (d + 1) (R a)) hp0 (fun j hj => by rw [hwd] at hj; exact (sym_tr.mp hsy) j hj)]
                exact key
            refine ⟨_, ext_kp hp0 hI hle (fun _ => ⟨sa, ka.2.1, by omega, fun _ => inv_tr hp0 (inv_iv hp0 hinv), fun s4 => ?_⟩), hcl, s', r', d', fr', tu', ?_, c2⟩
            · have hsy := sym_iv hp0 hinv (ka.2.2.2.2 s4)
              exact fun i j hi hj => by rw [sym_tr.mp hsy _ (row_lt hi hj), sym_tr.mp hsy _ (row_lt hj hi)]; exact hsy i j hi hj
            · rw [rd]
              have f1' : itX (m_dual_L44 (nI d) tu') (0, d0) = some dt := f1
              unfold m_dual_J28
              simp only [↓ob b1, n10, ↓ob z1, ↓ob f1', ↓ob c1, ↓reduceIte]
          · have hr := a5 hf
            subst hr
            have hb3 := b3 hf
            subst hb3
            refine ⟨(-1, c, S, R), ext_id hI hle _, CO.same hC a3 ?_, sorts, rows, draft, fr', tu', ?_, hS, hK⟩
            · unfold f_X5_dual
              simp only [↓ob l0, hC.o3, ↓ob w1, ↓Option.elim_some, ↓Option.elim_none, ↓ob t1, t0, ↓ob i6, tf, t11, ↓ob r8, ↓ob ra, he.o2, ↓ob a1, ↓reduceIte]
            · rw [rd]
              unfold m_dual_J28
              simp only [↓ob b1, n00, ↓reduceIte]
  · have w1 := hC.itemX hx1
    have ob1 := r_objX hx1
    refine ⟨(-2, c, S, R), ext_id hI hle _, CO.same hC gro.rf ?_, sorts, rows, draft, frame, turned, ?_, hS, hK⟩
    · unfold f_X5_dual
      simp only [↓ob l0, hC.o3, ↓ob w1, ↓Option.elim_none, ↓reduceIte]
    · unfold m_dual
      simp only [↓ob ob1, n00, ↓reduceIte]
end DUAL
