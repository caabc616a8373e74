section FOURTH
variable {P : Nat} {d sz o : Nat} {hp : cH} {ad im rw : Nat → Nat} {c : Nat} {S : Nat → Nat} {R : Nat → Nat → Fin P} {H : Nat → Fin P} {g : Nat} {Gs : Nat → Nat} {m : Nat} {pA pB : Nat → Nat} {id : Int32}
theorem v_cases (hB : P < 2 ^ 31) (v : Int64) : v < 0 ∨ (¬ v < 0 ∧ v ≤ lN P ∧ ((∃ x : Fin P, v = fL x) ∨ v = lN P)) ∨ (¬ v < 0 ∧ ¬ v ≤ lN P) := by
  by_cases h0 : v < 0
  · exact Or.inl h0
  · by_cases h1 : v ≤ lN P
    · refine Or.inr (Or.inl ⟨h0, h1, ?_⟩)
      rw [Int64.lt_iff_toInt_lt] at h0
      rw [Int64.le_iff_toInt_le, pk_lT (by omega)] at h1
      have z : (0 : Int64).toInt = 0 := rfl
      rw [z] at h0
      by_cases e : v.toInt = P
      · right
        apply Int64.toInt_inj.mp
        rw [e, pk_lT (by omega)]
      · left
        refine ⟨⟨v.toInt.toNat, by omega⟩, ?_⟩
        apply Int64.toInt_inj.mp
        show v.toInt = (lN v.toInt.toNat).toInt
        rw [pk_lT (by omega)]
        omega
    · exact Or.inr (Or.inr ⟨h0, h1⟩)
theorem r_comb [NeZero P] (hP : 2 < P) (hB : P < 2 ^ 31) {rows draft : Nat → Int64} (hK : rK c rows R) (hd : d = 2 ∨ d = 3) {a b : Nat} (ha : a < c) (hb : b < c) (s t : Fin P) : ∃ d', itX (m_fourth_L137 (nI d) (lN P) rows (nI a) (nI b) (fL s) (fL t)) (nI 0, draft) = some d' ∧ vo d' (d + 1) (fun j => s * R a j + t * R b j) := by
  have hk := hK.1
  have key := loopP (f := m_fourth_L137 (nI d) (lN P) rows (nI a) (nI b) (fL s) (fL t)) (d := draft) (d + 1) (fun j => s * R a j + t * R b j) ?_ ?_
  · obtain ⟨d', k1, k2, -⟩ := key
    exact ⟨d', k1, k2⟩
  · intro k d1 hk _
    unfold m_fourth_L137
    simp (disch := omega) only [↓Option.bind_some, ↓Option.elim_some, ↓Option.elim_none, Option.bind_some, Option.elim_some, Option.elim_none, Option.some.injEq, Sum.inl.injEq, Sum.inr.injEq, ↓reduceIte, m_side, lit_nI, lz_I, nI_add, pk_mul, pk_sub, nI_ge, nI_le, nI_lt, nI_nlt, gi_t, nI_clamp, nI_eq, pk_rem, Nat.zero_add, Nat.reduceAdd, Nat.reduceMul, Nat.reduceSub, Nat.reduceMod, Nat.reduceEqDiff, reduceCtorEq, Nat.one_ne_zero, Nat.zero_ne_one, s_of hK ha, s_of hK hb, s_times hP hB, s_less hP hB, s_over hP hB, n_plus hP hB, lz64 (P := P), lo64 (P := P) hP, lPz hP hB]
  · intro d1
    unfold m_fourth_L137
    simp (disch := omega) only [↓Option.bind_some, ↓Option.elim_some, ↓Option.elim_none, Option.bind_some, Option.elim_some, Option.elim_none, Option.some.injEq, Sum.inl.injEq, Sum.inr.injEq, ↓reduceIte, m_side, lit_nI, lz_I, nI_add, pk_mul, pk_sub, nI_ge, nI_le, nI_lt, nI_nlt, gi_t, nI_clamp, nI_eq, pk_rem, Nat.zero_add, Nat.reduceAdd, Nat.reduceMul, Nat.reduceSub, Nat.reduceMod, Nat.reduceEqDiff, reduceCtorEq, Nat.one_ne_zero, Nat.zero_ne_one]
theorem st_fourth (hp0 : isP P) (ho : P % 2 = 1) [NeZero P] (hB : P < 2 ^ 31) (hI : shf d c S R) (hC : cS P d hp sz o ad im rw c S R H g Gs m pA pB id) {sorts : Nat → Int32} {rows : Nat → Int64} (hS : sK sorts S c) (hK : rK c rows R) (draft frame : Nat → Int64) (pI pJ : Int32) (x1 x2 x3 : Int32) (x4 : Int64) : ∃ K, ext d c S R K ∧ CO P d hp sz o ad K H g Gs m pA pB id (f_X5_fourth hp sz o x1 x2 x3 x4) ∧ ∃ s' r' d' f' i' j', m_fourth (nI d) (lN P) (nI c) sorts rows draft frame pI pJ x1 x2 x3 x4 = some (K.1, nI K.2.1, s', r', d', f', i', j') ∧ RO s' r' K := by
  have hP := hp0.1
  have hle := hC.le
  have hd := hC.hd
  have hw := hC.hw
  have h5 : ∀ a, a < c → S a < 5 := fun a ha => hC.s5 ha
  have hd16 : d + 1 ≤ 16 := by omega
  have hd4 : d + 1 ≤ 4 := by omega
  have l0 := hC.r0
  obtain ⟨hp1, a1, a2, a3⟩ := nI_r (hp := hp) (sz := sz) (n := 3) (by omega)
  obtain ⟨hp2, b1, b2, b3⟩ := sI_r (k := 0) (v := x1) a2 (by omega) (by omega)
  obtain ⟨hp3, c1, c2, c3⟩ := sI_r (k := 1) (v := x2) b2 (by omega) (by omega)
  obtain ⟨hp5, e1, e2, e3⟩ := sI_r (k := 2) (v := x3) c2 (by omega) (by omega)
  have hg : gro hp sz hp5 (sz + 1) := ((a3.st b3 (Nat.le_refl _)).st c3 (Nat.le_refl _)).st e3 (Nat.le_refl _)
  have hC5 := hC.gg hg
  generalize hf : upd (upd (upd (fun _ => 0) 0 x1) 1 x2) 2 x3 = f at e2
  have f0 : f 0 = x1 := by rw [← hf]; simp [upd]
  have f1 : f 1 = x2 := by rw [← hf]; simp [upd]
  have f2 : f 2 = x3 := by rw [← hf]; simp [upd]
  obtain ⟨g1, g2⟩ := c_rows1 hC5 (n := 3) (f := f) (ix := fun k => (f k).toNatClampNeg) e2 (by omega) (by omega) (by omega) (fun k _ a ha e => by (try dsimp only); rw [e]; exact nI_clamp (by omega))
  have a1' : nI_ hp sz 3 = some hp1 := a1
  have b1' : sI hp1 sz 0 x1 = some hp2 := b1
  have c1' : sI hp2 sz 1 x2 = some hp3 := c1
  have e1' : sI hp3 sz 2 x3 = some hp5 := e1
  obtain ⟨q12, n12⟩ := r_areOne h5 hle hd hS x1 x2
  obtain ⟨q23, n23⟩ := r_areOne h5 hle hd hS x2 x3
  by_cases hgood : ∃ t, (t = 0 ∨ t = d - 1) ∧ ∀ k, k < 3 → (f k).toNatClampNeg < c ∧ f k = nI (f k).toNatClampNeg ∧ S (f k).toNatClampNeg = t
  · obtain ⟨r, hp6, sz6, A, p1, p2, p3⟩ := g1 hgood
    obtain ⟨t, ht, hall⟩ := hgood
    have A0 := hall 0 (by omega)
    have A1 := hall 1 (by omega)
    have A2 := hall 2 (by omega)
    rw [f0] at A0
    rw [f1] at A1
    rw [f2] at A2
    generalize hi0 : x1.toNatClampNeg = u0 at A0
    generalize hi1 : x2.toNatClampNeg = u1 at A1
    generalize hi2 : x3.toNatClampNeg = u2 at A2
    obtain ⟨v0, w0, s0⟩ := A0
    obtain ⟨v1, w1, s1⟩ := A1
    obtain ⟨v2, w2, s2⟩ := A2
    have o12 := q12 ⟨u0, u1, v0, v1, w0, w1, by rw [s0, s1], by rw [s0]; exact ht⟩
    have o23 := q23 ⟨u1, u2, v1, v2, w1, w2, by rw [s1, s2], by rw [s1]; exact ht⟩
    have hwd : wd d t = d + 1 := by rcases ht with z | z <;> rw [z]; rfl; exact wdf hd
    have ht5 : t < 5 := by rw [← s0]; exact h5 u0 v0
    have h6 := hC5.gg p3
    have he6 := h6.e
    have r76 := h6.r7
    have r86 := h6.r8
    have p06 := he6.p0
    generalize hX : (fun k => R ((fun k => (f k).toNatClampNeg) k)) = X at p2
    have X0 : X 0 = R u0 := by rw [← hX]; show R (f 0).toNatClampNeg = _; rw [f0, hi0]
    have X1 : X 1 = R u1 := by rw [← hX]; show R (f 1).toNatClampNeg = _; rw [f1, hi1]
    have X2 : X 2 = R u2 := by rw [← hX]; show R (f 2).toNatClampNeg = _; rw [f2, hi2]
    clear hi0 hi1 hi2 hall
    have gen : ∀ u, u < c → S u = t → nrm (d + 1) (R u) := fun u hu hs => by have := (hI.1 u hu).1; rw [hs, hwd] at this; exact this
    have nX : ∀ i, i < 3 → nrm (d + 1) (X i) := by
      intro i hi
      rcases (show i = 0 ∨ i = 1 ∨ i = 2 by omega) with rfl | rfl | rfl
      · rw [X0]; exact gen u0 v0 s0
      · rw [X1]; exact gen u1 v1 s1
      · rw [X2]; exact gen u2 v2 s2
    subst w0
    subst w1
    subst w2
    have it := hC.item v0
    have same : ∀ v hp' sz', gro hp sz hp' sz' → f_X5_fourth hp sz o (nI u0) (nI u1) (nI u2) x4 = some (v, hp', sz') → (∃ fr, m_fourth (nI d) (lN P) (nI c) sorts rows draft frame pI pJ (nI u0) (nI u1) (nI u2) x4 = some (v, nI c, sorts, rows, draft, fr, pI, pJ)) → ∃ K, ext d c S R K ∧ CO P d hp sz o ad K H g Gs m pA pB id (f_X5_fourth hp sz o (nI u0) (nI u1) (nI u2) x4) ∧ ∃ s' r' d' f' i' j', m_fourth (nI d) (lN P) (nI c) sorts rows draft frame pI pJ (nI u0) (nI u1) (nI u2) x4 = some (K.1, nI K.2.1, s', r', d', f', i', j') ∧ RO s' r' K := fun v hp' sz' q0 q1 q2 => by
      obtain ⟨fr, q2⟩ := q2
      exact ⟨(v, c, S, R), ext_id hI hle _, CO.same hC q0 q1, sorts, rows, draft, fr, pI, pJ, q2, hS, hK⟩
    rcases v_cases hB x4 with z | ⟨z0, zp, zv⟩ | ⟨z0, zp⟩
    · refine same (-2) hp6 sz6 (hg.tr p3) ?_ ⟨frame, ?_⟩
      · unfold f_X5_fourth
        simp only [↓ob l0, hC.o3, ↓ob it, ↓ob a1', ↓ob b1', ↓ob c1', ↓ob e1', hC5.o5, ↓ob p1, ↓Option.elim_some, z, ↓reduceIte]
      · unfold m_fourth
        simp only [↓ob o12, ↓ob o23, n10, z, ↓reduceIte]
    · by_cases e01 : u0 = u1
      · have h01 : nI u0 = nI u1 := by rw [e01]
        refine same (-1) hp6 sz6 (hg.tr p3) ?_ ⟨frame, ?_⟩
        · unfold f_X5_fourth
          simp only [↓ob l0, hC.o3, ↓ob it, ↓ob a1', ↓ob b1', ↓ob c1', ↓ob e1', hC5.o5, ↓ob p1, ↓Option.elim_some, z0, ↓ob r76, ↓ob p06, zp, if_pos h01, ↓reduceIte]
        · unfold m_fourth
          simp only [↓ob o12, ↓ob o23, n10, z0, zp, if_pos h01, ↓reduceIte]
      · have h01 : (nI u0 = nI u1) = False := n_ne e01 (by omega) (by omega)
        by_cases e12 : u1 = u2
        · have h12 : nI u1 = nI u2 := by rw [e12]
          refine same (-1) hp6 sz6 (hg.tr p3) ?_ ⟨frame, ?_⟩
          · unfold f_X5_fourth
            simp only [↓ob l0, hC.o3, ↓ob it, ↓ob a1', ↓ob b1', ↓ob c1', ↓ob e1', hC5.o5, ↓ob p1, ↓Option.elim_some, z0, ↓ob r76, ↓ob p06, zp, h01, if_pos h12, ↓reduceIte]
          · unfold m_fourth
            simp only [↓ob o12, ↓ob o23, n10, z0, zp, h01, if_pos h12, ↓reduceIte]
        · have h12 : (nI u1 = nI u2) = False := n_ne e12 (by omega) (by omega)
          by_cases e02 : u0 = u2
          · have h02 : nI u0 = nI u2 := by rw [e02]
            refine same (-1) hp6 sz6 (hg.tr p3) ?_ ⟨frame, ?_⟩
            · unfold f_X5_fourth
              simp only [↓ob l0, hC.o3, ↓ob it, ↓ob a1', ↓ob b1', ↓ob c1', ↓ob e1', hC5.o5, ↓ob p1, ↓Option.elim_some, z0, ↓ob r76, ↓ob p06, zp, h01, h12, if_pos h02, ↓reduceIte]
            · unfold m_fourth
              simp only [↓ob o12, ↓ob o23, n10, z0, zp, h01, h12, if_pos h02, ↓reduceIte]
          · have h02 : (nI u0 = nI u2) = False := n_ne e02 (by omega) (by omega)
            obtain ⟨hp7, sz7, k1, k2⟩ := e_rankOf hP hB he6 p2 (by decide) (by decide) hd16
            obtain ⟨fr', m1⟩ := s_rankOf hP hB (fr := frame) hK v0 v1 v2 v2 hd
            have hrk : (gj 4 (fun i => R (if i = 0 then u0 else if i = 1 then u1 else if i = 2 then u2 else u2)) (d + 1)).1 = (gj 3 X (d + 1)).1 := by
              have r1 := rank_tw hp0 (w := d + 1) (R u0) (R u1) (R u2)
              have r2 : (gj 4 (fun i => R (if i = 0 then u0 else if i = 1 then u1 else if i = 2 then u2 else u2)) (d + 1)).1 = (gj 4 (fun i => if i = 0 then R u0 else if i = 1 then R u1 else if i = 2 then R u2 else R u2) (d + 1)).1 := rk_cg (fun i j hi _ => by
                rcases (show i = 0 ∨ i = 1 ∨ i = 2 ∨ i = 3 by omega) with rfl | rfl | rfl | rfl <;> rfl)
              have r3 : (gj 3 (fun i => if i = 0 then R u0 else if i = 1 then R u1 else R u2) (d + 1)).1 = (gj 3 X (d + 1)).1 := rk_cg (fun i j hi _ => by
                rcases (show i = 0 ∨ i = 1 ∨ i = 2 by omega) with rfl | rfl | rfl
                · rw [X0]; rfl
                · rw [X1]; rfl
                · rw [X2]; rfl)
              exact r2.trans (r1.trans r3)
            rw [hrk] at m1
            clear hrk
            have hr4 := (gj_le 3 X (d + 1)).1
            generalize hgk : (gj 3 X (d + 1)).1 = rk at k1 m1 hr4
            by_cases hr2 : rk = 2
            · have hr : (gj 3 X (d + 1)).1 = 2 := hgk.trans hr2
              obtain ⟨j1, j2, j3, j4, j5⟩ := first_k hp0 hw hr (by decide) nX
              have hpl := place_eq hp0 hw hr (by decide) j3 j4
              clear hr hgk
              have h7 := h6.gg k2
              have he7 := h7.e
              have r97 := h7.r9
              have t7 := h7.t v0
              rw [s0] at t7
              have p7 := p2.g k2
              have hk0 : ∃ k0, k0 = ldV (wgF (d + 1) (X 0) (X j1)) (swi (d + 1) (d + 1)) := ⟨_, rfl⟩
              obtain ⟨k0, hk0⟩ := hk0
              have j4' : k0 < swi (d + 1) (d + 1) := by rw [hk0]; exact j4
              have hij := wIJ_w hw j4'
              have hJ4 : wJ (d + 1) k0 < 4 := Nat.lt_of_lt_of_le hij.2.1 hd4
              have hI4 : wI (d + 1) k0 < 4 := Nat.lt_trans hij.1 hJ4
              have hne0 : wgF (d + 1) (X 0) (X j1) k0 ≠ 0 := by rw [hk0]; exact ldV_nz j4
              rw [← hk0] at hpl
              have hpm := s_places hP hB hK v0 v1 v2 v2 hd (k0 := k0) j4' (by
                unfold sme
                have jj : j1 = 1 ∨ j1 = 2 := by
                  have := j2
                  have := j3
                  clear hpl hk0 j4 j5 hne0
                  omega
                rcases jj with rfl | rfl
                · rw [X0, X1] at hne0; exact Or.inl hne0
                · rw [X0, X2] at hne0; exact Or.inr (Or.inl hne0)) (fun k hk => by
                have z := fun a b (ha : a < 3) (hb : b < 3) => (hpl a b ha hb).1 k hk
                have z01 := z 0 1 (by decide) (by decide)
                have z02 := z 0 2 (by decide) (by decide)
                have z12 := z 1 2 (by decide) (by decide)
                have z22 := z 2 2 (by decide) (by decide)
                rw [X0, X1] at z01
                rw [X0, X2] at z02
                rw [X1, X2] at z12
                rw [X2] at z22
                unfold sme
                rintro (z | z | z | z | z | z)
                · exact z z01
                · exact z z02
                · exact z z02
                · exact z z12
                · exact z z12
                · exact z z22) pI pJ
              have br : ∀ a b, a < c → b < c → m_brackets (lN P) rows (nI (wI (d + 1) k0)) (nI (wJ (d + 1) k0)) (nI a) (nI b) = some (fL (wgF (d + 1) (R a) (R b) k0)) := fun a b ha hb => by
                have := s_bracket hP hB hK ha hb hI4 hJ4
                unfold m_brackets
                rw [ob this]
                rfl
              have br12 := br u1 u2 v1 v2
              have br02 := br u0 u2 v0 v2
              have k1' : f_X2_rankOf hp6 sz6 (ad 8) r = some (2, hp7, sz7) := by rw [k1, hr2]; rfl
              have m1' : m_rankOf (nI d) (lN P) rows frame (nI u0) (nI u1) (nI u2) (nI u2) = some (2, fr') := by rw [m1, hr2]; rfl
              have g0 := gi_nI (show u0 < 60 from Nat.lt_of_lt_of_le v0 hle) (show 60 < 2 ^ 31 by decide)
              have cl0 := nI_clamp (show u0 < 2 ^ 31 from Nat.lt_trans (Nat.lt_of_lt_of_le v0 hle) (by decide))
              have hs0 : sorts u0 = nI t := by rw [(hS u0 v0).1, s0]
              obtain ⟨d0, y1, -⟩ := s_clear (P := P) draft
              have okt : ∀ y : Nat → Fin P, okx d t y := fun y => ⟨ht5, fun q => by rcases ht with w | w <;> omega, fun q1 q2 => by rcases ht with w | w <;> omega, fun q => by rcases ht with w | w <;> omega, fun q => by rcases ht with w | w <;> omega⟩
              have nd01 : ¬ ∀ j, j < d + 1 → R u0 j = R u1 j := fun q => e01 (hI.2 u0 u1 v0 v1 (by rw [s0, s1]) (by rw [s0, hwd]; exact q))
              have nd02 : ¬ ∀ j, j < d + 1 → R u0 j = R u2 j := fun q => e02 (hI.2 u0 u2 v0 v2 (by rw [s0, s2]) (by rw [s0, hwd]; exact q))
              rcases zv with ⟨x, rfl⟩ | rfl
              · obtain ⟨r8, hp8, sz8, l1, l2, l3⟩ := e_fourthOf hP hB he7 hw p7 j2 j3 j4 j5 x hk0
                rw [X0, X1, X2] at l2
                have h8 := h7.gg l3
                have hcl := CO.kp (res := f_X5_fourth hp sz o (nI u0) (nI u1) (nI u2) (fL x)) hp0 hB hC (((hg.tr p3).tr k2).tr l3) ht5 (r := some r8) (y := some (fun j => x * wgF (d + 1) (R u1) (R u2) k0 * R u0 j + (- wgF (d + 1) (R u0) (R u2) k0) * R u1 j)) ⟨r8, rfl, by rw [hwd]; exact l2⟩ (fun v hv => by
                  rcases v with ⟨q1, q2, q3⟩
                  unfold f_X5_fourth
                  simp only [↓ob l0, hC.o3, ↓ob it, ↓ob a1', ↓ob b1', ↓ob c1', ↓ob e1', hC5.o5, ↓ob p1, ↓Option.elim_some, z0, ↓ob r76, ↓ob p06, zp, h01, h12, h02, ↓ob r86, he6.o2, ↓ob k1', ↓ob t7, ↓ob r97, he7.o4, ↓ob l1, h8.o5, ↓ob hv, ↓reduceIte])
                obtain ⟨d1, n1, n2⟩ := r_comb hP hB (draft := d0) hK hd v0 v1 (- (x * wgF (d + 1) (R u1) (R u2) k0)) (wgF (d + 1) (R u0) (R u2) k0)
                have hb02 : wgF (d + 1) (R u0) (R u2) k0 ≠ 0 := by
                  have := (hpl 0 2 (by decide) (by decide)).2 (by
                    rw [X0, X2]
                    rcases Nat.lt_or_ge (ldV (wgF (d + 1) (R u0) (R u2)) (swi (d + 1) (d + 1))) (swi (d + 1) (d + 1)) with q | q
                    · exact q
                    · exact absurd (wg_eq hp0 hw (gen u0 v0 s0) (gen u2 v2 s2) (ldV_eq.mp (Nat.le_antisymm (ldV_le _ _) q))) nd02)
                  rw [X0, X2] at this
                  exact this
                have hnz : ldV (fun j => - (x * wgF (d + 1) (R u1) (R u2) k0) * R u0 j + wgF (d + 1) (R u0) (R u2) k0 * R u1 j) (d + 1) < d + 1 := by
                  rcases Nat.lt_or_ge (ldV (fun j => - (x * wgF (d + 1) (R u1) (R u2) k0) * R u0 j + wgF (d + 1) (R u0) (R u2) k0 * R u1 j) (d + 1)) (d + 1) with q | q
                  · exact q
                  · exfalso
                    have hz := ldV_eq.mp (Nat.le_antisymm (ldV_le _ _) q)
                    refine nd01 (wg_eq hp0 hw (gen u0 v0 s0) (gen u1 v1 s1) (fun k hk => ?_))
                    have hk2 := wIJ_w hw hk
                    have zi := hz (wI (d + 1) k) (Nat.lt_trans hk2.1 hk2.2.1)
                    have zj := hz (wJ (d + 1) k) hk2.2.1
                    have : wgF (d + 1) (R u0) (R u2) k0 * wgF (d + 1) (R u0) (R u1) k = 0 := by
                      have e : wgF (d + 1) (R u0) (R u1) k = R u0 (wI (d + 1) k) * R u1 (wJ (d + 1) k) - R u0 (wJ (d + 1) k) * R u1 (wI (d + 1) k) := rfl
                      rw [e]
                      grind
                    exact (nz_mul hp0 this).elim (fun w => absurd w hb02) (fun w => w)
                rw [kp_ng (W := wd d t) (x := fun j => - (x * wgF (d + 1) (R u1) (R u2) k0) * R u0 j + wgF (d + 1) (R u0) (R u2) k0 * R u1 j) hp0 (fun j _ => by (try dsimp only); grind)] at hcl
                obtain ⟨s', r', d', y2, y3⟩ := r_made hp0 hB hK hS hd ht5 (show vo d1 (wd d t) _ by rw [hwd]; exact n2) (by rw [hwd]; exact hnz)
                refine ⟨_, ext_kp hp0 hI hle (fun _ => okt _), hcl, s', r', d', fr', nI (wI (d + 1) k0), nI (wJ (d + 1) k0), ?_, y3⟩
                have tm := s_times hP hB x (wgF (d + 1) (R u1) (R u2) k0)
                have ls : m_less (lN P) 0 (fL (x * wgF (d + 1) (R u1) (R u2) k0)) = some (fL (- (x * wgF (d + 1) (R u1) (R u2) k0))) := s_less0 hP hB _
                have n1' : itX (m_fourth_L137 (nI d) (lN P) rows (nI u0) (nI u1) (fL (- (x * wgF (d + 1) (R u1) (R u2) k0))) (fL (wgF (d + 1) (R u0) (R u2) k0))) (0, d0) = some d1 := n1
                have xp : ¬ fL x = lN P := fL_nP hB x
                have y2' := (show m_made (nI d) (lN P) (nI c) sorts rows d1 (sorts u0) = m_made (nI d) (lN P) (nI c) sorts rows d1 (nI t) by rw [hs0]).trans y2
                unfold m_fourth
                simp only [↓ob o12, ↓ob o23, n10, z0, zp, h01, h12, h02, ↓ob m1', ↓ob hpm, xp, ↓ob br12, ↓ob tm, ↓ob ls, ↓ob br02, ↓ob y1, ↓ob n1', if_pos g0, cl0, ↓ob y2', ↓reduceIte]
              · have l1 := e_fourthP hP hB he7 p7
                have vr := p7.at (i := 0) (by decide)
                rw [X0] at vr
                have hcl := CO.kp (res := f_X5_fourth hp sz o (nI u0) (nI u1) (nI u2) (lN P)) hp0 hB hC ((hg.tr p3).tr k2) ht5 (r := some (A 0)) (y := some (R u0)) ⟨A 0, rfl, by rw [hwd]; exact vr⟩ (fun v hv => by
                  rcases v with ⟨q1, q2, q3⟩
                  unfold f_X5_fourth
                  simp only [↓ob l0, hC.o3, ↓ob it, ↓ob a1', ↓ob b1', ↓ob c1', ↓ob e1', hC5.o5, ↓ob p1, ↓Option.elim_some, z0, ↓ob r76, ↓ob p06, zp, h01, h12, h02, ↓ob r86, he6.o2, ↓ob k1', ↓ob t7, ↓ob r97, he7.o4, ↓ob l1, h7.o5, ↓ob hv, ↓reduceIte])
                obtain ⟨d1, n1, n2⟩ := r_comb hP hB (draft := d0) hK hd v0 v1 (1 : Fin P) 0
                have n3 : vo d1 (d + 1) (R u0) := vo_congr n2 (fun j _ => by (try dsimp only); grind)
                obtain ⟨s', r', d', y2, y3⟩ := r_made hp0 hB hK hS hd ht5 (show vo d1 (wd d t) (R u0) by rw [hwd]; exact n3) (by rw [hwd]; exact (gen u0 v0 s0).1)
                refine ⟨_, ext_kp hp0 hI hle (fun _ => okt _), hcl, s', r', d', fr', nI (wI (d + 1) k0), nI (wJ (d + 1) k0), ?_, y3⟩
                have n1' : itX (m_fourth_L137 (nI d) (lN P) rows (nI u0) (nI u1) 1 0) (0, d0) = some d1 := by
                  rw [← fL_o (P := P) hP, ← fL_z (P := P)]
                  exact n1
                have y2' := (show m_made (nI d) (lN P) (nI c) sorts rows d1 (sorts u0) = m_made (nI d) (lN P) (nI c) sorts rows d1 (nI t) by rw [hs0]).trans y2
                unfold m_fourth
                simp only [↓ob o12, ↓ob o23, n10, z0, zp, h01, h12, h02, ↓ob m1', ↓ob hpm, ↓ob y1, ↓ob n1', if_pos g0, cl0, ↓ob y2', ↓reduceIte]
            · clear hgk
              have hne : (nI rk = (2 : Int32)) = False := n_ne (b := 2) hr2 (by omega) (by omega)
              refine same (-1) hp7 sz7 ((hg.tr p3).tr k2) ?_ ⟨fr', ?_⟩
              · unfold f_X5_fourth
                simp only [↓ob l0, hC.o3, ↓ob it, ↓ob a1', ↓ob b1', ↓ob c1', ↓ob e1', hC5.o5, ↓ob p1, ↓Option.elim_some, z0, ↓ob r76, ↓ob p06, zp, h01, h12, h02, ↓ob r86, he6.o2, ↓ob k1, hne, ↓reduceIte]
              · unfold m_fourth
                simp only [↓ob o12, ↓ob o23, n10, z0, zp, h01, h12, h02, ↓ob m1, hne, ↓reduceIte]
    · refine same (-2) hp6 sz6 (hg.tr p3) ?_ ⟨frame, ?_⟩
      · unfold f_X5_fourth
        simp only [↓ob l0, hC.o3, ↓ob it, ↓ob a1', ↓ob b1', ↓ob c1', ↓ob e1', hC5.o5, ↓ob p1, ↓Option.elim_some, z0, ↓ob r76, ↓ob p06, zp, ↓reduceIte]
      · unfold m_fourth
        simp only [↓ob o12, ↓ob o23, n10, z0, zp, ↓reduceIte]
  · obtain ⟨hp6, sz6, p1, p3⟩ := g2 hgood
    have it : ∃ y, f_X3_item hp (ad 0) x1 = some y := by
      rcases ix_cl c hle x1 with ⟨a, ha, rfl⟩ | hx1
      · exact ⟨_, hC.item ha⟩
      · exact ⟨_, hC.itemX hx1⟩
    obtain ⟨y, it⟩ := it
    refine ⟨(-2, c, S, R), ext_id hI hle _, CO.same hC (hg.tr p3) ?_, sorts, rows, draft, frame, pI, pJ, ?_, hS, hK⟩
    · unfold f_X5_fourth
      cases y with
      | none => simp only [↓ob l0, hC.o3, ↓ob it, ↓ob a1', ↓ob b1', ↓ob c1', ↓ob e1', hC5.o5, ↓ob p1, ↓Option.elim_none, ↓reduceIte]
      | some y => simp only [↓ob l0, hC.o3, ↓ob it, ↓ob a1', ↓ob b1', ↓ob c1', ↓ob e1', hC5.o5, ↓ob p1, ↓Option.elim_none, ↓Option.elim_some, ↓reduceIte]
    · unfold m_fourth
      by_cases z12 : ∃ a b, a < c ∧ b < c ∧ x1 = nI a ∧ x2 = nI b ∧ S a = S b ∧ (S a = 0 ∨ S a = d - 1)
      · have o12 := q12 z12
        by_cases z23 : ∃ a b, a < c ∧ b < c ∧ x2 = nI a ∧ x3 = nI b ∧ S a = S b ∧ (S a = 0 ∨ S a = d - 1)
        · exfalso
          obtain ⟨a, b, ha, hb, r1, r2, r3, r4⟩ := z12
          obtain ⟨b', e, hb', he', r5, r6, r7, -⟩ := z23
          have inj : ∀ u v, u < c → v < c → nI u = nI v → u = v := fun u v hu hv q => (nI_eq (by omega) (by omega)).mp q
          have eb := inj b b' hb hb' (r2.symm.trans r5)
          subst eb
          refine hgood ⟨S a, r4, fun k hk => ?_⟩
          have cl : ∀ u, u < c → (nI u).toNatClampNeg = u := fun u hu => nI_clamp (by omega)
          rcases (show k = 0 ∨ k = 1 ∨ k = 2 by omega) with rfl | rfl | rfl
          · rw [f0, r1, cl a ha]; exact ⟨ha, rfl, rfl⟩
          · rw [f1, r2, cl b hb]; exact ⟨hb, rfl, r3.symm⟩
          · rw [f2, r6, cl e he']; exact ⟨he', rfl, by rw [← r7, ← r3]⟩
        · have o23 := n23 z23
          simp only [↓ob o12, ↓ob o23, n10, n00, ↓reduceIte]
      · have o12 := n12 z12
        simp only [↓ob o12, n00, ↓reduceIte]
end FOURTH
