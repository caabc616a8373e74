section RATIO
variable {P : Nat} {d sz o : Nat} {hp : cH} {ad im rw : Nat → Nat} {c : Nat} {S : Nat → Nat} {R : Nat → Nat → Fin P} {H : Nat → Fin P} {g : Nat} {Gs : Nat → Nat} {m : Nat} {pA pB : Nat → Nat} {id : Int32}
theorem nI_r {hp : cH} {sz n : Nat} (hn : n ≤ 64) : ∃ hp', nI_ hp sz (nI n) = some hp' ∧ hp' sz = some (.inl (0, n, .inl (fun _ => 0))) ∧ gro hp sz hp' (sz + 1) := by
  refine ⟨va_up hp sz (some (.inl (0, n, .inl (fun _ => 0)))), ?_, by simp [va_up], fun b hb => ?_, by omega⟩
  · unfold nI_
    rw [if_pos ⟨nI_pos (by omega), by rw [nI_clamp (by omega)]; exact hn⟩, nI_clamp (by omega)]
  · have : b ≠ sz := fun e => hb (by rw [e]; exact Nat.le_refl _)
    simp [va_up, this]
theorem sI_r {hp : cH} {a n k : Nat} {f : Nat → Int32} {v : Int32} (h : hp a = some (.inl (0, n, .inl f))) (hk : k < n) (hn : n < 2 ^ 31) : ∃ hp', sI hp a (nI k) v = some hp' ∧ hp' a = some (.inl (0, n, .inl (upd f k v))) ∧ oth hp hp' (fun b => b = a) := ⟨_, sI_of h hk hn, by simp [va_up], fun b hb => by have : ¬ b = a := hb; simp [va_up, this]⟩
theorem rk_cg [NeZero P] {h w : Nat} {X Y : Mx P} (e : ∀ i j, i < h → j < w → X i j = Y i j) : (gj h X w).1 = (gj h Y w).1 := (gj_cols e w (Nat.le_refl w)).1
theorem st_cross (hp0 : isP P) (ho : P % 2 = 1) [NeZero P] (hB : P < 2 ^ 31) (hI : shf d c S R) (hC : cS P d hp sz o ad im rw c S R H g Gs m pA pB id) {sorts : Nat → Int32} {rows : Nat → Int64} (hS : sK sorts S c) (hK : rK c rows R) (frame : Nat → Int64) (pI pJ : Int32) (x1 x2 x3 x4 : Int32) : ∃ v hp' sz' f' i' j', f_X5_cross hp sz o x1 x2 x3 x4 = some (v, hp', sz') ∧ gro hp sz hp' sz' ∧ m_cross (nI d) (lN P) (nI c) sorts rows frame pI pJ x1 x2 x3 x4 = some (v, f', i', j') := by
  have hP := hp0.1
  have hle := hC.le
  have hd := hC.hd
  have hw := hC.hw
  have h5 : ∀ a, a < c → S a < 5 := fun a ha => hC.s5 ha
  have hd16 : d + 1 ≤ 16 := by omega
  have hd4 : d + 1 ≤ 4 := by omega
  obtain ⟨hp1, a1, a2, a3⟩ := nI_r (hp := hp) (sz := sz) (n := 4) (by omega)
  obtain ⟨hp2, b1, b2, b3⟩ := sI_r (k := 0) (v := x1) a2 (by omega) (by omega)
  obtain ⟨hp3, c1, c2, c3⟩ := sI_r (k := 1) (v := x2) b2 (by omega) (by omega)
  obtain ⟨hp4, d1, d2, d3⟩ := sI_r (k := 2) (v := x3) c2 (by omega) (by omega)
  obtain ⟨hp5, e1, e2, e3⟩ := sI_r (k := 3) (v := x4) d2 (by omega) (by omega)
  have hg : gro hp sz hp5 (sz + 1) := (((a3.st b3 (Nat.le_refl _)).st c3 (Nat.le_refl _)).st d3 (Nat.le_refl _)).st e3 (Nat.le_refl _)
  have hC5 := hC.gg hg
  generalize hf : upd (upd (upd (upd (fun _ => 0) 0 x1) 1 x2) 2 x3) 3 x4 = f at e2
  have f0 : f 0 = x1 := by rw [← hf]; simp [upd]
  have f1 : f 1 = x2 := by rw [← hf]; simp [upd]
  have f2 : f 2 = x3 := by rw [← hf]; simp [upd]
  have f3 : f 3 = x4 := by rw [← hf]; simp [upd]
  obtain ⟨g1, g2⟩ := c_rows1 hC5 (n := 4) (f := f) (ix := fun k => (f k).toNatClampNeg) e2 (by omega) (by omega) (by omega) (fun k _ a ha e => by (try dsimp only); rw [e]; exact nI_clamp (by omega))
  have a1' : nI_ hp sz 4 = some hp1 := a1
  have b1' : sI hp1 sz 0 x1 = some hp2 := b1
  have c1' : sI hp2 sz 1 x2 = some hp3 := c1
  have d1' : sI hp3 sz 2 x3 = some hp4 := d1
  have e1' : sI hp4 sz 3 x4 = some hp5 := e1
  obtain ⟨q12, n12⟩ := r_areOne h5 hle hd hS x1 x2
  obtain ⟨q23, n23⟩ := r_areOne h5 hle hd hS x2 x3
  obtain ⟨q34, n34⟩ := r_areOne h5 hle hd hS x3 x4
  by_cases hgood : ∃ t, (t = 0 ∨ t = d - 1) ∧ ∀ k, k < 4 → (f k).toNatClampNeg < c ∧ f k = nI (f k).toNatClampNeg ∧ S (f k).toNatClampNeg = t
  · obtain ⟨r, hp6, sz6, A, p1, p2, p3⟩ := g1 hgood
    obtain ⟨t, ht, hall⟩ := hgood
    have A0 := hall 0 (by omega)
    have A1 := hall 1 (by omega)
    have A2 := hall 2 (by omega)
    have A3 := hall 3 (by omega)
    rw [f0] at A0
    rw [f1] at A1
    rw [f2] at A2
    rw [f3] at A3
    generalize hi0 : x1.toNatClampNeg = u0 at A0
    generalize hi1 : x2.toNatClampNeg = u1 at A1
    generalize hi2 : x3.toNatClampNeg = u2 at A2
    generalize hi3 : x4.toNatClampNeg = u3 at A3
    obtain ⟨v0, w0, s0⟩ := A0
    obtain ⟨v1, w1, s1⟩ := A1
    obtain ⟨v2, w2, s2⟩ := A2
    obtain ⟨v3, w3, s3⟩ := A3
    have o12 := q12 ⟨u0, u1, v0, v1, w0, w1, by rw [s0, s1], by rw [s0]; exact ht⟩
    have o23 := q23 ⟨u1, u2, v1, v2, w1, w2, by rw [s1, s2], by rw [s1]; exact ht⟩
    have o34 := q34 ⟨u2, u3, v2, v3, w2, w3, by rw [s2, s3], by rw [s2]; exact ht⟩
    have hwd : wd d t = d + 1 := by rcases ht with z | z <;> rw [z]; rfl; exact wdf hd
    have h6 := hC5.gg p3
    have he6 := h6.e
    have r86 := h6.r8
    generalize hX : (fun k => R ((fun k => (f k).toNatClampNeg) k)) = X at p2
    have X0 : X 0 = R u0 := by rw [← hX]; show R (f 0).toNatClampNeg = _; rw [f0, hi0]
    have X1 : X 1 = R u1 := by rw [← hX]; show R (f 1).toNatClampNeg = _; rw [f1, hi1]
    have X2 : X 2 = R u2 := by rw [← hX]; show R (f 2).toNatClampNeg = _; rw [f2, hi2]
    have X3 : X 3 = R u3 := by rw [← hX]; show R (f 3).toNatClampNeg = _; rw [f3, hi3]
    clear hi0 hi1 hi2 hi3 hall
    have nX : ∀ i, i < 4 → nrm (d + 1) (X i) := by
      intro i hi
      have gen : ∀ u, u < c → S u = t → nrm (d + 1) (R u) := fun u hu hs => by have := (hI.1 u hu).1; rw [hs, hwd] at this; exact this
      rcases (show i = 0 ∨ i = 1 ∨ i = 2 ∨ i = 3 by omega) with rfl | rfl | rfl | rfl
      · rw [X0]; exact gen u0 v0 s0
      · rw [X1]; exact gen u1 v1 s1
      · rw [X2]; exact gen u2 v2 s2
      · rw [X3]; exact gen u3 v3 s3
    obtain ⟨hp7, sz7, k1, k2⟩ := e_rankOf hP hB he6 p2 (by decide) (by decide) hd16
    obtain ⟨fr', m1⟩ := s_rankOf hP hB (fr := frame) hK v0 v1 v2 v3 hd
    have hrk : (gj 4 (fun i => R (if i = 0 then u0 else if i = 1 then u1 else if i = 2 then u2 else u3)) (d + 1)).1 = (gj 4 X (d + 1)).1 := rk_cg (fun i j hi _ => by
      rcases (show i = 0 ∨ i = 1 ∨ i = 2 ∨ i = 3 by omega) with rfl | rfl | rfl | rfl
      · rw [X0]; rfl
      · rw [X1]; rfl
      · rw [X2]; rfl
      · rw [X3]; rfl)
    rw [hrk] at m1
    clear hrk
    have hr4 := (gj_le 4 X (d + 1)).1
    generalize hgk : (gj 4 X (d + 1)).1 = rk at k1 m1 hr4
    subst w0
    subst w1
    subst w2
    subst w3
    by_cases hr2 : rk = 2
    · have hr : (gj 4 X (d + 1)).1 = 2 := hgk.trans hr2
      obtain ⟨j1, j2, j3, j4, j5⟩ := first_k hp0 hw hr (by decide) nX
      have h7 := h6.gg k2
      have he7 := h7.e
      have r97 := h7.r9
      obtain ⟨hp8, sz8, l1, l2⟩ := e_crossRatio hP hB he7 hw (p2.g k2) j2 j3 j4 j5
      have hpl := place_eq hp0 hw hr (by decide) j3 j4
      clear hr hgk
      generalize hk0 : ldV (wgF (d + 1) (X 0) (X j1)) (swi (d + 1) (d + 1)) = k0 at *
      have hij := wIJ_w hw j4
      have hJ4 : wJ (d + 1) k0 < 4 := Nat.lt_of_lt_of_le hij.2.1 hd4
      have hI4 : wI (d + 1) k0 < 4 := Nat.lt_trans hij.1 hJ4
      have hpm := s_places hP hB hK v0 v1 v2 v3 hd (k0 := k0) j4 (by
        have hne : wgF (d + 1) (X 0) (X j1) k0 ≠ 0 := by rw [← hk0]; exact ldV_nz (by rw [hk0]; exact j4)
        unfold sme
        rcases (show j1 = 1 ∨ j1 = 2 ∨ j1 = 3 by omega) with rfl | rfl | rfl
        · rw [X0, X1] at hne; exact Or.inl hne
        · rw [X0, X2] at hne; exact Or.inr (Or.inl hne)
        · rw [X0, X3] at hne; exact Or.inr (Or.inr (Or.inl hne))) (fun k hk => by
        have z := fun a b (ha : a < 4) (hb : b < 4) => (hpl a b ha hb).1 k hk
        have z01 := z 0 1 (by omega) (by omega)
        have z02 := z 0 2 (by omega) (by omega)
        have z03 := z 0 3 (by omega) (by omega)
        have z12 := z 1 2 (by omega) (by omega)
        have z13 := z 1 3 (by omega) (by omega)
        have z23 := z 2 3 (by omega) (by omega)
        rw [X0, X1] at z01
        rw [X0, X2] at z02
        rw [X0, X3] at z03
        rw [X1, X2] at z12
        rw [X1, X3] at z13
        rw [X2, X3] at z23
        unfold sme
        rintro (z | z | z | z | z | z)
        · exact z z01
        · exact z z02
        · exact z z03
        · exact z z12
        · exact z z13
        · exact z z23) pI pJ
      have br : ∀ a b, a < c → b < c → m_brackets (lN P) rows (nI (wI (d + 1) k0)) (nI (wJ (d + 1) k0)) (nI a) (nI b) = some (fL (wgF (d + 1) (R a) (R b) k0)) := fun a b ha hb => by
        have := s_bracket hP hB hK ha hb hI4 hJ4
        unfold m_brackets
        rw [ob this]
        rfl
      have br02 := br u0 u2 v0 v2
      have br13 := br u1 u3 v1 v3
      have br12 := br u1 u2 v1 v2
      have br03 := br u0 u3 v0 v3
      have t1 := s_times hP hB (wgF (d + 1) (R u0) (R u2) k0) (wgF (d + 1) (R u1) (R u3) k0)
      have t2 := s_times hP hB (wgF (d + 1) (R u1) (R u2) k0) (wgF (d + 1) (R u0) (R u3) k0)
      have ov := s_over hP hB (wgF (d + 1) (R u1) (R u2) k0 * wgF (d + 1) (R u0) (R u3) k0)
      have t3 := s_times hP hB (wgF (d + 1) (R u0) (R u2) k0 * wgF (d + 1) (R u1) (R u3) k0) (fi (wgF (d + 1) (R u1) (R u2) k0 * wgF (d + 1) (R u0) (R u3) k0))
      refine ⟨xrF (d + 1) k0 X, hp8, sz8, fr', nI (wI (d + 1) k0), nI (wJ (d + 1) k0), ?_, ((hg.tr p3).tr k2).tr l2, ?_⟩
      · have k1' : f_X2_rankOf hp6 sz6 (ad 8) r = some (2, hp7, sz7) := by rw [k1, hr2]; rfl
        unfold f_X5_cross
        simp only [↓ob a1', ↓ob b1', ↓ob c1', ↓ob d1', ↓ob e1', hC5.o5, ↓ob p1, ↓Option.elim_some, ↓ob r86, he6.o2, ↓ob k1', ↓ob r97, he7.o4, ↓ob l1, ↓reduceIte]
      · have m1' : m_rankOf (nI d) (lN P) rows frame (nI u0) (nI u1) (nI u2) (nI u3) = some (2, fr') := by rw [m1, hr2]; rfl
        unfold xrF m_cross
        rw [X0, X1, X2, X3]
        by_cases y1 : wgF (d + 1) (R u1) (R u2) k0 * wgF (d + 1) (R u0) (R u3) k0 = 0
        · rw [if_pos y1]
          by_cases y2 : wgF (d + 1) (R u0) (R u2) k0 * wgF (d + 1) (R u1) (R u3) k0 = 0
          · rw [if_pos y2]
            simp only [↓ob o12, ↓ob o23, ↓ob o34, n10, ↓ob m1', ↓ob hpm, ↓ob br02, ↓ob br13, ↓ob br12, ↓ob br03, ↓ob t1, ↓ob t2, lz64 (P := P), fL_eq hB, y1, y2, ↓reduceIte]
          · rw [if_neg y2]
            simp only [↓ob o12, ↓ob o23, ↓ob o34, n10, ↓ob m1', ↓ob hpm, ↓ob br02, ↓ob br13, ↓ob br12, ↓ob br03, ↓ob t1, ↓ob t2, lz64 (P := P), fL_eq hB, y1, y2, ↓reduceIte]
        · rw [if_neg y1]
          simp only [↓ob o12, ↓ob o23, ↓ob o34, n10, ↓ob m1', ↓ob hpm, ↓ob br02, ↓ob br13, ↓ob br12, ↓ob br03, ↓ob t1, ↓ob t2, lz64 (P := P), fL_eq hB, y1, ↓ob ov, ↓ob t3, ↓reduceIte]
    · clear hgk
      have hne : (nI rk = (2 : Int32)) = False := n_ne (b := 2) hr2 (by omega) (by omega)
      refine ⟨-1, hp7, sz7, fr', pI, pJ, ?_, (hg.tr p3).tr k2, ?_⟩
      · unfold f_X5_cross
        simp only [↓ob a1', ↓ob b1', ↓ob c1', ↓ob d1', ↓ob e1', hC5.o5, ↓ob p1, ↓Option.elim_some, ↓ob r86, he6.o2, ↓ob k1, hne, ↓reduceIte]
      · unfold m_cross
        simp only [↓ob o12, ↓ob o23, ↓ob o34, n10, ↓ob m1, hne, ↓reduceIte]
  · obtain ⟨hp6, sz6, p1, p3⟩ := g2 hgood
    refine ⟨-2, hp6, sz6, frame, pI, pJ, ?_, hg.tr p3, ?_⟩
    · unfold f_X5_cross
      simp only [↓ob a1', ↓ob b1', ↓ob c1', ↓ob d1', ↓ob e1', hC5.o5, ↓ob p1, ↓Option.elim_none, ↓reduceIte]
    · unfold m_cross
      by_cases z12 : ∃ a b, a < c ∧ b < c ∧ x1 = nI a ∧ x2 = nI b ∧ S a = S b ∧ (S a = 0 ∨ S a = d - 1)
      · have o12 := q12 z12
        by_cases z23 : ∃ a b, a < c ∧ b < c ∧ x2 = nI a ∧ x3 = nI b ∧ S a = S b ∧ (S a = 0 ∨ S a = d - 1)
        · have o23 := q23 z23
          by_cases z34 : ∃ a b, a < c ∧ b < c ∧ x3 = nI a ∧ x4 = nI b ∧ S a = S b ∧ (S a = 0 ∨ S a = d - 1)
          · exfalso
            obtain ⟨a, b, ha, hb, r1, r2, r3, r4⟩ := z12
            obtain ⟨b', e, hb', he', r5, r6, r7, -⟩ := z23
            obtain ⟨e', g', hee, hgg, r8, r9, r10, -⟩ := z34
            have inj : ∀ u v, u < c → v < c → nI u = nI v → u = v := fun u v hu hv q => (nI_eq (by omega) (by omega)).mp q
            have eb := inj b b' hb hb' (r2.symm.trans r5)
            have ee := inj e e' he' hee (r6.symm.trans r8)
            subst eb
            subst ee
            refine hgood ⟨S a, r4, fun k hk => ?_⟩
            have cl : ∀ u, u < c → (nI u).toNatClampNeg = u := fun u hu => nI_clamp (by omega)
            rcases (show k = 0 ∨ k = 1 ∨ k = 2 ∨ k = 3 by omega) with rfl | rfl | rfl | rfl
            · rw [f0, r1, cl a ha]; exact ⟨ha, rfl, rfl⟩
            · rw [f1, r2, cl b hb]; exact ⟨hb, rfl, r3.symm⟩
            · rw [f2, r6, cl e he']; exact ⟨he', rfl, by rw [← r7, ← r3]⟩
            · rw [f3, r9, cl g' hgg]; exact ⟨hgg, rfl, by rw [← r10, ← r7, ← r3]⟩
          · have o34 := n34 z34
            simp only [↓ob o12, ↓ob o23, ↓ob o34, n10, n00, ↓reduceIte]
        · have o23 := n23 z23
          simp only [↓ob o12, ↓ob o23, n10, n00, ↓reduceIte]
      · have o12 := n12 z12
        simp only [↓ob o12, n00, ↓reduceIte]
end RATIO
