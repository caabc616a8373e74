section HOLDSD
variable {P : Nat} {d sz o : Nat} {hp : cH} {ad im rw : Nat → Nat} {c : Nat} {S : Nat → Nat} {R : Nat → Nat → Fin P} {H : Nat → Fin P} {g : Nat} {Gs : Nat → Nat} {m : Nat} {pA pB : Nat → Nat} {id : Int32}
theorem x_three (x : Int32) : x < 0 ∨ (¬ x < 0 ∧ x ≤ 2 ∧ ∃ t, t < 3 ∧ x = nI t) ∨ (¬ x < 0 ∧ ¬ x ≤ 2) := by
  by_cases h0 : x < 0
  · exact Or.inl h0
  · by_cases h1 : x ≤ 2
    · refine Or.inr (Or.inl ⟨h0, h1, x.toInt.toNat, ?_⟩)
      rw [Int32.lt_iff_toInt_lt] at h0
      rw [Int32.le_iff_toInt_le] at h1
      have z : (0 : Int32).toInt = 0 := rfl
      have z2 : (2 : Int32).toInt = 2 := rfl
      rw [z] at h0
      rw [z2] at h1
      refine ⟨by omega, ?_⟩
      apply Int32.toInt_inj.mp
      rw [nI_toInt (by omega)]
      omega
    · exact Or.inr (Or.inr ⟨h0, h1⟩)
noncomputable def hFn (o sz2 : Nat) (r : (cH × Nat × Nat) ⊕ (Int32 × cH × Nat)) : Option (Int32 × cH × Nat) := match r with
  | .inl (hp91, z92, rc93) => ((gR hp91 o 5 8).bind fun w97 => if isO hp91 w97 2 = true then if 10 ≤ rc93 then (f_X2_rankOf hp91 z92 w97 sz2).bind fun (r101, hp102, z103) => if ((3 : Int32)) ≤ r101 then ((f_X5_oneIf ((0 : Int32))).bind fun r105 => some (r105, hp102, z103)) else ((f_X5_oneIf ((1 : Int32))).bind fun r107 => some (r107, hp102, z103)) else none else none)
  | .inr o96 => some o96
theorem st_holds (hp0 : isP P) (ho : P % 2 = 1) [NeZero P] (hB : P < 2 ^ 31) (hI : shf d c S R) (hC : cS P d hp sz o ad im rw c S R H g Gs m pA pB id) {sorts : Nat → Int32} {rows : Nat → Int64} (hS : sK sorts S c) (hK : rK c rows R) {ga : Nat → Int32} (hG : pK c ga Gs g) (hG2 : ∀ k, k < g → S (Gs k) = 0) (draft frame one two turned : Nat → Int64) (x1 : Int32) : ∃ v hp' sz' d' f' o' t' u', f_X5_holds hp sz o x1 = some (v, hp', sz') ∧ gro hp sz hp' sz' ∧ m_holds (nI d) (lN P) rows (nI g) ga draft frame one two turned x1 = some (v, d', f', o', t', u') := by
  have hP := hp0.1
  have hle := hC.le
  have hd := hC.hd
  have i5 := hC.i5
  have r2 := hC.r2
  have i10 := hC.i10
  have hgm := hC.gm
  rcases hd with rfl | rfl
  · have e22 : (nI 2 = (2 : Int32)) = True := by apply eq_true; decide
    have e23 : (nI 2 = (3 : Int32)) = False := by apply eq_false; decide
    rcases x_three x1 with z | ⟨z0, z2, t, ht, rfl⟩ | ⟨z0, z2⟩
    · refine ⟨-2, hp, sz, draft, frame, one, two, turned, ?_, gro.rf, ?_⟩
      · unfold f_X5_holds
        simp only [↓ob i5, e22, z, ↓reduceIte]
      · unfold m_holds
        simp only [e23, z, ↓reduceIte]
    · by_cases h6 : g = 6
      · subst h6
        have e66 : (nI 6 = (6 : Int32)) = True := by apply eq_true; decide
        have hC0 := hC
        obtain ⟨-, -, -, -, -, ⟨⟨⟨f, k6, k6'⟩, k6''⟩, -, -, -⟩, -⟩ := hC0
        obtain ⟨hp1, A1, a1, a2, a3⟩ := c_pts hC (n := 6) (G := Gs) k6 k6'' (by omega) (by omega) (fun k hk => ⟨k6' k hk, (hG k hk).2, hG2 k hk⟩)
        have h1 := hC.gg a3
        obtain ⟨v, hp2, sz2, b1, b2, b3, b4⟩ := e_supposed hp0 hB h1 (X := fun k => R (Gs k)) a2 ht
        have hne : ∀ a b, a < 6 → b < 6 → (Gs a = Gs b ↔ ¬ ldV (cr3 (R (Gs a)) (R (Gs b))) 3 < 3) := by
          intro a b ha hb
          have na := (hI.1 (Gs a) (hG a ha).2).1
          have nb := (hI.1 (Gs b) (hG b hb).2).1
          rw [hG2 a ha] at na
          rw [hG2 b hb] at nb
          have na' : nrm 3 (R (Gs a)) := na
          have nb' : nrm 3 (R (Gs b)) := nb
          refine ⟨fun q w => ?_, fun q => ?_⟩
          · have : ldV (cr3 (R (Gs a)) (R (Gs b))) 3 = 3 := ldV_eq.mpr (fun j _ => by rw [q]; exact cr3_s _ j)
            omega
          · by_cases e : ∀ j, j < 3 → R (Gs a) j = R (Gs b) j
            · exact hI.2 _ _ (hG a ha).2 (hG b hb).2 (by rw [hG2 a ha, hG2 b hb]) (by rw [hG2 a ha]; exact e)
            · exfalso
              have := ln_nz hp0 (Or.inl rfl) na' nb' e
              have hlt : ldV (lnF 3 (R (Gs a)) (R (Gs b))) 3 < 3 := this
              exact q (ldV_lt hlt (by rw [← ln_cr _ _ hlt]; exact ldV_nz hlt))
        obtain ⟨f1, o1, t1, u1, c1, c2⟩ := r_supposed hP hB hK hG hne draft frame one two turned ht
        have hg2 := a3.tr b2
        have a1' : f_X5_pointRows hp sz o (ad 2) 6 = some (sz, hp1, sz + 1) := a1
        by_cases hs : spp t (fun k => R (Gs k))
        · have hv := b3 hs
          subst hv
          have e10 : ((1 : Int32) = 0) = False := by apply eq_false; decide
          obtain ⟨v, d', f', o', t', u', d1, d2, d3⟩ := r_tail hP hB hK hG draft f1 o1 t1 u1 ht
          have h2 := hC.gg hg2
          have X2 := a2.g b2
          obtain ⟨hp3, n1, n2⟩ := bP.nw (hp := hp2) (sz := sz2) (n := 3) (w := 3) (X := hxM (decide (t = 1)) (fun k => R (Gs k))) (by omega)
          have n1' : nR 3 hp2 sz2 3 = some hp3 := n1
          obtain ⟨hp4, sz4, g1, g2, g3⟩ := e_sides hp0 hB h2 X2 (decide (t = 1)) (if decide (t = 1) = true then sTri else sHex) (fun j hj => hx_t _ j hj) 3 0 rfl (rc := 28) (by omega) n2
          have hg4 := hg2.tr g1
          have h4 := hC.gg hg4
          have r84 := h4.r8
          -- the class, from the loop's end
          have cls : ∀ r out, itX (fun s => f_X5_holds_L77 o sz (if decide (t = 1) = true then sTri else sHex) sz2 s.1 s.2.1 s.2.2.1 s.2.2.2) (nI 0, hp3, sz2 + 1, 28) = some r → hFn o sz2 r = some out → f_X5_holds hp sz o (nI t) = some out := by
            intro r out q1 q2
            by_cases e1 : t = 1
            · have e11 : (nI t = (1 : Int32)) = True := by rw [e1]; apply eq_true; decide
              have q1' : itX (fun s => f_X5_holds_L77 o sz sTri sz2 s.1 s.2.1 s.2.2.1 s.2.2.2) (0, hp3, sz2 + 1, 28) = some r := by
                have : (if decide (t = 1) = true then sTri else sHex) = sTri := by rw [if_pos (by simp [e1])]
                rw [this] at q1
                exact q1
              unfold f_X5_holds
              simp only [↓ob i5, e22, z0, z2, ↓ob i10, e66, ↓ob r2, hC.o5, ↓ob a1', h1.o5, ↓ob b1, e10, e11, ↓ob n1', ↓ob q1', ↓reduceIte]
              rcases r with ⟨ra, rb, rc0⟩ | r0
              · exact q2
              · exact q2
            · have e11 : (nI t = (1 : Int32)) = False := n_ne (b := 1) e1 (by omega) (by omega)
              have q1' : itX (fun s => f_X5_holds_L77 o sz sHex sz2 s.1 s.2.1 s.2.2.1 s.2.2.2) (0, hp3, sz2 + 1, 28) = some r := by
                have : (if decide (t = 1) = true then sTri else sHex) = sHex := by rw [if_neg (by simp [e1])]
                rw [this] at q1
                exact q1
              unfold f_X5_holds
              simp only [↓ob i5, e22, z0, z2, ↓ob i10, e66, ↓ob r2, hC.o5, ↓ob a1', h1.o5, ↓ob b1, e10, e11, ↓ob n1', ↓ob q1', ↓reduceIte]
              rcases r with ⟨ra, rb, rc0⟩ | r0
              · exact q2
              · exact q2
          by_cases hall : ∀ l, 0 ≤ l → l < 3 → ldV (hxM (decide (t = 1)) (fun k => R (Gs k)) l) 3 < 3
          · obtain ⟨rc', j1, j2, j3⟩ := g2 hall
            obtain ⟨d4, d5⟩ := d3 hall
            obtain ⟨A', j4⟩ := j3.all
            obtain ⟨hp5, sz5, m1, m2⟩ := e_rankOf hP hB h4.e j4 (by decide) (by decide) (by decide)
            have hle := (gj_le 3 (hxM (decide (t = 1)) (fun k => R (Gs k))) 3).1
            generalize (gj 3 (hxM (decide (t = 1)) (fun k => R (Gs k))) 3).1 = r1 at m1 hle d4 d5
            have o1 : f_X5_oneIf 1 = some 1 := rfl
            have o0 : f_X5_oneIf 0 = some 0 := rfl
            refine ⟨v, hp5, sz5, d', f', o', t', u', cls _ _ j2 ?_, hg4.tr m2, by rw [c1 hs]; exact d1⟩
            unfold hFn
            by_cases hr : r1 < 3
            · rw [d4 hr]
              have l1 : ¬ (3 : Int32) ≤ nI r1 := fun w => absurd ((nI_3le (show r1 < 2 ^ 31 by omega)).mp w) (by omega)
              simp only [↓ob r84, h4.e.o2, j1, ↓ob m1, l1, ↓ob o1, ↓reduceIte]
            · rw [d5 hr]
              have l1 := (nI_3le (show r1 < 2 ^ 31 by omega)).mpr (show 3 ≤ r1 by omega)
              simp only [↓ob r84, h4.e.o2, j1, ↓ob m1, l1, ↓ob o0, ↓reduceIte]
          · have j2 := g3 hall
            refine ⟨-1, hp4, sz4, d', f', o', t', u', cls _ _ j2 rfl, hg4, ?_⟩
            rw [c1 hs, d1, d2 hall]
        · have hv := b4 hs
          subst hv
          have e00 : ((0 : Int32) = 0) = True := by apply eq_true; decide
          refine ⟨-1, hp2, sz2, draft, f1, o1, t1, u1, ?_, hg2, c2 hs⟩
          unfold f_X5_holds
          simp only [↓ob i5, e22, z0, z2, ↓ob i10, e66, ↓ob r2, hC.o5, ↓ob a1', h1.o5, ↓ob b1, e00, ↓reduceIte]
      · have e6 : (nI g = (6 : Int32)) = False := n_ne (b := 6) h6 (by omega) (by omega)
        refine ⟨-1, hp, sz, draft, frame, one, two, turned, ?_, gro.rf, ?_⟩
        · unfold f_X5_holds
          simp only [↓ob i5, e22, z0, z2, ↓ob i10, e6, ↓reduceIte]
        · unfold m_holds
          simp only [e23, z0, z2, e6, ↓reduceIte]
    · refine ⟨-2, hp, sz, draft, frame, one, two, turned, ?_, gro.rf, ?_⟩
      · unfold f_X5_holds
        simp only [↓ob i5, e22, z0, z2, ↓reduceIte]
      · unfold m_holds
        simp only [e23, z0, z2, ↓reduceIte]
  · have e32 : (nI 3 = (2 : Int32)) = False := by apply eq_false; decide
    have e33 : (nI 3 = (3 : Int32)) = True := by apply eq_true; decide
    refine ⟨-2, hp, sz, draft, frame, one, two, turned, ?_, gro.rf, ?_⟩
    · unfold f_X5_holds
      simp only [↓ob i5, e32, ↓reduceIte]
    · unfold m_holds
      simp only [e33, ↓reduceIte]
end HOLDSD
