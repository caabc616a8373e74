section QUAD
variable {P : Nat} {d sz o : Nat} {hp : cH} {ad im rw : Nat → Nat} {c : Nat} {S : Nat → Nat} {R : Nat → Nat → Fin P} {H : Nat → Fin P} {g : Nat} {Gs : Nat → Nat} {m : Nat} {pA pB : Nat → Nat} {id : Int32}
theorem free_eq [NeZero P] (hp0 : isP P) {m N : Nat} {M : Mx P} (hN : 0 < N) (hr : (gj m M N).1 = N - 1) : ∃ f, f ≤ N - 1 ∧ fre (gj m M N).2 (N - 1) = f ∧ frl (gj m M N).2 N (N - 1) = f ∧ ∀ c, c < N → soV (gj m M N).2 f c = slV (gj m M N).2 f c := by
  obtain ⟨pv, hs⟩ := gj_stp hp0 m M N
  rw [hr] at hs
  generalize (gj m M N).2 = G at *
  obtain ⟨q1, q2, q3, q4, q5, q6⟩ := hs
  have hf : ∃ f, f ≤ N - 1 ∧ (∀ k, k < f → pv k = k) ∧ (f < N - 1 → f < pv f) := by
    have gen : ∀ n, n ≤ N - 1 → (∀ k, k < n → pv k = k) ∨ ∃ f, f < n ∧ (∀ k, k < f → pv k = k) ∧ pv f ≠ f := by
      intro n
      induction n with
      | zero => intro _; exact Or.inl (fun k hk => by omega)
      | succ n ih =>
        intro hn
        rcases ih (by omega) with u | ⟨f, u, v, z⟩
        · by_cases e : pv n = n
          · refine Or.inl (fun k hk => ?_)
            by_cases e2 : k = n
            · rw [e2]; exact e
            · exact u k (by omega)
          · exact Or.inr ⟨n, by omega, u, e⟩
        · exact Or.inr ⟨f, by omega, v, z⟩
    rcases gen (N - 1) (Nat.le_refl _) with u | ⟨f, u, v, z⟩
    · exact ⟨N - 1, Nat.le_refl _, u, fun q => by omega⟩
    · refine ⟨f, by omega, v, fun _ => ?_⟩
      by_cases e0 : f = 0
      · omega
      · have h1 := q3 (f - 1) f (by omega) (by omega)
        have h2 := v (f - 1) (by omega)
        omega
  obtain ⟨f, f1, f2, f3⟩ := hf
  have hgt : ∀ k, f ≤ k → k < N - 1 → f < pv k := by
    intro k h1 h2
    by_cases e : k = f
    · rw [e]
      exact f3 (by omega)
    · have := q3 f k (by omega) h2
      have := f3 (by omega)
      omega
  have hone : ∀ k, k < f → G k k = 1 := by
    intro k hk
    have := q4 k k (by omega) (by omega)
    rw [f2 k hk, if_pos rfl] at this
    exact this
  have hsr : ∀ (p : Nat → Bool), (∀ k, k < f → p k = false) → (f < N - 1 → p f = true) → sr p (N - 1) 0 = f := by
    intro p h1 h2
    have hl := sr_le p (N - 1) 0
    rcases Nat.lt_trichotomy (sr p (N - 1) 0) f with c | c | c
    · have := sr_t p (N - 1) 0 (by omega)
      rw [h1 _ c] at this
      exact absurd this (by decide)
    · exact c
    · have := sr_f p (N - 1) 0 f (by omega) c
      rw [h2 (by omega)] at this
      exact absurd this (by decide)
  refine ⟨f, f1, ?_, ?_, fun c hc => ?_⟩
  · unfold fre
    refine hsr _ (fun k hk => ?_) (fun hk => ?_)
    · rw [decide_eq_false_iff_not]
      exact fun q => q (hone k hk)
    · rw [decide_eq_true_eq, q5 f f hk (f3 hk)]
      exact fun q => one_ne hp0 q.symm
  · unfold frl
    refine hsr _ (fun k hk => ?_) (fun hk => ?_)
    · rw [decide_eq_false_iff_not]
      refine fun q => q (ldV_un (by omega) ?_ (fun i hi => ?_))
      · rw [hone k hk]
        exact one_ne hp0
      · exact q5 k i (by omega) (by rw [f2 k hk]; exact hi)
    · rw [decide_eq_true_eq]
      intro q
      have hlt : ldV (G f) N < N := by omega
      have := ldV_nz hlt
      rw [q] at this
      exact this (q5 f f hk (f3 hk))
  · unfold soV slV
    by_cases c1 : c = f
    · rw [if_pos c1, if_pos c1]
    · rw [if_neg c1, if_neg c1]
      by_cases c2 : c < f
      · rw [if_pos c2, if_pos c2]
      · rw [if_neg c2, if_neg c2, q5 (c - 1) f (by omega) (hgt (c - 1) (by omega) (by omega))]
        grind
theorem qd_sym {w : Nat} (V : Nat → Fin P) : sym w (qdF w V) := by
  intro i j hi hj
  unfold qdF
  rw [show (i * w + j) / w = i by rw [Nat.mul_comm, Nat.mul_add_div (by omega), Nat.div_eq_of_lt hj, Nat.add_zero], show (i * w + j) % w = j by rw [Nat.mul_comm, Nat.mul_add_mod, Nat.mod_eq_of_lt hj], show (j * w + i) / w = j by rw [Nat.mul_comm, Nat.mul_add_div (by omega), Nat.div_eq_of_lt hi, Nat.add_zero], show (j * w + i) % w = i by rw [Nat.mul_comm, Nat.mul_add_mod, Nat.mod_eq_of_lt hi], Nat.min_comm, Nat.max_comm]
theorem qd_cg {w : Nat} (hw : w = 3 ∨ w = 4) {V U : Nat → Fin P} (h : ∀ c, c < stw w w → V c = U c) : ∀ l, l < w * w → qdF w V l = qdF w U l := by
  intro l hl
  have q1 : l / w < w := Nat.div_lt_of_lt_mul hl
  have q2 := Nat.mod_lt l (show 0 < w by omega)
  unfold qdF
  refine h _ ?_
  by_cases c : l / w ≤ l % w
  · rw [Nat.min_eq_left c, Nat.max_eq_right c]
    exact (pIJ hw c q2).2.2
  · rw [Nat.min_eq_right (by omega), Nat.max_eq_left (by omega)]
    exact (pIJ hw (show l % w ≤ l / w by omega) q1).2.2
theorem qd_nz [NeZero P] {w f : Nat} (hw : w = 3 ∨ w = 4) {V : Nat → Fin P} (hf : f < stw w w) (h : V f ≠ 0) : ldV (qdF w V) (w * w) < w * w := by
  obtain ⟨h1, h2, h3⟩ := pIJ_w hw hf
  refine ldV_lt (row_lt (show pI w f < w by omega) h2) ?_
  unfold qdF
  rw [show (pI w f * w + pJ w f) / w = pI w f by rw [Nat.mul_comm, Nat.mul_add_div (by omega), Nat.div_eq_of_lt h2, Nat.add_zero], show (pI w f * w + pJ w f) % w = pJ w f by rw [Nat.mul_comm, Nat.mul_add_mod, Nat.mod_eq_of_lt h2], Nat.min_eq_left h1, Nat.max_eq_right h1, h3]
  exact h
theorem st_quadric (hp0 : isP P) (ho : P % 2 = 1) [NeZero P] (hB : P < 2 ^ 31) (hI : shf d c S R) (hC : cS P d hp sz o ad im rw c S R H g Gs m pA pB id) {sorts : Nat → Int32} {rows : Nat → Int64} (hS : sK sorts S c) (hK : rK c rows R) {ga : Nat → Int32} (hG : pK c ga Gs g) (hG2 : ∀ k, k < g → S (Gs k) = 0) (draft frame : Nat → Int64) : ∃ K, ext d c S R K ∧ CO P d hp sz o ad K H g Gs m pA pB id (f_X5_quadric hp sz o) ∧ ∃ s' r' d' f', m_quadric (nI d) (lN P) (nI c) sorts rows (nI g) ga draft frame = some (K.1, nI K.2.1, s', r', d', f') ∧ RO s' r' K := by
  have hP := hp0.1
  have hle := hC.le
  have hd := hC.hd
  have hw := hC.hw
  have r2 := hC.r2
  have i10 := hC.i10
  have hgm := hC.gm
  have hC0 := hC
  obtain ⟨-, -, -, -, -, ⟨⟨⟨f, k6, k6'⟩, k6''⟩, -, -, -⟩, -⟩ := hC0
  obtain ⟨hp1, A1, a1, a2, a3⟩ := c_pts hC (n := g) (G := Gs) k6 k6'' (by omega) (by omega) (fun k hk => ⟨k6' k hk, (hG k hk).2, hG2 k hk⟩)
  have h1 := hC.gg a3
  have he1 := h1.e
  have r91 := h1.r9
  obtain ⟨r, hp2, sz2, b1, b3, b4, b5⟩ := e_quadricThrough hP hB he1 hw (X := fun k => R (Gs k)) a2 (by omega)
  have h2 := h1.gg b3
  have hg2 := a3.tr b3
  obtain ⟨fr', m1, m2⟩ := s_conditions hP hB (fr := frame) hK hG (by omega) hd
  have hs := stw_le hw (Nat.le_refl (d + 1))
  have hs0 : 0 < stw (d + 1) (d + 1) := by rcases hd with rfl | rfl <;> decide
  have sd : m_side (nI d) = some (nI (d + 1)) := by
    unfold m_side
    rw [show (1 : Int32) = nI 1 from rfl, nI_add]
  have en : nI (d + 1) * (nI (d + 1) + 1) / (2 : Int32) = nI (stw (d + 1) (d + 1)) := by
    rw [show (1 : Int32) = nI 1 from rfl, show (2 : Int32) = nI 2 from rfl, nI_add, pk_mul, pk_div (by rcases hd with rfl | rfl <;> decide) (by decide) (by decide), stw_w hw]
  have en1 : nI (stw (d + 1) (d + 1)) - (1 : Int32) = nI (stw (d + 1) (d + 1) - 1) := by rw [show (1 : Int32) = nI 1 from rfl, pk_sub (by omega)]
  have hle2 := gj_le g (cnM (d + 1) (fun k => R (Gs k))) (stw (d + 1) (d + 1))
  generalize hrk : (gj g (cnM (d + 1) (fun k => R (Gs k))) (stw (d + 1) (d + 1))).1 = rk at m1 hle2 b4 b5
  by_cases hr : rk = stw (d + 1) (d + 1) - 1
  · obtain ⟨q, rfl, b6⟩ := b5 hr
    obtain ⟨f0, f1, f2, f3, f4⟩ := free_eq hp0 (m := g) (M := cnM (d + 1) (fun k => R (Gs k))) hs0 (hrk.trans hr)
    rw [f3] at b6
    have hsf := s_free hP hB m2 (by omega) (by omega) (by omega) hs0
    rw [f2] at hsf
    clear hrk
    generalize hGG : (gj g (cnM (d + 1) (fun k => R (Gs k))) (stw (d + 1) (d + 1))).2 = GG at *
    obtain ⟨d0, z1, z2⟩ := s_clear (P := P) draft
    obtain ⟨d1, y1, y2⟩ := s_quadFill hP hB (dr := d0) hd m2 (f := f0) (by omega) (by omega) (by omega)
    have hnz : ldV (qdF (d + 1) (slV GG f0)) ((d + 1) * (d + 1)) < (d + 1) * (d + 1) := qd_nz hw (f := f0) (by omega) (by
      unfold slV
      rw [if_pos rfl]
      exact one_ne hp0)
    have hcl := CO.kp (res := f_X5_quadric hp sz o) hp0 hB hC hg2 (show 4 < 5 by omega) (r := some q) (y := some (qdF (d + 1) (soV GG f0))) ⟨q, rfl, b6⟩ (fun v hv => by
      rcases v with ⟨v1, v2, v3⟩
      have hv' : f_X5_keep hp2 sz2 o 4 (some q) = some (v1, v2, v3) := hv
      unfold f_X5_quadric
      simp only [↓ob r2, ↓ob i10, hC.o5, ↓ob a1, ↓ob r91, he1.o4, ↓ob b1, h2.o5, ↓ob hv', ↓reduceIte])
    rw [kp_cg (W := wd d 4) (y := qdF (d + 1) (soV GG f0)) (x := qdF (d + 1) (slV GG f0)) hp0 (qd_cg hw f4)] at hcl
    obtain ⟨s', r', d', x1, x2⟩ := r_made hp0 hB hK hS hd (show 4 < 5 by omega) (show vo d1 (wd d 4) _ from y2) hnz
    refine ⟨_, ext_kp hp0 hI hle (fun _ => ⟨by omega, by omega, by omega, by omega, fun _ => qd_sym _⟩), hcl, s', r', d', fr', ?_, x2⟩
    have x1' : m_made (nI d) (lN P) (nI c) sorts rows d1 4 = _ := x1
    have hsf' : itX (m_quadric_L28 fr' (nI (stw (d + 1) (d + 1)))) 0 = some (nI f0) := hsf
    have y1' : itX (m_quadric_L61 (nI d) (lN P) fr' (nI f0)) (0, 0, d0) = some d1 := y1
    unfold m_quadric m_quadric_J52
    simp only [↓ob sd, ↓ob m1, en, en1, hr, ↓ob hsf', ↓ob z1, ↓ob y1', ↓ob x1', ↓reduceIte]
  · have hrn := b4 hr
    subst hrn
    clear hrk
    have hne : (nI rk = nI (stw (d + 1) (d + 1) - 1)) = False := n_ne hr (by omega) (by omega)
    have hcl := CO.kp (res := f_X5_quadric hp sz o) hp0 hB hC hg2 (show 4 < 5 by omega) (r := none) (y := none) rfl (fun v hv => by
      rcases v with ⟨v1, v2, v3⟩
      have hv' : f_X5_keep hp2 sz2 o 4 none = some (v1, v2, v3) := hv
      unfold f_X5_quadric
      simp only [↓ob r2, ↓ob i10, hC.o5, ↓ob a1, ↓ob r91, he1.o4, ↓ob b1, h2.o5, ↓ob hv', ↓reduceIte])
    refine ⟨_, ext_id hI hle (-1), hcl, sorts, rows, draft, fr', ?_, hS, hK⟩
    unfold m_quadric
    simp only [↓ob sd, ↓ob m1, en, en1, hne, ↓reduceIte]
end QUAD
