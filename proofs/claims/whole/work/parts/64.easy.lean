section EASY
variable {P : Nat} {d sz o : Nat} {hp : cH} {ad im rw : Nat → Nat} {c : Nat} {S : Nat → Nat} {R : Nat → Nat → Fin P} {H : Nat → Fin P} {g : Nat} {Gs : Nat → Nat} {m : Nat} {pA pB : Nat → Nat} {id : Int32}
/-- the class's cells, but for the shelf, change -/
theorem cS.chg (h : cS P d hp sz o ad im rw c S R H g Gs m pA pB id) {hp' : cH} {H' : Nat → Fin P} {g' m' : Nat} {Gs' pA' pB' : Nat → Nat} {id' : Int32} (h1 : hp' o = some (.inr (5, [.ref (ad 0), .ref (ad 1), .ref (ad 2), .ref (ad 3), .ref (ad 4), .int (nI d), .int (nI (d - 1)), .ref (ad 7), .ref (ad 8), .ref (ad 9), .int (nI g'), .int (nI m'), .int id']))) (h2 : vA hp' sz (ad 1) 16 H') (h3 : ∃ f, hp' (ad 2) = some (.inl (0, 9, .inl f)) ∧ ∀ k, k < g' → f k = nI (Gs' k)) (h4 : ∃ f, hp' (ad 3) = some (.inl (0, 5, .inl f)) ∧ ∀ k, k < m' → f k = nI (pA' k)) (h5 : ∃ f, hp' (ad 4) = some (.inl (0, 5, .inl f)) ∧ ∀ k, k < m' → f k = nI (pB' k)) (h6 : ∀ b, b ≠ o → b ≠ ad 1 → b ≠ ad 2 → b ≠ ad 3 → b ≠ ad 4 → hp' b = hp b) (hg : g' ≤ 9) (hm : m' ≤ 5) : cS P d hp' sz o ad im rw c S R H' g' Gs' m' pA' pB' id' := by
  obtain ⟨⟨k1, k1'⟩, ⟨k2, k2'⟩, ⟨⟨G0, k3, k3'⟩, k3''⟩, k4, k5, ⟨⟨⟨f, k6, k6'⟩, k6''⟩, ⟨⟨f2, k7, k7'⟩, k7''⟩, ⟨⟨f3, k8, k8'⟩, k8''⟩, k9⟩, k10, k11, k12, k13, k14⟩ := h
  obtain ⟨fh, k5'⟩ := k5.cell
  have hk : ∀ b x, hp b = some x → x ≠ .inr (5, [.ref (ad 0), .ref (ad 1), .ref (ad 2), .ref (ad 3), .ref (ad 4), .int (nI d), .int (nI (d - 1)), .ref (ad 7), .ref (ad 8), .ref (ad 9), .int (nI g), .int (nI m), .int id]) → x ≠ .inl (1, 16, .inr (.inl fh)) → x ≠ .inl (0, 9, .inl f) → x ≠ .inl (0, 5, .inl f2) → x ≠ .inl (0, 5, .inl f3) → hp' b = hp b := fun b x q q1 q2 q3 q4 q5 => h6 b (ne_c q k1 q1) (ne_c q k5' q2) (ne_c q k6 q3) (ne_c q k7 q4) (ne_c q k8 q5)
  refine ⟨⟨h1, k1'⟩, ⟨by rw [hk _ _ k2 (by simp) (by simp) (by simp) (by simp) (by simp)]; exact k2, k2'⟩, ⟨⟨G0, by rw [hk _ _ k3 (by simp) (by simp) (by simp) (by simp) (by simp)]; exact k3, k3'⟩, k3''⟩, fun a ha => ?_, h2, ⟨⟨h3, k6''⟩, ⟨h4, k7''⟩, ⟨h5, k8''⟩, k9⟩, ?_, k11, hg, hm, k14⟩
  · obtain ⟨q1, q2, q3, q4, q5⟩ := k4 a ha
    obtain ⟨fr, q6⟩ := q3.cell
    exact ⟨by rw [hk _ _ q1 (by simp) (by simp) (by simp) (by simp) (by simp)]; exact q1, q2, ⟨fa_of q3.1 (h6 _ (ne_c q6 k1 (by simp)) q4 (ne_c q6 k6 (by simp)) (ne_c q6 k7 (by simp)) (ne_c q6 k8 (by simp))), q3.2⟩, q4, q5⟩
  · obtain ⟨⟨e1, e2, e3⟩, e4, e5, e6⟩ := k10
    exact ⟨⟨by rw [hk _ _ e1 (by simp) (by simp) (by simp) (by simp) (by simp)]; exact e1, by rw [hk _ _ e2 (by simp) (by simp) (by simp) (by simp) (by simp)]; exact e2, by rw [hk _ _ e3 (by simp) (by simp) (by simp) (by simp) (by simp)]; exact e3⟩, e4, e5, e6⟩
/-- one field of the object changes -/
theorem cS.fld (h : cS P d hp sz o ad im rw c S R H g Gs m pA pB id) {g' m' : Nat} {id' : Int32} (hg : g' ≤ g) (hm : m' ≤ m) : cS P d (va_up hp o (some (.inr (5, [.ref (ad 0), .ref (ad 1), .ref (ad 2), .ref (ad 3), .ref (ad 4), .int (nI d), .int (nI (d - 1)), .ref (ad 7), .ref (ad 8), .ref (ad 9), .int (nI g'), .int (nI m'), .int id'])))) sz o ad im rw c S R H g' Gs m' pA pB id' ∧ cF ad o hp sz (va_up hp o (some (.inr (5, [.ref (ad 0), .ref (ad 1), .ref (ad 2), .ref (ad 3), .ref (ad 4), .int (nI d), .int (nI (d - 1)), .ref (ad 7), .ref (ad 8), .ref (ad 9), .int (nI g'), .int (nI m'), .int id'])))) sz := by
  have h0 := h
  obtain ⟨⟨k1, k1'⟩, ⟨k2, k2'⟩, ⟨⟨G0, k3, k3'⟩, k3''⟩, k4, k5, ⟨⟨⟨f, k6, k6'⟩, k6''⟩, ⟨⟨f2, k7, k7'⟩, k7''⟩, ⟨⟨f3, k8, k8'⟩, k8''⟩, k9⟩, k10, k11, k12, k13, k14⟩ := h
  generalize hq : va_up hp o _ = hp'
  have e : ∀ b, b ≠ o → hp' b = hp b := fun b hb => by rw [← hq]; simp [va_up, hb]
  have e0 : hp' o = some (.inr (5, [.ref (ad 0), .ref (ad 1), .ref (ad 2), .ref (ad 3), .ref (ad 4), .int (nI d), .int (nI (d - 1)), .ref (ad 7), .ref (ad 8), .ref (ad 9), .int (nI g'), .int (nI m'), .int id'])) := by rw [← hq]; simp [va_up]
  obtain ⟨fh, k5'⟩ := k5.cell
  refine ⟨h0.chg e0 ⟨fa_of k5.1 (e _ (ne_c k5' k1 (by simp))), k5.2⟩ ⟨f, by rw [e _ (ne_c k6 k1 (by simp))]; exact k6, fun k hk => k6' k (by omega)⟩ ⟨f2, by rw [e _ (ne_c k7 k1 (by simp))]; exact k7, fun k hk => k7' k (by omega)⟩ ⟨f3, by rw [e _ (ne_c k8 k1 (by simp))]; exact k8, fun k hk => k8' k (by omega)⟩ (fun b hb _ _ _ _ => e b hb) (by omega) (by omega), fun b _ hb _ _ _ _ _ _ => e b hb, Nat.le_refl _⟩
theorem cS.pv (h : cS P d hp sz o ad im rw c S R H g Gs m pA pB id) (v : Int32) : pV hp o 5 10 (.int v) = some (va_up hp o (some (.inr (5, [.ref (ad 0), .ref (ad 1), .ref (ad 2), .ref (ad 3), .ref (ad 4), .int (nI d), .int (nI (d - 1)), .ref (ad 7), .ref (ad 8), .ref (ad 9), .int v, .int (nI m), .int id])))) ∧ pV hp o 5 11 (.int v) = some (va_up hp o (some (.inr (5, [.ref (ad 0), .ref (ad 1), .ref (ad 2), .ref (ad 3), .ref (ad 4), .int (nI d), .int (nI (d - 1)), .ref (ad 7), .ref (ad 8), .ref (ad 9), .int (nI g), .int v, .int id])))) ∧ pV hp o 5 12 (.int v) = some (va_up hp o (some (.inr (5, [.ref (ad 0), .ref (ad 1), .ref (ad 2), .ref (ad 3), .ref (ad 4), .int (nI d), .int (nI (d - 1)), .ref (ad 7), .ref (ad 8), .ref (ad 9), .int (nI g), .int (nI m), .int v])))) := by
  refine ⟨?_, ?_, ?_⟩
  · rw [pV_of h.1.1 (by simp)]
    rfl
  · rw [pV_of h.1.1 (by simp)]
    rfl
  · rw [pV_of h.1.1 (by simp)]
    rfl
theorem st_told (hP : 2 < P) (hB : P < 2 ^ 31) (hC : cS P d hp sz o ad im rw c S R H g Gs m pA pB id) (x : Int32) : ∃ v, f_X5_told hp o x = some v ∧ m_told (nI d) (lN P) (nI c) (nI g) (nI m) id x = some v := by
  have i5 := hC.i5
  have r7 := hC.r7
  have p0 := hC.e.p0
  have r0 := hC.r0
  have s1 := hC.s1
  have i10 := hC.i10
  have i11 := hC.i11
  have i12 := hC.i12
  unfold f_X5_told m_told
  simp only [↓ob i5, ↓ob r7, ↓ob p0, ↓ob r0, ↓ob s1, ↓ob i10, ↓ob i11, ↓ob i12]
  by_cases e0 : x = 0
  · exact ⟨_, by rw [if_pos e0], by rw [if_pos e0]⟩
  · by_cases e1 : x = 1
    · exact ⟨_, by rw [if_neg e0, if_pos e1], by rw [if_neg e0, if_pos e1]⟩
    · by_cases e2 : x = 2
      · exact ⟨_, by rw [if_neg e0, if_neg e1, if_pos e2], by rw [if_neg e0, if_neg e1, if_pos e2]⟩
      · by_cases e3 : x = 3
        · exact ⟨_, by rw [if_neg e0, if_neg e1, if_neg e2, if_pos e3], by rw [if_neg e0, if_neg e1, if_neg e2, if_pos e3]⟩
        · by_cases e4 : x = 4
          · exact ⟨_, by rw [if_neg e0, if_neg e1, if_neg e2, if_neg e3, if_pos e4], by rw [if_neg e0, if_neg e1, if_neg e2, if_neg e3, if_pos e4]⟩
          · by_cases e5 : x = 5
            · exact ⟨_, by rw [if_neg e0, if_neg e1, if_neg e2, if_neg e3, if_neg e4, if_pos e5], by rw [if_neg e0, if_neg e1, if_neg e2, if_neg e3, if_neg e4, if_pos e5]⟩
            · exact ⟨_, by rw [if_neg e0, if_neg e1, if_neg e2, if_neg e3, if_neg e4, if_neg e5], by rw [if_neg e0, if_neg e1, if_neg e2, if_neg e3, if_neg e4, if_neg e5]⟩
theorem st_sort (hC : cS P d hp sz o ad im rw c S R H g Gs m pA pB id) {sorts : Nat → Int32} (hS : sK sorts S c) (x : Int32) : ∃ v, f_X5_sort hp o x = some v ∧ m_sort (nI c) sorts x = some v := by
  have r0 := hC.r0
  rcases ix_cl c hC.le x with ⟨a, ha, rfl⟩ | hx
  · have l1 := hC.item ha
    have l2 := hC.t ha
    have h1 := r_obj (x := 0) hC.le ha
    have h2 := hS a ha
    have := hC.le
    refine ⟨nI (S a), ?_, ?_⟩
    · unfold f_X5_sort
      simp only [↓ob r0, hC.o3, ↓ob l1, ↓Option.elim_some, ↓ob l2, ↓reduceIte]
    · unfold m_sort
      simp only [↓ob h1, n10, ↓reduceIte, if_pos (gi_nI (show a < 60 by omega) (show 60 < 2 ^ 31 by omega)), nI_clamp (show a < 2 ^ 31 by omega), h2.1]
  · have l1 := hC.itemX hx
    have h1 := r_objX hx
    refine ⟨-2, ?_, ?_⟩
    · unfold f_X5_sort
      simp only [↓ob r0, hC.o3, ↓ob l1, ↓Option.elim_none, ↓reduceIte]
    · unfold m_sort
      simp only [↓ob h1, n00, ↓reduceIte]
theorem st_number (hB : P < 2 ^ 31) (hC : cS P d hp sz o ad im rw c S R H g Gs m pA pB id) {sorts : Nat → Int32} {rows : Nat → Int64} (hS : sK sorts S c) (hK : rK c rows R) (x y : Int32) : ∃ v, f_X5_number hp o x y = some v ∧ m_number (nI d) (nI c) sorts rows x y = some v := by
  have r0 := hC.r0
  rcases ix_cl c hC.le x with ⟨a, ha, rfl⟩ | hx
  · have l1 := hC.item ha
    have l2 := hC.t ha
    have l3 := hC.r ha
    have l4 := (hC.v ha).len
    have h1 := r_obj (x := 0) hC.le ha
    have h2 := hS a ha
    have hle := hC.le
    have hw := (wd_le (t := S a) hC.hd).1
    have h3 := s_width (t := S a) hC.hd h2.2
    by_cases y0 : y < 0
    · refine ⟨-2, ?_, ?_⟩
      · unfold f_X5_number
        simp only [↓ob r0, hC.o3, ↓ob l1, ↓Option.elim_some, y0, ↓reduceIte]
      · unfold m_number
        simp only [↓ob h1, n10, y0, ↓reduceIte]
    · rcases ix_cl (wd d (S a)) (by omega) y with ⟨k, hk, rfl⟩ | hy
      · have l5 := (hC.v ha).ld hk (by omega)
        have h5 := s_of hK ha (show k < 16 by omega)
        refine ⟨(fL (R a k)).toInt32, ?_, ?_⟩
        · unfold f_X5_number
          simp only [↓ob r0, hC.o3, ↓ob l1, ↓Option.elim_some, y0, ↓ob l3, ↓ob l4, nI_lt hk (show wd d (S a) < 2 ^ 31 by omega), ↓ob l5, ↓reduceIte]
        · unfold m_number
          simp only [↓ob h1, n10, y0, ↓reduceIte, if_pos (gi_nI (show a < 60 by omega) (show 60 < 2 ^ 31 by omega)), nI_clamp (show a < 2 ^ 31 by omega), h2.1, ↓ob h3, nI_ge hk (show wd d (S a) < 2 ^ 31 by omega), ↓ob h5]
      · have hy2 : nI (wd d (S a)) ≤ y := by rcases hy with q | q; exact absurd q y0; exact q
        have hy3 : ¬ y < nI (wd d (S a)) := by
          rw [Int32.lt_iff_toInt_lt]
          rw [Int32.le_iff_toInt_le] at hy2
          omega
        refine ⟨-2, ?_, ?_⟩
        · unfold f_X5_number
          simp only [↓ob r0, hC.o3, ↓ob l1, ↓Option.elim_some, y0, ↓ob l3, ↓ob l4, hy3, ↓reduceIte]
        · unfold m_number
          simp only [↓ob h1, n10, y0, ↓reduceIte, if_pos (gi_nI (show a < 60 by omega) (show 60 < 2 ^ 31 by omega)), nI_clamp (show a < 2 ^ 31 by omega), h2.1, ↓ob h3, hy2]
  · have l1 := hC.itemX hx
    have h1 := r_objX hx
    refine ⟨-2, ?_, ?_⟩
    · unfold f_X5_number
      simp only [↓ob r0, hC.o3, ↓ob l1, ↓Option.elim_none, ↓reduceIte]
    · unfold m_number
      simp only [↓ob h1, n00, ↓reduceIte]
theorem st_forget (hC : cS P d hp sz o ad im rw c S R H g Gs m pA pB id) : ∃ hp', f_X5_forget hp o = some (nI g, hp') ∧ cS P d hp' sz o ad im rw c S R H 0 Gs m pA pB id ∧ cF ad o hp sz hp' sz ∧ m_forget (nI g) = some (nI g, nI 0) := by
  have i10 := hC.i10
  have p1 := (hC.pv 0).1
  obtain ⟨h1, h2⟩ := hC.fld (g' := 0) (m' := m) (id' := id) (by omega) (Nat.le_refl _)
  refine ⟨_, ?_, h1, h2, rfl⟩
  unfold f_X5_forget
  simp only [↓ob i10, ↓ob p1]
  rfl
theorem st_ideal (hC : cS P d hp sz o ad im rw c S R H g Gs m pA pB id) {sorts : Nat → Int32} (hS : sK sorts S c) (x : Int32) : ∃ v hp' id', f_X5_ideal hp o x = some (v, hp') ∧ cS P d hp' sz o ad im rw c S R H g Gs m pA pB id' ∧ cF ad o hp sz hp' sz ∧ m_ideal (nI d) (nI c) sorts id x = some (v, id') ∧ (id' = id ∨ ∃ a, a < c ∧ id' = nI a ∧ S a = d - 1) := by
  have r0 := hC.r0
  have i6 := hC.i6
  have i12 := hC.i12
  have hd := hC.hd
  have hfl : m_flat (nI d) = some (nI (d - 1)) := by
    unfold m_flat
    rcases hd with rfl | rfl <;> rfl
  have bad : f_X3_row hp (ad 0) x (nI (d - 1)) = some none → m_is (nI c) sorts x (nI (d - 1)) = some (nI 0) → ∃ v hp' id', f_X5_ideal hp o x = some (v, hp') ∧ cS P d hp' sz o ad im rw c S R H g Gs m pA pB id' ∧ cF ad o hp sz hp' sz ∧ m_ideal (nI d) (nI c) sorts id x = some (v, id') ∧ (id' = id ∨ ∃ a, a < c ∧ id' = nI a ∧ S a = d - 1) := by
    intro q1 q2
    refine ⟨-2, hp, id, ?_, hC, cF.g gro.rf, ?_, Or.inl rfl⟩
    · unfold f_X5_ideal
      simp only [↓ob r0, ↓ob i6, hC.o3, ↓ob q1, ↓Option.elim_none, ↓reduceIte]
    · unfold m_ideal
      simp only [↓ob hfl, ↓ob q2, n00, ↓reduceIte]
  rcases ix_cl c hC.le x with ⟨a, ha, rfl⟩ | hx
  · by_cases e : S a = d - 1
    · have q1 := hC.row ha e
      have q2 := r_isT hS hC.le ha e (by omega)
      have p1 := (hC.pv (nI a)).2.2
      obtain ⟨h1, h2⟩ := hC.fld (g' := g) (m' := m) (id' := nI a) (Nat.le_refl _) (Nat.le_refl _)
      refine ⟨id, _, nI a, ?_, h1, h2, ?_, Or.inr ⟨a, ha, rfl, e⟩⟩
      · unfold f_X5_ideal
        simp only [↓ob r0, ↓ob i6, hC.o3, ↓ob q1, ↓Option.elim_some, ↓ob i12, ↓ob p1, ↓reduceIte]
      · unfold m_ideal
        simp only [↓ob hfl, ↓ob q2, n10, ↓reduceIte]
    · exact bad (hC.rowN ha e (by omega)) (r_isF hS hC.le ha e (by omega))
  · exact bad (hC.rowX hx _) (r_isX hx _)
theorem sI_of {hp : cH} {a n k : Nat} {f : Nat → Int32} {v : Int32} (h : hp a = some (.inl (0, n, .inl f))) (hk : k < n) (hn : n < 2 ^ 31) : sI hp a (nI k) v = some (va_up hp a (some (.inl (0, n, .inl (upd f k v))))) := by
  unfold sI aI
  rw [h]
  show (if gi (nI k) n then some _ else none) = _
  rw [if_pos (gi_nI hk hn), nI_clamp (by omega)]
theorem st_gather (hC : cS P d hp sz o ad im rw c S R H g Gs m pA pB id) {sorts ga : Nat → Int32} (hS : sK sorts S c) (hG : pK c ga Gs g) (hG2 : ∀ k, k < g → S (Gs k) = 0) (x : Int32) : ∃ v hp' g' Gs' ga', f_X5_gather hp o x = some (v, hp') ∧ cS P d hp' sz o ad im rw c S R H g' Gs' m pA pB id ∧ cF ad o hp sz hp' sz ∧ m_gather (nI c) sorts (nI g) ga x = some (v, nI g', ga') ∧ pK c ga' Gs' g' ∧ ∀ k, k < g' → S (Gs' k) = 0 := by
  have r0 := hC.r0
  have i10 := hC.i10
  have r2 := hC.r2
  have hgm := hC.gm
  have z0 : nI 0 = (0 : Int32) := rfl
  have bad : f_X3_row hp (ad 0) x 0 = some none → m_is (nI c) sorts x 0 = some (nI 0) → ∃ v hp' g' Gs' ga', f_X5_gather hp o x = some (v, hp') ∧ cS P d hp' sz o ad im rw c S R H g' Gs' m pA pB id ∧ cF ad o hp sz hp' sz ∧ m_gather (nI c) sorts (nI g) ga x = some (v, nI g', ga') ∧ pK c ga' Gs' g' ∧ ∀ k, k < g' → S (Gs' k) = 0 := by
    intro q1 q2
    refine ⟨-2, hp, g, Gs, ga, ?_, hC, cF.g gro.rf, ?_, hG, hG2⟩
    · unfold f_X5_gather
      simp only [↓ob r0, hC.o3, ↓ob q1, ↓Option.elim_none, ↓reduceIte]
    · unfold m_gather
      simp only [↓ob q2, n00, ↓reduceIte]
  rcases ix_cl c hC.le x with ⟨a, ha, rfl⟩ | hx
  · by_cases e : S a = 0
    · have q1 : f_X3_row hp (ad 0) (nI a) 0 = some (some (rw a)) := hC.row ha e
      have q2 : m_is (nI c) sorts (nI a) 0 = some (nI 1) := r_isT (t := 0) hS hC.le ha e (by omega)
      by_cases h9 : g = 9
      · subst h9
        have n9 : ¬ nI 9 < (9 : Int32) := by decide
        have m9 : nI 9 = (9 : Int32) := rfl
        refine ⟨-3, hp, 9, Gs, ga, ?_, hC, cF.g gro.rf, ?_, hG, hG2⟩
        · unfold f_X5_gather
          simp only [↓ob r0, hC.o3, ↓ob q1, ↓Option.elim_some, ↓ob i10, n9, ↓reduceIte]
        · unfold m_gather
          simp only [↓ob q2, n10, m9, ↓reduceIte]
      · have n9 : nI g < (9 : Int32) := nI_lt (b := 9) (by omega) (by omega)
        have m9 : (nI g = (9 : Int32)) = False := n_ne (b := 9) h9 (by omega) (by omega)
        have h0 := hC
        obtain ⟨⟨k1, k1'⟩, ⟨k2, k2'⟩, ⟨⟨G0, k3, k3'⟩, k3''⟩, k4, k5, ⟨⟨⟨f, k6, k6'⟩, k6''⟩, ⟨⟨f2, k7, k7'⟩, k7''⟩, ⟨⟨f3, k8, k8'⟩, k8''⟩, k9⟩, k10, k11, k12, k13, k14⟩ := hC
        have s1 := sI_of (v := nI a) k6 (show g < 9 by omega) (by omega)
        generalize hq1 : va_up hp (ad 2) (some (.inl (0, 9, .inl (upd f g (nI a))))) = hp1 at s1
        have e1 : ∀ b, b ≠ ad 2 → hp1 b = hp b := fun b hb => by rw [← hq1]; simp [va_up, hb]
        have e2 : hp1 (ad 2) = some (.inl (0, 9, .inl (upd f g (nI a)))) := by rw [← hq1]; simp [va_up]
        have no : o ≠ ad 2 := ne_c k1 k6 (by simp)
        have e3 : hp1 o = some (.inr (5, [.ref (ad 0), .ref (ad 1), .ref (ad 2), .ref (ad 3), .ref (ad 4), .int (nI d), .int (nI (d - 1)), .ref (ad 7), .ref (ad 8), .ref (ad 9), .int (nI g), .int (nI m), .int id])) := by rw [e1 _ no]; exact k1
        have p1 : pV hp1 o 5 10 (.int (nI (g + 1))) = some (va_up hp1 o (some (.inr (5, [.ref (ad 0), .ref (ad 1), .ref (ad 2), .ref (ad 3), .ref (ad 4), .int (nI d), .int (nI (d - 1)), .ref (ad 7), .ref (ad 8), .ref (ad 9), .int (nI (g + 1)), .int (nI m), .int id])))) := by
          rw [pV_of e3 (by simp)]
          rfl
        generalize hq2 : va_up hp1 o _ = hp2 at p1
        have e4 : ∀ b, b ≠ o → hp2 b = hp1 b := fun b hb => by rw [← hq2]; simp [va_up, hb]
        have e5 : hp2 o = some (.inr (5, [.ref (ad 0), .ref (ad 1), .ref (ad 2), .ref (ad 3), .ref (ad 4), .int (nI d), .int (nI (d - 1)), .ref (ad 7), .ref (ad 8), .ref (ad 9), .int (nI (g + 1)), .int (nI m), .int id])) := by rw [← hq2]; simp [va_up]
        obtain ⟨fh, k5'⟩ := k5.cell
        refine ⟨nI (g + 1), hp2, g + 1, fun k => if k = g then a else Gs k, upd ga g (nI a), ?_, h0.chg e5 ⟨fa_of k5.1 (by rw [e4 _ (ne_c k5' k1 (by simp)), e1 _ (ne_c k5' k6 (by simp))]), k5.2⟩ ⟨_, by rw [e4 _ (Ne.symm no)]; exact e2, fun k hk => ?_⟩ ⟨f2, by rw [e4 _ (ne_c k7 k1 (by simp)), e1 _ (ne_c k7 k6 (by simp))]; exact k7, k7'⟩ ⟨f3, by rw [e4 _ (ne_c k8 k1 (by simp)), e1 _ (ne_c k8 k6 (by simp))]; exact k8, k8'⟩ (fun b q0 _ q2 _ _ => by rw [e4 b q0, e1 b q2]) (by omega) (by omega), ⟨fun b _ q0 _ _ q2 _ _ _ => by rw [e4 b q0, e1 b q2], Nat.le_refl _⟩, ?_, fun k hk => ?_, fun k hk => ?_⟩
        · have g1 : gI hp1 o 5 10 = some (nI g) := by
            unfold gI
            rw [e3]
            rfl
          have g2 : gI hp2 o 5 10 = some (nI (g + 1)) := by
            unfold gI
            rw [e5]
            rfl
          have ad1 : nI g + (1 : Int32) = nI (g + 1) := by rw [show (1 : Int32) = nI 1 from rfl, nI_add]
          unfold f_X5_gather
          simp only [↓ob r0, h0.o3, ↓ob q1, ↓Option.elim_some, ↓ob i10, n9, ↓ob r2, ↓ob s1, ↓ob g1, ad1, ↓ob p1, ↓ob g2, ↓reduceIte]
        · (try dsimp only)
          unfold upd
          by_cases e9 : k = g
          · rw [if_pos e9, if_pos e9]
          · rw [if_neg e9, if_neg e9]
            exact k6' k (by omega)
        · have ad1 : nI g + (1 : Int32) = nI (g + 1) := by rw [show (1 : Int32) = nI 1 from rfl, nI_add]
          unfold m_gather
          simp only [↓ob q2, n10, m9, if_pos (gi_nI (show g < 9 by omega) (show 9 < 2 ^ 31 by omega)), nI_clamp (show g < 2 ^ 31 by omega), ad1, ↓reduceIte]
        · (try dsimp only)
          unfold upd
          by_cases e9 : k = g
          · rw [if_pos e9, if_pos e9]
            exact ⟨rfl, ha⟩
          · rw [if_neg e9, if_neg e9]
            exact hG k (by omega)
        · (try dsimp only)
          by_cases e9 : k = g
          · rw [if_pos e9]
            exact e
          · rw [if_neg e9]
            exact hG2 k (by omega)
    · exact bad (hC.rowN (t := 0) ha e (by omega)) (r_isF (t := 0) hS hC.le ha e (by omega))
  · exact bad (hC.rowX hx _) (r_isX hx _)
end EASY
