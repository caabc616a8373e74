section EASY2
variable {P : Nat} {d sz o : Nat} {hp : cH} {ad im rw : Nat → Nat} {c : Nat} {S : Nat → Nat} {R : Nat → Nat → Fin P} {H : Nat → Fin P} {g : Nat} {Gs : Nat → Nat} {m : Nat} {pA pB : Nat → Nat} {id : Int32}
theorem st_pair (hC : cS P d hp sz o ad im rw c S R H g Gs m pA pB id) {sorts qA qB : Nat → Int32} (hS : sK sorts S c) (hA : pK c qA pA m) (hA2 : ∀ k, k < m → S (pA k) = 0) (hBq : pK c qB pB m) (hB2 : ∀ k, k < m → S (pB k) = 0) (hm : m ≤ d + 2) (x y : Int32) : ∃ v hp' m' pA' pB' qA' qB', f_X5_pair hp o x y = some (v, hp') ∧ cS P d hp' sz o ad im rw c S R H g Gs m' pA' pB' id ∧ cF ad o hp sz hp' sz ∧ m_pair (nI d) (nI c) sorts (nI m) qA qB x y = some (v, nI m', qA', qB') ∧ pK c qA' pA' m' ∧ pK c qB' pB' m' ∧ (∀ k, k < m' → S (pA' k) = 0) ∧ (∀ k, k < m' → S (pB' k) = 0) ∧ m' ≤ d + 2 := by
  have r0 := hC.r0
  have i11 := hC.i11
  have i5 := hC.i5
  have r3 := hC.r3
  have hgm := hC.gm
  have hd := hC.hd
  have bad : f_X5_pair hp o x y = some (-2, hp) → m_pair (nI d) (nI c) sorts (nI m) qA qB x y = some (-2, nI m, qA, qB) → ∃ v hp' m' pA' pB' qA' qB', f_X5_pair hp o x y = some (v, hp') ∧ cS P d hp' sz o ad im rw c S R H g Gs m' pA' pB' id ∧ cF ad o hp sz hp' sz ∧ m_pair (nI d) (nI c) sorts (nI m) qA qB x y = some (v, nI m', qA', qB') ∧ pK c qA' pA' m' ∧ pK c qB' pB' m' ∧ (∀ k, k < m' → S (pA' k) = 0) ∧ (∀ k, k < m' → S (pB' k) = 0) ∧ m' ≤ d + 2 := fun q1 q2 => ⟨-2, hp, m, pA, pB, qA, qB, q1, hC, cF.g gro.rf, q2, hA, hBq, hA2, hB2, hm⟩
  have badx : f_X3_row hp (ad 0) x 0 = some none → m_is (nI c) sorts x 0 = some (nI 0) → f_X5_pair hp o x y = some (-2, hp) ∧ m_pair (nI d) (nI c) sorts (nI m) qA qB x y = some (-2, nI m, qA, qB) := by
    intro q1 q2
    refine ⟨?_, ?_⟩
    · unfold f_X5_pair
      simp only [↓ob r0, hC.o3, ↓ob q1, ↓Option.elim_none, ↓reduceIte]
    · unfold m_pair
      simp only [↓ob q2, n00, ↓reduceIte]
  have bady : ∀ r, f_X3_row hp (ad 0) x 0 = some (some r) → m_is (nI c) sorts x 0 = some (nI 1) → f_X3_row hp (ad 0) y 0 = some none → m_is (nI c) sorts y 0 = some (nI 0) → f_X5_pair hp o x y = some (-2, hp) ∧ m_pair (nI d) (nI c) sorts (nI m) qA qB x y = some (-2, nI m, qA, qB) := by
    intro r q1 q2 q3 q4
    refine ⟨?_, ?_⟩
    · unfold f_X5_pair
      simp only [↓ob r0, hC.o3, ↓ob q1, ↓ob q3, ↓Option.elim_none, ↓Option.elim_some, ↓reduceIte]
    · unfold m_pair
      simp only [↓ob q2, ↓ob q4, n00, n10, ↓reduceIte]
  rcases ix_cl c hC.le x with ⟨a, ha, rfl⟩ | hx
  · by_cases e : S a = 0
    · have q1 : f_X3_row hp (ad 0) (nI a) 0 = some (some (rw a)) := hC.row (t := 0) ha e
      have q2 : m_is (nI c) sorts (nI a) 0 = some (nI 1) := r_isT (t := 0) hS hC.le ha e (by omega)
      rcases ix_cl c hC.le y with ⟨b, hb, rfl⟩ | hy
      · by_cases e' : S b = 0
        · have q3 : f_X3_row hp (ad 0) (nI b) 0 = some (some (rw b)) := hC.row (t := 0) hb e'
          have q4 : m_is (nI c) sorts (nI b) 0 = some (nI 1) := r_isT (t := 0) hS hC.le hb e' (by omega)
          have ad2 : nI d + (2 : Int32) = nI (d + 2) := by rw [show (2 : Int32) = nI 2 from rfl, nI_add]
          by_cases hf : m = d + 2
          · have n9 : nI (d + 2) ≤ nI m := nI_le (by omega) (by omega)
            have m9 : nI m = nI (d + 2) := by rw [hf]
            refine ⟨-3, hp, m, pA, pB, qA, qB, ?_, hC, cF.g gro.rf, ?_, hA, hBq, hA2, hB2, hm⟩
            · unfold f_X5_pair
              simp only [↓ob r0, hC.o3, ↓ob q1, ↓ob q3, ↓Option.elim_some, ↓ob i11, ↓ob i5, ad2, n9, ↓reduceIte]
            · unfold m_pair
              simp only [↓ob q2, ↓ob q4, n10, ad2, m9, ↓reduceIte]
          · have n9 : ¬ nI (d + 2) ≤ nI m := nI_ge (by omega) (by omega)
            have n5 : nI m < (5 : Int32) := nI_lt (b := 5) (by omega) (by omega)
            have m9 : (nI m = nI (d + 2)) = False := n_ne hf (by omega) (by omega)
            have h0 := hC
            obtain ⟨⟨k1, k1'⟩, ⟨k2, k2'⟩, ⟨⟨G0, k3, k3'⟩, k3''⟩, k4, k5, ⟨⟨⟨f, k6, k6'⟩, k6''⟩, ⟨⟨f2, k7, k7'⟩, k7''⟩, ⟨⟨f3, k8, k8'⟩, k8''⟩, k9⟩, k10, k11, k12, k13, k14⟩ := hC
            have s1 := sI_of (v := nI a) k7 (show m < 5 by omega) (by omega)
            generalize hq1 : va_up hp (ad 3) (some (.inl (0, 5, .inl (upd f2 m (nI a))))) = hp1 at s1
            have e1 : ∀ b, b ≠ ad 3 → hp1 b = hp b := fun b hb => by rw [← hq1]; simp [va_up, hb]
            have e2 : hp1 (ad 3) = some (.inl (0, 5, .inl (upd f2 m (nI a)))) := by rw [← hq1]; simp [va_up]
            have s2 := sI_of (v := nI b) (show hp1 (ad 4) = _ by rw [e1 _ (Ne.symm k9)]; exact k8) (show m < 5 by omega) (by omega)
            generalize hq3 : va_up hp1 (ad 4) (some (.inl (0, 5, .inl (upd f3 m (nI b))))) = hp3 at s2
            have e6 : ∀ b, b ≠ ad 4 → hp3 b = hp1 b := fun b hb => by rw [← hq3]; simp [va_up, hb]
            have e7 : hp3 (ad 4) = some (.inl (0, 5, .inl (upd f3 m (nI b)))) := by rw [← hq3]; simp [va_up]
            have no : o ≠ ad 3 := ne_c k1 k7 (by simp)
            have no4 : o ≠ ad 4 := ne_c k1 k8 (by simp)
            have e3 : hp3 o = some (.inr (5, [.ref (ad 0), .ref (ad 1), .ref (ad 2), .ref (ad 3), .ref (ad 4), .int (nI d), .int (nI (d - 1)), .ref (ad 7), .ref (ad 8), .ref (ad 9), .int (nI g), .int (nI m), .int id])) := by rw [e6 _ no4, e1 _ no]; exact k1
            have p1 : pV hp3 o 5 11 (.int (nI (m + 1))) = some (va_up hp3 o (some (.inr (5, [.ref (ad 0), .ref (ad 1), .ref (ad 2), .ref (ad 3), .ref (ad 4), .int (nI d), .int (nI (d - 1)), .ref (ad 7), .ref (ad 8), .ref (ad 9), .int (nI g), .int (nI (m + 1)), .int id])))) := by
              rw [pV_of e3 (by simp)]
              rfl
            generalize hq2 : va_up hp3 o _ = hp2 at p1
            have e4 : ∀ b, b ≠ o → hp2 b = hp3 b := fun b hb => by rw [← hq2]; simp [va_up, hb]
            have e5 : hp2 o = some (.inr (5, [.ref (ad 0), .ref (ad 1), .ref (ad 2), .ref (ad 3), .ref (ad 4), .int (nI d), .int (nI (d - 1)), .ref (ad 7), .ref (ad 8), .ref (ad 9), .int (nI g), .int (nI (m + 1)), .int id])) := by rw [← hq2]; simp [va_up]
            obtain ⟨fh, k5'⟩ := k5.cell
            refine ⟨nI (m + 1), hp2, m + 1, fun k => if k = m then a else pA k, fun k => if k = m then b else pB k, upd qA m (nI a), upd qB m (nI b), ?_, h0.chg e5 ⟨fa_of k5.1 (by rw [e4 _ (ne_c k5' k1 (by simp)), e6 _ (ne_c k5' k8 (by simp)), e1 _ (ne_c k5' k7 (by simp))]), k5.2⟩ ⟨f, by rw [e4 _ (ne_c k6 k1 (by simp)), e6 _ (ne_c k6 k8 (by simp)), e1 _ (ne_c k6 k7 (by simp))]; exact k6, k6'⟩ ⟨_, by rw [e4 _ (Ne.symm no), e6 _ k9]; exact e2, fun k hk => ?_⟩ ⟨_, by rw [e4 _ (Ne.symm no4)]; exact e7, fun k hk => ?_⟩ (fun b q0 _ _ q3 q4 => by rw [e4 b q0, e6 b q4, e1 b q3]) (by omega) (by omega), ⟨fun b _ q0 _ _ _ q3 q4 _ => by rw [e4 b q0, e6 b q4, e1 b q3], Nat.le_refl _⟩, ?_, fun k hk => ?_, fun k hk => ?_, fun k hk => ?_, fun k hk => ?_, by omega⟩
            · have g0 : gR hp1 o 5 4 = some (ad 4) := by
                unfold gR
                rw [e1 _ no, k1]
                rfl
              have g00 : gI hp1 o 5 11 = some (nI m) := by
                unfold gI
                rw [e1 _ no, k1]
                rfl
              have g1 : gI hp3 o 5 11 = some (nI m) := by
                unfold gI
                rw [e3]
                rfl
              have g2 : gI hp2 o 5 11 = some (nI (m + 1)) := by
                unfold gI
                rw [e5]
                rfl
              have ad1 : nI m + (1 : Int32) = nI (m + 1) := by rw [show (1 : Int32) = nI 1 from rfl, nI_add]
              unfold f_X5_pair
              simp only [↓ob r0, h0.o3, ↓ob q1, ↓ob q3, ↓Option.elim_some, ↓ob i11, ↓ob i5, ad2, n9, n5, ↓ob r3, ↓ob s1, ↓ob g0, ↓ob g00, ↓ob s2, ↓ob g1, ad1, ↓ob p1, ↓ob g2, ↓reduceIte]
            · (try dsimp only)
              unfold upd
              by_cases e9 : k = m
              · rw [if_pos e9, if_pos e9]
              · rw [if_neg e9, if_neg e9]
                exact k7' k (by omega)
            · (try dsimp only)
              unfold upd
              by_cases e9 : k = m
              · rw [if_pos e9, if_pos e9]
              · rw [if_neg e9, if_neg e9]
                exact k8' k (by omega)
            · have ad1 : nI m + (1 : Int32) = nI (m + 1) := by rw [show (1 : Int32) = nI 1 from rfl, nI_add]
              unfold m_pair
              simp only [↓ob q2, ↓ob q4, n10, ad2, m9, if_pos (gi_nI (show m < 5 by omega) (show 5 < 2 ^ 31 by omega)), nI_clamp (show m < 2 ^ 31 by omega), ad1, ↓reduceIte]
            · (try dsimp only)
              unfold upd
              by_cases e9 : k = m
              · rw [if_pos e9, if_pos e9]
                exact ⟨rfl, ha⟩
              · rw [if_neg e9, if_neg e9]
                exact hA k (by omega)
            · (try dsimp only)
              unfold upd
              by_cases e9 : k = m
              · rw [if_pos e9, if_pos e9]
                exact ⟨rfl, hb⟩
              · rw [if_neg e9, if_neg e9]
                exact hBq k (by omega)
            · (try dsimp only)
              by_cases e9 : k = m
              · rw [if_pos e9]
                exact e
              · rw [if_neg e9]
                exact hA2 k (by omega)
            · (try dsimp only)
              by_cases e9 : k = m
              · rw [if_pos e9]
                exact e'
              · rw [if_neg e9]
                exact hB2 k (by omega)
        · obtain ⟨z1, z2⟩ := bady _ q1 q2 (hC.rowN (t := 0) hb e' (by omega)) (r_isF (t := 0) hS hC.le hb e' (by omega))
          exact bad z1 z2
      · obtain ⟨z1, z2⟩ := bady _ q1 q2 (hC.rowX hy _) (r_isX hy _)
        exact bad z1 z2
    · obtain ⟨z1, z2⟩ := badx (hC.rowN (t := 0) ha e (by omega)) (r_isF (t := 0) hS hC.le ha e (by omega))
      exact bad z1 z2
  · obtain ⟨z1, z2⟩ := badx (hC.rowX hx _) (r_isX hx _)
    exact bad z1 z2
theorem st_root (hp0 : isP P) (ho : P % 2 = 1) [NeZero P] (hB : P < 2 ^ 31) (hC : cS P d hp sz o ad im rw c S R H g Gs m pA pB id) (v : Int64) : ∃ r, f_X5_root hp o v = some r ∧ m_root (lN P) v = some r := by
  have hP := hp0.1
  have r7 := hC.r7
  have p0 := hC.e.p0
  have o0 := hC.e.o0
  obtain ⟨x, h1, h2⟩ := mod_both hP hB v
  have h3 := s_isSq hp0 hB x
  have z1 : ((1 : Int32) = 0) = False := by simp
  by_cases hx : x = 0 ∨ x ^ ((P - 1) / 2) = 1
  · obtain ⟨w, -, -, a1, a2⟩ := root_both hp0 ho hB p0 o0 x hx
    rw [if_pos hx] at h3
    refine ⟨(fL w).toInt32, ?_, ?_⟩
    · unfold f_X5_root f_X0_reduced
      simp only [↓ob r7, o0, ↓ob p0, ↓ob h2, ↓Option.bind_some, ↓ob a2, ↓reduceIte]
    · unfold m_root
      simp only [↓ob h1, ↓ob h3, z1, ↓ob a1, ↓reduceIte]
  · have a2 := root_none hp0 hB p0 o0 x (fun q => hx (Or.inl q)) (fun q => hx (Or.inr q))
    rw [if_neg hx] at h3
    refine ⟨(-1 : Int64).toInt32, ?_, ?_⟩
    · unfold f_X5_root f_X0_reduced
      simp only [↓ob r7, o0, ↓ob p0, ↓ob h2, ↓Option.bind_some, ↓ob a2, ↓reduceIte]
    · unfold m_root
      simp only [↓ob h1, ↓ob h3, ↓reduceIte]
      rfl
theorem st_put (hP : 2 < P) (hB : P < 2 ^ 31) (hC : cS P d hp sz o ad im rw c S R H g Gs m pA pB id) {hand : Nat → Int64} (hH : vo hand 16 H) (x : Int32) (v : Int64) : ∃ r hp' H' hand', f_X5_put hp o x v = some (r, hp') ∧ cS P d hp' sz o ad im rw c S R H' g Gs m pA pB id ∧ cF ad o hp sz hp' sz ∧ m_put (lN P) hand x v = some (r, hand') ∧ vo hand' 16 H' := by
  have r1 := hC.r1
  have r7 := hC.r7
  have p0 := hC.e.p0
  have o0 := hC.e.o0
  have bad : (x < 0 ∨ nI 16 ≤ x) → ∃ r hp' H' hand', f_X5_put hp o x v = some (r, hp') ∧ cS P d hp' sz o ad im rw c S R H' g Gs m pA pB id ∧ cF ad o hp sz hp' sz ∧ m_put (lN P) hand x v = some (r, hand') ∧ vo hand' 16 H' := by
    intro q
    by_cases q0 : x < 0
    · refine ⟨-2, hp, H, hand, ?_, hC, cF.g gro.rf, ?_, hH⟩
      · unfold f_X5_put
        rw [if_pos q0]
      · unfold m_put
        rw [if_pos q0]
    · have q1 : ¬ x < (16 : Int32) := by
        have q2 : nI 16 ≤ x := by rcases q with z | z; exact absurd z q0; exact z
        rw [Int32.lt_iff_toInt_lt]
        rw [Int32.le_iff_toInt_le] at q2
        have : (nI 16).toInt = (16 : Int32).toInt := rfl
        omega
      refine ⟨-2, hp, H, hand, ?_, hC, cF.g gro.rf, ?_, hH⟩
      · unfold f_X5_put
        rw [if_neg q0, if_neg q1]
      · unfold m_put
        rw [if_neg q0, if_neg q1]
  rcases ix_cl 16 (by omega) x with ⟨k, hk, rfl⟩ | hx
  · obtain ⟨y, h1, h2⟩ := mod_both hP hB v
    have q0 : ¬ nI k < 0 := nI_pos (by omega)
    have q1 : nI k < (16 : Int32) := nI_lt (b := 16) hk (by omega)
    have h0 := hC
    obtain ⟨⟨k1, k1'⟩, ⟨k2, k2'⟩, ⟨⟨G0, k3, k3'⟩, k3''⟩, k4, k5, ⟨⟨⟨f, k6, k6'⟩, k6''⟩, ⟨⟨f2, k7, k7'⟩, k7''⟩, ⟨⟨f3, k8, k8'⟩, k8''⟩, k9⟩, k10, k11, k12, k13, k14⟩ := hC
    obtain ⟨fh, k5'⟩ := k5.cell
    obtain ⟨hp1, s1, s2, s3⟩ := s_fa k5.1 hk (by omega) y
    have hv : vA hp1 sz (ad 1) 16 (fun i => if i = k then y else H i) := ⟨s2, k5.2⟩
    have l1 := hv.ld hk (by omega)
    have e1 : ∀ b, b ≠ ad 1 → hp1 b = hp b := fun b hb => s3 b hb
    have e3 : hp1 o = hp o := e1 _ (ne_c k1 k5' (by simp))
    have r1' : gR hp1 o 5 1 = some (ad 1) := by
      unfold gR
      rw [e3, k1]
      rfl
    refine ⟨(fL y).toInt32, hp1, _, vp_updL hand k (fL y), ?_, h0.chg (by rw [e3]; exact k1) hv ⟨f, by rw [e1 _ (ne_c k6 k5' (by simp))]; exact k6, k6'⟩ ⟨f2, by rw [e1 _ (ne_c k7 k5' (by simp))]; exact k7, k7'⟩ ⟨f3, by rw [e1 _ (ne_c k8 k5' (by simp))]; exact k8, k8'⟩ (fun b _ q _ _ _ => e1 b q) k12 k13, ⟨fun b _ _ _ q _ _ _ _ => e1 b q, Nat.le_refl _⟩, ?_, fun j hj => ?_⟩
    · have l1' : lJ hp1 (ad 1) (nI k) = some (fL y) := by
        rw [l1]
        (try dsimp only)
        rw [if_pos rfl]
      unfold f_X5_put f_X0_reduced
      simp only [q0, q1, ↓ob r1, ↓ob r7, o0, ↓ob p0, ↓ob h2, ↓Option.bind_some, ↓ob s1, ↓ob r1', ↓ob l1', ↓reduceIte]
    · unfold m_put
      simp only [q0, q1, ↓ob h1, if_pos (gi_nI hk (show 16 < 2 ^ 31 by omega)), nI_clamp (show k < 2 ^ 31 by omega), pk_uLs, ↓reduceIte]
    · (try dsimp only)
      by_cases e : j = k
      · rw [if_pos e, e, pk_uLs]
      · rw [if_neg e, pk_uLn e]
        exact hH j hj
  · exact bad hx
end EASY2
