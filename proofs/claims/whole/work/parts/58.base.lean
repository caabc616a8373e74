section BASE
variable {P : Nat}
theorem sF_nz [NeZero P] {f : Nat → Fin P} : ∀ {n : Nat}, sF f n ≠ 0 → ∃ k, k < n ∧ f k ≠ 0 := by
  intro n h
  by_cases e : ∀ i, i < n → f i = 0
  · exact absurd (sF_0 e) h
  · exact Classical.byContradiction (fun q => e (fun i hi => Classical.byContradiction (fun q2 => q ⟨i, hi, q2⟩)))
/-- two rows that span, in steps: elimination leaves them -/
theorem base_un [NeZero P] (hp0 : isP P) {w i0 j0 : Nat} {A : Mx P} {b0 b1 : Nat → Fin P} (hij : i0 < j0) (hj : j0 < w) (hA : ∀ i j, i < w → j < w → A i j = A i j0 * b1 j + A i i0 * b0 j) (s0 : inSp w A b0) (s1 : inSp w A b1) (e1 : b0 i0 = 1) (e2 : b0 j0 = 0) (e3 : b1 i0 = 0) (e4 : b1 j0 = 1) (z0 : ∀ j, j < i0 → b0 j = 0) (z1 : ∀ j, j < j0 → b1 j = 0) : ∀ j, j < w → (gj w A w).2 0 j = b0 j ∧ (gj w A w).2 1 j = b1 j := by
  obtain ⟨pv, hs⟩ := gj_stp hp0 w A w
  generalize hr : (gj w A w).1 = r at hs
  generalize hG : (gj w A w).2 = G at hs
  have hsp : ∀ y, inSp w G y ↔ inSp w A y := fun y => by rw [← hG]; exact gj_sp hp0
  have t0 : ∀ j, j < w → b0 j = sF (fun k => b0 (pv k) * G k j) r := fun j hj2 => stp_sum hs ((hsp _).mpr s0) hj2
  have t1 : ∀ j, j < w → b1 j = sF (fun k => b1 (pv k) * G k j) r := fun j hj2 => stp_sum hs ((hsp _).mpr s1) hj2
  obtain ⟨q1, q2, q3, q4, q5, q6⟩ := hs
  have hGk : ∀ k, k < w → ∀ j, j < w → G k j = G k j0 * b1 j + G k i0 * b0 j := by
    intro k hk j hj2
    obtain ⟨cf, hcf⟩ := (hsp (G k)).mp (sp_row1 hk)
    rw [hcf j, hcf j0, hcf i0]
    unfold cmb
    rw [← sF_mulr, ← sF_mulr, ← sF_add]
    refine sF_congr w (fun i hi => ?_)
    (try dsimp only)
    have := hA i j hi hj2
    grind
  have h0 := t0 i0 (by omega)
  rw [e1] at h0
  obtain ⟨k0, k1, k2⟩ := sF_nz (f := fun k => b0 (pv k) * G k i0) (n := r) (by rw [← h0]; exact one_ne hp0)
  have k3 : G k0 i0 ≠ 0 := fun q => k2 (by (try dsimp only); rw [q]; grind)
  have hr0 : 0 < r := by omega
  have p0 : pv 0 = i0 := by
    have a1 : pv k0 ≤ i0 := by
      rcases Nat.lt_or_ge i0 (pv k0) with c | c
      · exact absurd (q5 k0 i0 k1 c) k3
      · exact c
    have a2 : pv 0 ≤ pv k0 := by
      rcases Nat.eq_zero_or_pos k0 with c | c
      · rw [c]
        exact Nat.le_refl _
      · exact Nat.le_of_lt (q3 0 k0 c k1)
    have a3 : ¬ pv 0 < i0 := by
      intro c
      have b := hGk 0 (by omega) (pv 0) (by omega)
      rw [q4 0 0 hr0 (by omega), if_pos rfl, z0 _ c, z1 _ (by omega)] at b
      exact one_ne hp0 (by rw [b]; grind)
    omega
  have hz : ∀ k, k < w → k ≠ 0 → G k i0 = 0 := by
    intro k hk hne
    have := q4 0 k hr0 hk
    rw [p0, if_neg hne] at this
    exact this
  have h1 := t1 j0 hj
  rw [e4] at h1
  obtain ⟨l0, l1, l2⟩ := sF_nz (f := fun k => b1 (pv k) * G k j0) (n := r) (by rw [← h1]; exact one_ne hp0)
  have l3 : b1 (pv l0) ≠ 0 := fun q => l2 (by (try dsimp only); rw [q]; grind)
  have l4 : l0 ≠ 0 := fun q => by
    rw [q, p0, e3] at l3
    exact l3 rfl
  have hr1 : 1 < r := by omega
  have hw1 : 1 < w := by omega
  have g1 : ∀ j, j < w → G 1 j = G 1 j0 * b1 j := by
    intro j hj2
    have := hGk 1 hw1 j hj2
    rw [hz 1 hw1 (by omega)] at this
    rw [this]
    grind
  have hpv1 := q2 1 hr1
  have g2 : G 1 (pv 1) = 1 := by
    have := q4 1 1 hr1 (by omega)
    rw [if_pos rfl] at this
    exact this
  have g3 := g1 (pv 1) (by omega)
  rw [g2] at g3
  have g4 : G 1 j0 ≠ 0 := fun q => one_ne hp0 (by rw [g3, q]; grind)
  have p1 : pv 1 = j0 := by
    have a1 : ¬ pv 1 < j0 := fun c => one_ne hp0 (by rw [g3, z1 _ c]; grind)
    have a2 : ¬ j0 < pv 1 := fun c => g4 (q5 1 j0 hr1 c)
    omega
  rw [p1] at g2
  have g5 : G 0 j0 = 0 := by
    have := q4 1 0 hr1 (by omega)
    rw [p1, if_neg (by omega)] at this
    exact this
  have g6 : G 0 i0 = 1 := by
    have := q4 0 0 hr0 (by omega)
    rw [p0, if_pos rfl] at this
    exact this
  intro j hj2
  refine ⟨?_, ?_⟩
  · rw [hGk 0 (by omega) j hj2, g5, g6]
    grind
  · rw [g1 j hj2, g2]
    grind
theorem sk_4 [NeZero P] (L : Nat → Fin P) {i j : Nat} (hi : i < 4) (hj : j < 4) : skF 4 L i j = sk4 L i j := by
  rcases (show i = 0 ∨ i = 1 ∨ i = 2 ∨ i = 3 by omega) with rfl | rfl | rfl | rfl <;> rcases (show j = 0 ∨ j = 1 ∨ j = 2 ∨ j = 3 by omega) with rfl | rfl | rfl | rfl <;> rfl
theorem sk_3 [NeZero P] (L : Nat → Fin P) {i j : Nat} (hi : i < 3) (hj : j < 3) : skF 3 (flF 3 L) i j = bs3 L i j := by
  have h (x : Fin P) : - - x = x := by grind
  rcases (show i = 0 ∨ i = 1 ∨ i = 2 by omega) with rfl | rfl | rfl <;> rcases (show j = 0 ∨ j = 1 ∨ j = 2 by omega) with rfl | rfl | rfl <;> first | rfl | exact h _
theorem bsM_sk [NeZero P] {d : Nat} (hd : d = 2 ∨ d = 3) (L : Nat → Fin P) {i j : Nat} (hi : i < d + 1) (hj : j < d + 1) : bsM d L i j = skF (d + 1) (blF (d + 1) L) i j := by
  rcases hd with rfl | rfl
  · exact (sk_3 L hi hj).symm
  · exact (sk_4 L hi hj).symm
theorem sk_dg [NeZero P] {w : Nat} (L : Nat → Fin P) (i : Nat) : skF w L i i = 0 := by
  unfold skF
  rw [if_neg (by omega), if_neg (by omega)]
theorem sk_ng [NeZero P] {w : Nat} (L : Nat → Fin P) (i j : Nat) : skF w L i j = - skF w L j i := by
  unfold skF
  rcases Nat.lt_trichotomy i j with c | c | c
  · rw [if_pos c, if_neg (by omega), if_pos c]
    grind
  · subst c
    rw [if_neg (by omega), if_neg (by omega)]
    grind
  · rw [if_neg (by omega), if_pos c, if_pos c]
/-- Plücker's relation in all places -/
theorem sk_plu [NeZero P] {w : Nat} (hw : w = 3 ∨ w = 4) {L : Nat → Fin P} (hp : w = 4 → plu L) {a b i j : Nat} (ha : a < w) (hb : b < w) (hi : i < w) (hj : j < w) : skF w L a b * skF w L i j - skF w L a i * skF w L b j + skF w L a j * skF w L b i = 0 := by
  rcases hw with rfl | rfl
  · rcases (show a = 0 ∨ a = 1 ∨ a = 2 by omega) with rfl | rfl | rfl <;> rcases (show b = 0 ∨ b = 1 ∨ b = 2 by omega) with rfl | rfl | rfl <;> rcases (show i = 0 ∨ i = 1 ∨ i = 2 by omega) with rfl | rfl | rfl <;> rcases (show j = 0 ∨ j = 1 ∨ j = 2 by omega) with rfl | rfl | rfl <;> simp [skF, swi] <;> grind
  · have h := hp rfl
    unfold plu at h
    rcases (show a = 0 ∨ a = 1 ∨ a = 2 ∨ a = 3 by omega) with rfl | rfl | rfl | rfl <;> rcases (show b = 0 ∨ b = 1 ∨ b = 2 ∨ b = 3 by omega) with rfl | rfl | rfl | rfl <;> rcases (show i = 0 ∨ i = 1 ∨ i = 2 ∨ i = 3 by omega) with rfl | rfl | rfl | rfl <;> rcases (show j = 0 ∨ j = 1 ∨ j = 2 ∨ j = 3 by omega) with rfl | rfl | rfl | rfl <;> simp [skF, swi] <;> grind
end BASE
