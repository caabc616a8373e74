section TWO
variable {P : Nat}
theorem ld_cases [NeZero P] {B : Nat → Fin P} (hB : ldV B 6 < 6) : (ldV B 6 = 0 ∨ ldV B 6 = 1 ∨ ldV B 6 = 2 ∨ ldV B 6 = 3 ∨ ldV B 6 = 4 ∨ ldV B 6 = 5) := by omega
/-- a line that holds both points of a base is that line -/
theorem two_pt [NeZero P] (hp0 : isP P) {A B : Nat → Fin P} (hB : nrm 6 B) (hpl : plu B) (h0 : ∀ i, i < 4 → sp4 A (bwF 4 B 0) i = 0) (h1 : ∀ i, i < 4 → sp4 A (bwF 4 B 1) i = 0) : ∀ k, k < 6 → A k = A (ldV B 6) * B k := by
  have a0 : A 3 * bwF 4 B 0 3 + A 5 * bwF 4 B 0 1 - A 4 * bwF 4 B 0 2 = 0 := h0 0 (by omega)
  have a1 : - (A 1 * bwF 4 B 0 3 + A 5 * bwF 4 B 0 0 - A 2 * bwF 4 B 0 2) = 0 := h0 1 (by omega)
  have a2 : A 0 * bwF 4 B 0 3 + A 4 * bwF 4 B 0 0 - A 2 * bwF 4 B 0 1 = 0 := h0 2 (by omega)
  have a3 : - (A 0 * bwF 4 B 0 2 + A 3 * bwF 4 B 0 0 - A 1 * bwF 4 B 0 1) = 0 := h0 3 (by omega)
  have b0 : A 3 * bwF 4 B 1 3 + A 5 * bwF 4 B 1 1 - A 4 * bwF 4 B 1 2 = 0 := h1 0 (by omega)
  have b1 : - (A 1 * bwF 4 B 1 3 + A 5 * bwF 4 B 1 0 - A 2 * bwF 4 B 1 2) = 0 := h1 1 (by omega)
  have b2 : A 0 * bwF 4 B 1 3 + A 4 * bwF 4 B 1 0 - A 2 * bwF 4 B 1 1 = 0 := h1 2 (by omega)
  have b3 : - (A 0 * bwF 4 B 1 2 + A 3 * bwF 4 B 1 0 - A 1 * bwF 4 B 1 1) = 0 := h1 3 (by omega)
  obtain ⟨n1, n2⟩ := hB
  have hz : ∀ i, i < ldV B 6 → B i = 0 := fun i hi => ldV_z hi
  have hf := fi_1 (P := P) hp0
  have hs : swi 4 4 = 6 := rfl
  unfold plu at hpl
  intro k hk
  have hgen : ∀ r m, bwF 4 B r m = if r = 0 then (- fi (B (ldV B 6))) * skF 4 B (wJ 4 (ldV B 6)) m else fi (B (ldV B 6)) * skF 4 B (wI 4 (ldV B 6)) m := fun r m => rfl
  rw [n2, hf] at hgen
  rcases ld_cases n1 with e | e | e | e | e | e
  all_goals
    rw [e] at n2 hz hgen ⊢
    simp only [hgen, wI, wJ, swi, skF] at a0 a1 a2 a3 b0 b1 b2 b3
    simp at a0 a1 a2 a3 b0 b1 b2 b3
  · rcases (show k = 0 ∨ k = 1 ∨ k = 2 ∨ k = 3 ∨ k = 4 ∨ k = 5 by omega) with rfl | rfl | rfl | rfl | rfl | rfl <;> grind
  · have z0 := hz 0 (by omega)
    rcases (show k = 0 ∨ k = 1 ∨ k = 2 ∨ k = 3 ∨ k = 4 ∨ k = 5 by omega) with rfl | rfl | rfl | rfl | rfl | rfl <;> grind
  · have z0 := hz 0 (by omega)
    have z1 := hz 1 (by omega)
    rcases (show k = 0 ∨ k = 1 ∨ k = 2 ∨ k = 3 ∨ k = 4 ∨ k = 5 by omega) with rfl | rfl | rfl | rfl | rfl | rfl <;> grind
  · have z0 := hz 0 (by omega)
    have z1 := hz 1 (by omega)
    have z2 := hz 2 (by omega)
    rcases (show k = 0 ∨ k = 1 ∨ k = 2 ∨ k = 3 ∨ k = 4 ∨ k = 5 by omega) with rfl | rfl | rfl | rfl | rfl | rfl <;> grind
  · have z0 := hz 0 (by omega)
    have z1 := hz 1 (by omega)
    have z2 := hz 2 (by omega)
    have z3 := hz 3 (by omega)
    rcases (show k = 0 ∨ k = 1 ∨ k = 2 ∨ k = 3 ∨ k = 4 ∨ k = 5 by omega) with rfl | rfl | rfl | rfl | rfl | rfl <;> grind
  · have z0 := hz 0 (by omega)
    have z1 := hz 1 (by omega)
    have z2 := hz 2 (by omega)
    have z3 := hz 3 (by omega)
    have z4 := hz 4 (by omega)
    rcases (show k = 0 ∨ k = 1 ∨ k = 2 ∨ k = 3 ∨ k = 4 ∨ k = 5 by omega) with rfl | rfl | rfl | rfl | rfl | rfl <;> grind
theorem nrm_eq [NeZero P] (hp0 : isP P) {W : Nat} {A B : Nat → Fin P} (hA : nrm W A) (hB : nrm W B) {l : Fin P} (h : ∀ k, k < W → A k = l * B k) : ∀ k, k < W → A k = B k := by
  have hl : l ≠ 0 := fun q => ldV_nz hA.1 (by rw [h _ hA.1, q]; grind)
  intro k hk
  have := nm_mul hp0 hl h k hk
  rw [nm_nrm hp0 hA, nm_nrm hp0 hB] at this
  exact this
theorem two_eq [NeZero P] (hp0 : isP P) {A B : Nat → Fin P} (hA : nrm 6 A) (hB : nrm 6 B) (hpl : plu B) (h0 : ∀ i, i < 4 → sp4 A (bwF 4 B 0) i = 0) (h1 : ∀ i, i < 4 → sp4 A (bwF 4 B 1) i = 0) : ∀ k, k < 6 → A k = B k := nrm_eq hp0 hA hB (two_pt hp0 hB hpl h0 h1)
end TWO
