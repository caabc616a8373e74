section RANK2
variable {P : Nat}
def cut [NeZero P] (w : Nat) (X : Mx P) : Mx P := fun i j => if j < w then X i j else 0
theorem cut_rk [NeZero P] {h w : Nat} (X : Mx P) : (gj h X w).1 = (gj h (cut w X) w).1 := (gj_cols (fun i j _ hj => by unfold cut; rw [if_pos hj]) w (Nat.le_refl w)).1
/-- rows that are one have rank 1 at the most -/
theorem rank_1 [NeZero P] (hp0 : isP P) {h w : Nat} {X : Mx P} (hh : 0 < h) (hX : ∀ i, i < h → ∀ j, j < w → X i j = X 0 j) : (gj h X w).1 ≤ 1 := by
  rw [cut_rk]
  have e : ∀ y, inSp h (cut w X) y ↔ inSp 1 (fun _ => cut w X 0) y := by
    intro y
    refine ⟨fun q => sp_tr (fun i hi => ?_) q, fun q => sp_tr (fun i hi => ?_) q⟩
    · refine sp_congr (sp_row1 (h := 1) (i := 0) (M := fun _ => cut w X 0) (by omega)) (fun j => ?_)
      unfold cut
      by_cases c : j < w
      · rw [if_pos c, if_pos c, hX i hi j c]
      · rw [if_neg c, if_neg c]
    · exact sp_row1 hh
  rw [rk_eq hp0 e w]
  exact (gj_le 1 _ w).1
/-- in rank 2 all brackets are multiples of those of two rows -/
theorem rank_2 [NeZero P] (hp0 : isP P) {h w : Nat} {X : Mx P} (hr : (gj h X w).1 = 2) : ∃ (G0 G1 : Nat → Fin P) (D : Nat → Nat → Fin P), ∀ a b i j, a < h → b < h → i < w → j < w → bkt (X a) (X b) i j = D a b * bkt G0 G1 i j := by
  obtain ⟨pv, hs⟩ := gj_stp hp0 h X w
  rw [hr] at hs
  have hy : ∀ a, a < h → ∀ j, j < w → X a j = X a (pv 0) * (gj h X w).2 0 j + X a (pv 1) * (gj h X w).2 1 j := by
    intro a ha j hj
    have := stp_sum hs (y := X a) ((gj_sp hp0).mpr (sp_row1 ha)) hj
    rw [this]
    simp [sF]
  refine ⟨(gj h X w).2 0, (gj h X w).2 1, fun a b => X a (pv 0) * X b (pv 1) - X a (pv 1) * X b (pv 0), fun a b i j ha hb hi hj => ?_⟩
  unfold bkt
  rw [hy a ha i hi, hy a ha j hj, hy b hb i hi, hy b hb j hj]
  grind
theorem wg_D [NeZero P] (hp0 : isP P) {h w : Nat} (hw : w = 3 ∨ w = 4) {X : Mx P} (hr : (gj h X w).1 = 2) : ∃ (W : Nat → Fin P) (D : Nat → Nat → Fin P), ∀ a b k, a < h → b < h → k < swi w w → wgF w (X a) (X b) k = D a b * W k := by
  obtain ⟨G0, G1, D, hD⟩ := rank_2 hp0 hr
  refine ⟨wgF w G0 G1, D, fun a b k ha hb hk => ?_⟩
  have := wIJ_w hw hk
  unfold wgF
  exact hD a b _ _ ha hb (by omega) (by omega)
/-- the place where both look -/
theorem place_eq [NeZero P] (hp0 : isP P) {h w k1 : Nat} (hw : w = 3 ∨ w = 4) {X : Mx P} (hr : (gj h X w).1 = 2) (h0 : 0 < h) (hk : k1 < h) (hn : ldV (wgF w (X 0) (X k1)) (swi w w) < swi w w) : ∀ a b, a < h → b < h → (∀ k, k < ldV (wgF w (X 0) (X k1)) (swi w w) → wgF w (X a) (X b) k = 0) ∧ (ldV (wgF w (X a) (X b)) (swi w w) < swi w w → wgF w (X a) (X b) (ldV (wgF w (X 0) (X k1)) (swi w w)) ≠ 0) := by
  obtain ⟨W, D, hD⟩ := wg_D hp0 hw hr
  have hd : D 0 k1 ≠ 0 := fun q => ldV_nz hn (by rw [hD 0 k1 _ h0 hk hn, q]; grind)
  have hW : ∀ k, k < ldV (wgF w (X 0) (X k1)) (swi w w) → W k = 0 := by
    intro k hk2
    have := ldV_z hk2
    rw [hD 0 k1 k h0 hk (by omega)] at this
    exact (nz_mul hp0 this).elim (fun q => absurd q hd) (fun q => q)
  have hWn : W (ldV (wgF w (X 0) (X k1)) (swi w w)) ≠ 0 := fun q => ldV_nz hn (by rw [hD 0 k1 _ h0 hk hn, q]; grind)
  intro a b ha hb
  refine ⟨fun k hk2 => by rw [hD a b k ha hb (by omega), hW k hk2]; grind, fun q => ?_⟩
  rw [hD a b _ ha hb hn]
  have hab : D a b ≠ 0 := fun z => ldV_nz q (by rw [hD a b _ ha hb q, z]; grind)
  exact nz_prod hp0 hab hWn
/-- in rank 2 one of the others differs from the first -/
theorem first_k [NeZero P] (hp0 : isP P) {h w : Nat} (hw : w = 3 ∨ w = 4) {X : Mx P} (hr : (gj h X w).1 = 2) (h0 : 0 < h) (hX : ∀ i, i < h → nrm w (X i)) : ∃ k1, 1 ≤ k1 ∧ k1 < h ∧ ldV (wgF w (X 0) (X k1)) (swi w w) < swi w w ∧ ∀ k, 1 ≤ k → k < k1 → ldV (wgF w (X 0) (X k)) (swi w w) = swi w w := by
  have gen : ∀ n, n ≤ h → (∀ l, 1 ≤ l → l < n → ldV (wgF w (X 0) (X l)) (swi w w) = swi w w) ∨ ∃ k1, 1 ≤ k1 ∧ k1 < n ∧ ldV (wgF w (X 0) (X k1)) (swi w w) < swi w w ∧ ∀ k, 1 ≤ k → k < k1 → ldV (wgF w (X 0) (X k)) (swi w w) = swi w w := by
    intro n
    induction n with
    | zero => intro _; exact Or.inl (fun l _ hl => by omega)
    | succ n ih =>
      intro hn
      rcases ih (by omega) with u | ⟨k, u1, u2, v, z⟩
      · have hle := ldV_le (wgF w (X 0) (X n)) (swi w w)
        by_cases e : ldV (wgF w (X 0) (X n)) (swi w w) = swi w w
        · refine Or.inl (fun l hl1 hl => ?_)
          by_cases e2 : l = n
          · rw [e2]; exact e
          · exact u l hl1 (by omega)
        · by_cases n0 : n = 0
          · subst n0
            exact Or.inl (fun l _ hl => by omega)
          · exact Or.inr ⟨n, by omega, by omega, by omega, u⟩
      · exact Or.inr ⟨k, u1, by omega, v, z⟩
  rcases gen h (Nat.le_refl h) with u | u
  · exfalso
    have := rank_1 hp0 h0 (X := X) (w := w) (fun i hi j hj => by
      by_cases e : i = 0
      · rw [e]
      · exact (wg_eq hp0 hw (hX 0 h0) (hX i hi) (ldV_eq.mp (u i (by omega) hi)) j hj).symm)
    omega
  · exact u
/-- a row twice counts once -/
theorem rank_tw [NeZero P] (hp0 : isP P) {w : Nat} (x y z : Nat → Fin P) : (gj 4 (fun i => if i = 0 then x else if i = 1 then y else if i = 2 then z else z) w).1 = (gj 3 (fun i => if i = 0 then x else if i = 1 then y else z) w).1 := by
  refine rk_eq hp0 (fun v => ⟨fun q => sp_tr (fun i hi => ?_) q, fun q => sp_tr (fun i hi => ?_) q⟩) w
  · rcases (show i = 0 ∨ i = 1 ∨ i = 2 ∨ i = 3 by omega) with rfl | rfl | rfl | rfl
    · exact sp_row1 (h := 3) (i := 0) (M := fun i => if i = 0 then x else if i = 1 then y else z) (by omega)
    · exact sp_row1 (h := 3) (i := 1) (M := fun i => if i = 0 then x else if i = 1 then y else z) (by omega)
    · exact sp_row1 (h := 3) (i := 2) (M := fun i => if i = 0 then x else if i = 1 then y else z) (by omega)
    · exact sp_row1 (h := 3) (i := 2) (M := fun i => if i = 0 then x else if i = 1 then y else z) (by omega)
  · rcases (show i = 0 ∨ i = 1 ∨ i = 2 by omega) with rfl | rfl | rfl
    · exact sp_row1 (h := 4) (i := 0) (M := fun i => if i = 0 then x else if i = 1 then y else if i = 2 then z else z) (by omega)
    · exact sp_row1 (h := 4) (i := 1) (M := fun i => if i = 0 then x else if i = 1 then y else if i = 2 then z else z) (by omega)
    · exact sp_row1 (h := 4) (i := 2) (M := fun i => if i = 0 then x else if i = 1 then y else if i = 2 then z else z) (by omega)
end RANK2
