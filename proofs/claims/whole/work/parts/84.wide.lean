section WIDE
variable {P : Nat}
/-- the rows as a square -/
def rsF (w : Nat) (X : Nat → Nat → Fin P) : Nat → Fin P := fun m => X (m / w) (m % w)
theorem rs_at {w : Nat} (X : Nat → Nat → Fin P) {i j : Nat} (hj : j < w) : rsF w X (i * w + j) = X i j := by
  unfold rsF
  rw [show (i * w + j) / w = i by rw [Nat.mul_comm, Nat.mul_add_div (by omega), Nat.div_eq_of_lt hj, Nat.add_zero], show (i * w + j) % w = j by rw [Nat.mul_comm, Nat.mul_add_mod, Nat.mod_eq_of_lt hj]]
theorem inv_rs [NeZero P] {w : Nat} {M : Mx P} {A : Nat → Fin P} (h : ∀ i j, i < w → j < w → M i j = A (i * w + j)) : inv w M ↔ inv w (sqM w A) := by
  have e : ∀ (x : Nat → Fin P) (i : Nat), i < w → sF (fun j => M i j * x j) w = sF (fun j => sqM w A i j * x j) w := fun x i hi => sF_congr w (fun j hj => by (try dsimp only); rw [h i j hi hj]; rfl)
  exact ⟨fun q x hx => q x (fun i hi => by rw [e x i hi]; exact hx i hi), fun q x hx => q x (fun i hi => by rw [← e x i hi]; exact hx i hi)⟩
theorem inv_tr2 [NeZero P] (hp0 : isP P) {w : Nat} {A : Nat → Fin P} : inv w (sqM w (trF w A)) ↔ inv w (sqM w A) := by
  refine ⟨fun h => ?_, fun h => inv_tr hp0 h⟩
  have := inv_tr hp0 h
  exact (inv_rs (M := sqM w (trF w (trF w A))) (A := A) (fun i j hi hj => tr_tr A _ (row_lt hi hj))).mp this
/-- the last point as a sum of the others -/
theorem cl_sum [NeZero P] (hp0 : isP P) {w : Nat} {X : Nat → Nat → Fin P} (hf : (gj w (clM X) w).1 = w) {i : Nat} (hi : i < w) : X w i = sF (fun j => (gj w (clM X) w).2 j w * X j i) w := by
  have key : ∀ i, i < w → sF (fun j => clM X i j * (if j < w then (gj w (clM X) w).2 j w else -1)) (w + 1) = 0 := by
    refine (ker_gj hp0 (u := w)).mp (fun i hi => ?_)
    show sF (fun j => (gj w (clM X) w).2 i j * (if j < w then (gj w (clM X) w).2 j w else -1)) w + (gj w (clM X) w).2 i w * (if w < w then (gj w (clM X) w).2 w w else -1) = 0
    rw [sF_one hi (fun j hj hne => by (try dsimp only); rw [full_1 hp0 hf hi hj, if_neg (Ne.symm hne)]; grind)]
    (try dsimp only)
    rw [full_1 hp0 hf hi hi, if_pos rfl, if_pos hi, if_neg (by omega)]
    grind
  have := key i hi
  have e : sF (fun j => clM X i j * (if j < w then (gj w (clM X) w).2 j w else -1)) (w + 1) = sF (fun j => (gj w (clM X) w).2 j w * X j i) w - X w i := by
    show sF (fun j => clM X i j * (if j < w then (gj w (clM X) w).2 j w else -1)) w + clM X i w * (if w < w then (gj w (clM X) w).2 w w else -1) = _
    rw [if_neg (by omega), sF_congr w (g := fun j => (gj w (clM X) w).2 j w * X j i) (fun j hj => by (try dsimp only); rw [if_pos hj]; unfold clM; grind)]
    unfold clM
    grind
  rw [e] at this
  grind
theorem dot_sum [NeZero P] (hp0 : isP P) {w : Nat} {X : Nat → Nat → Fin P} (hf : (gj w (clM X) w).1 = w) (x : Nat → Fin P) : sF (fun i => X w i * x i) w = sF (fun j => (gj w (clM X) w).2 j w * sF (fun i => X j i * x i) w) w := by
  have e1 : sF (fun i => X w i * x i) w = sF (fun i => sF (fun j => (gj w (clM X) w).2 j w * X j i * x i) w) w := sF_congr w (fun i hi => by
    (try dsimp only)
    rw [cl_sum hp0 hf hi, ← sF_mulr])
  rw [e1, sF_swap]
  refine sF_congr w (fun j hj => ?_)
  (try dsimp only)
  rw [← sF_mul]
  refine sF_congr w (fun i hi => ?_)
  (try dsimp only)
  grind
/-- a frame, as the reference tests it and as the class does -/
theorem wide_iff [NeZero P] (hp0 : isP P) {w : Nat} {X : Nat → Nat → Fin P} : (∀ l, l < w + 1 → (gj w (lfM X l) w).1 = w) ↔ ((gj w (clM X) w).1 = w ∧ ∀ j, j < w → (gj w (clM X) w).2 j w ≠ 0) := by
  have hlast : (gj w (lfM X w) w).1 = w ↔ inv w (sqM w (rsF w X)) := by
    rw [full_iff hp0]
    refine inv_rs (fun i j hi hj => ?_)
    unfold lfM
    rw [if_pos hi, rs_at X hj]
  have hcl : (gj w (clM X) w).1 = w ↔ inv w (sqM w (rsF w X)) := by
    rw [full_iff hp0, ← inv_tr2 hp0]
    refine inv_rs (fun i j hi hj => ?_)
    rw [tr_at _ hj, rs_at X hi]
    rfl
  refine ⟨fun h => ?_, fun h => ?_⟩
  · have hA := hlast.mp (h w (by omega))
    have hf := hcl.mpr hA
    refine ⟨hf, fun l hl hz => ?_⟩
    have hl2 := (full_iff hp0).mp (h l (by omega))
    have hff := (full_q hp0).mpr hA
    have hx := fun i (hi : i < w) => iv_r hp0 (z := fun k => if k = l then 1 else 0) hff hi
    generalize imV w (ivF w (rsF w X)) (fun k => if k = l then 1 else 0) = x at hx
    have hx2 : ∀ i, i < w → sF (fun j => X i j * x j) w = if i = l then 1 else 0 := fun i hi => by
      rw [← hx i hi]
      unfold imV
      exact sF_congr w (fun j hj => by (try dsimp only); rw [rs_at X hj])
    have hw0 : sF (fun j => X w j * x j) w = 0 := by
      rw [dot_sum hp0 hf]
      refine sF_0 (fun j hj => ?_)
      rw [hx2 j hj]
      by_cases e : j = l
      · rw [e, hz]
        grind
      · rw [if_neg e]
        grind
    have hx0 := hl2 x (fun i hi => by
      unfold lfM
      by_cases c : i < l
      · rw [if_pos c, hx2 i hi, if_neg (by omega)]
      · rw [if_neg c]
        by_cases c2 : i + 1 = w
        · rw [c2]
          exact hw0
        · rw [hx2 (i + 1) (by omega), if_neg (by omega)])
    have := hx2 l hl
    rw [if_pos rfl, sF_0 (fun j hj => by rw [hx0 j hj]; grind)] at this
    exact one_ne hp0 this.symm
  · obtain ⟨hf, hnz⟩ := h
    have hA := hcl.mp hf
    intro l hl
    by_cases e : l = w
    · rw [e]
      exact hlast.mpr hA
    · refine (full_iff hp0).mpr (fun x hx => ?_)
      have hk : ∀ k, k < w + 1 → k ≠ l → sF (fun j => X k j * x j) w = 0 := by
        intro k hk hne
        by_cases c : k < l
        · have := hx k (by omega)
          unfold lfM at this
          rw [if_pos c] at this
          exact this
        · have := hx (k - 1) (by omega)
          unfold lfM at this
          rw [if_neg (by omega), show k - 1 + 1 = k by omega] at this
          exact this
      have hlx : sF (fun j => X l j * x j) w = 0 := by
        have h1 := hk w (by omega) (by omega)
        rw [dot_sum hp0 hf, sF_one (show l < w by omega) (fun j hj hne => by rw [hk j (by omega) hne]; grind)] at h1
        exact (nz_mul hp0 h1).elim (fun q => absurd q (hnz l (by omega))) (fun q => q)
      refine inv_im.mp hA x (fun i hi => ?_)
      have : imV w (rsF w X) x i = sF (fun j => X i j * x j) w := by
        unfold imV
        exact sF_congr w (fun j hj => by (try dsimp only); rw [rs_at X hj])
      rw [this]
      by_cases c : i = l
      · rw [c]
        exact hlx
      · exact hk i (by omega) c
theorem inv_fr [NeZero P] (hp0 : isP P) {w : Nat} {X : Nat → Nat → Fin P} (hf : (gj w (clM X) w).1 = w) (hnz : ∀ j, j < w → (gj w (clM X) w).2 j w ≠ 0) : inv w (sqM w (frF w X)) := by
  rw [inv_im]
  intro x hx i hi
  have hc := (full_iff hp0).mp hf
  have := hc (fun j => (gj w (clM X) w).2 j w * x j) (fun i hi => by
    rw [← hx i hi]
    unfold imV
    refine sF_congr w (fun j hj => ?_)
    (try dsimp only)
    have e : frF w X (i * w + j) = (gj w (clM X) w).2 j w * X j i := by
      unfold frF
      rw [show (i * w + j) / w = i by rw [Nat.mul_comm, Nat.mul_add_div (by omega), Nat.div_eq_of_lt hj, Nat.add_zero], show (i * w + j) % w = j by rw [Nat.mul_comm, Nat.mul_add_mod, Nat.mod_eq_of_lt hj]]
    rw [e]
    unfold clM
    grind) i hi
  exact (nz_mul hp0 this).elim (fun q => absurd q (hnz i hi)) (fun q => q)
end WIDE
