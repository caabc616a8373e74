section MAT
variable {P : Nat}
theorem im_pr [NeZero P] {w : Nat} (A B x : Nat → Fin P) (i : Nat) : imV w (prF w A B) x i = imV w A (imV w B x) i := by
  show sF (fun j => prF w A B (i * w + j) * x j) w = sF (fun k => A (i * w + k) * sF (fun j => B (k * w + j) * x j) w) w
  have e1 : sF (fun j => prF w A B (i * w + j) * x j) w = sF (fun j => sF (fun k => A (i * w + k) * B (k * w + j) * x j) w) w := by
    refine sF_congr w (fun j hj => ?_)
    (try dsimp only)
    rw [pr_at A B hj, ← sF_mulr]
  have e2 : sF (fun k => A (i * w + k) * sF (fun j => B (k * w + j) * x j) w) w = sF (fun k => sF (fun j => A (i * w + k) * B (k * w + j) * x j) w) w := by
    refine sF_congr w (fun k hk => ?_)
    (try dsimp only)
    rw [← sF_mul]
    refine sF_congr w (fun j hj => ?_)
    (try dsimp only)
    grind
  rw [e1, e2, sF_swap]
theorem im_cg [NeZero P] {w : Nat} {A : Nat → Fin P} {x y : Nat → Fin P} (h : ∀ j, j < w → x j = y j) (i : Nat) : imV w A x i = imV w A y i := by
  unfold imV
  refine sF_congr w (fun j hj => ?_)
  (try dsimp only)
  rw [h j hj]
theorem im_0 [NeZero P] {w : Nat} {A : Nat → Fin P} {x : Nat → Fin P} (h : ∀ j, j < w → x j = 0) (i : Nat) : imV w A x i = 0 := by
  unfold imV
  refine sF_0 (fun j hj => ?_)
  rw [h j hj]
  grind
theorem im_cgA [NeZero P] {w : Nat} {A B : Nat → Fin P} {x : Nat → Fin P} (h : ∀ m, m < w * w → A m = B m) {i : Nat} (hi : i < w) : imV w A x i = imV w B x i := by
  unfold imV
  refine sF_congr w (fun j hj => ?_)
  (try dsimp only)
  rw [h _ (row_lt hi hj)]
theorem im_id [NeZero P] {w : Nat} (x : Nat → Fin P) {i : Nat} (hi : i < w) : imV w (idF w) x i = x i := by
  unfold imV
  have hk : ∀ k, k < w → idF (P := P) w (i * w + k) = if k = i then 1 else 0 := by
    intro k hk
    unfold idF
    rw [show (i * w + k) / w = i by rw [Nat.mul_comm, Nat.mul_add_div (by omega), Nat.div_eq_of_lt hk, Nat.add_zero], show (i * w + k) % w = k by rw [Nat.mul_comm, Nat.mul_add_mod, Nat.mod_eq_of_lt hk]]
    by_cases c : k = i
    · rw [if_pos c, if_pos c.symm]
    · rw [if_neg c, if_neg (Ne.symm c)]
  rw [sF_one hi (fun k hk2 hne => by rw [hk k hk2, if_neg hne]; grind), hk i hi, if_pos rfl]
  grind
/-- a square is told by what it does to the unit rows -/
theorem im_un [NeZero P] {w : Nat} {A : Nat → Fin P} {i j : Nat} (hi : i < w) (hj : j < w) : imV w A (fun k => if k = j then 1 else 0) i = A (i * w + j) := by
  unfold imV
  rw [sF_one hj (fun k hk hne => by (try dsimp only); rw [if_neg hne]; grind)]
  (try dsimp only)
  rw [if_pos rfl]
  grind
theorem im_ext [NeZero P] {w : Nat} {A B : Nat → Fin P} (h : ∀ x i, i < w → imV w A x i = imV w B x i) : ∀ m, m < w * w → A m = B m := by
  intro m hm
  have q1 : m / w < w := Nat.div_lt_of_lt_mul hm
  have q3 := Nat.mod_lt m (Nat.lt_of_le_of_lt (Nat.zero_le _) q1)
  have q4 : m / w * w + m % w = m := by rw [Nat.mul_comm]; exact Nat.div_add_mod m w
  have := h (fun k => if k = m % w then 1 else 0) (m / w) q1
  rw [im_un q1 q3, im_un q1 q3, q4] at this
  exact this
theorem inv_im [NeZero P] {w : Nat} {A : Nat → Fin P} : inv w (sqM w A) ↔ ∀ x : Nat → Fin P, (∀ i, i < w → imV w A x i = 0) → ∀ i, i < w → x i = 0 := Iff.rfl
theorem full_q [NeZero P] (hp0 : isP P) {w : Nat} {A : Nat → Fin P} : (gj w (agM w A) w).1 = w ↔ inv w (sqM w A) := by
  rw [full_iff hp0]
  exact inv_ag
theorem full_s [NeZero P] (hp0 : isP P) {w : Nat} {A : Nat → Fin P} : (gj w (sqM w A) w).1 = w ↔ inv w (sqM w A) := full_iff hp0
theorem iv_pr [NeZero P] (hp0 : isP P) {w : Nat} {A : Nat → Fin P} (h : inv w (sqM w A)) : (∀ m, m < w * w → prF w A (ivF w A) m = idF w m) ∧ ∀ m, m < w * w → prF w (ivF w A) A m = idF w m := by
  have hf := (full_q hp0).mpr h
  exact ⟨im_ext (fun x i hi => by rw [im_pr, iv_r hp0 hf hi, im_id x hi]), im_ext (fun x i hi => by rw [im_pr, iv_l hp0 hf hi, im_id x hi])⟩
/-- a square with a left inverse -/
theorem inv_of [NeZero P] {w : Nat} {A B : Nat → Fin P} (h : ∀ m, m < w * w → prF w B A m = idF w m) : inv w (sqM w A) := by
  rw [inv_im]
  intro x hx i hi
  have e : imV w (prF w B A) x i = x i := by rw [im_cgA h hi, im_id x hi]
  rw [← e, im_pr]
  exact im_0 hx i
theorem inv_pr [NeZero P] {w : Nat} {A B : Nat → Fin P} (hA : inv w (sqM w A)) (hB : inv w (sqM w B)) : inv w (sqM w (prF w A B)) := by
  rw [inv_im] at hA hB ⊢
  intro x hx
  exact hB x (hA _ (fun i hi => by rw [← im_pr]; exact hx i hi))
theorem inv_iv [NeZero P] (hp0 : isP P) {w : Nat} {A : Nat → Fin P} (h : inv w (sqM w A)) : inv w (sqM w (ivF w A)) := inv_of (iv_pr hp0 h).1
theorem tr_at {w : Nat} (A : Nat → Fin P) {i j : Nat} (hj : j < w) : trF w A (i * w + j) = A (j * w + i) := by
  unfold trF
  rw [show (i * w + j) / w = i by rw [Nat.mul_comm, Nat.mul_add_div (by omega), Nat.div_eq_of_lt hj, Nat.add_zero], show (i * w + j) % w = j by rw [Nat.mul_comm, Nat.mul_add_mod, Nat.mod_eq_of_lt hj]]
theorem tr_pr [NeZero P] {w : Nat} (A B : Nat → Fin P) : ∀ m, m < w * w → trF w (prF w A B) m = prF w (trF w B) (trF w A) m := by
  intro m hm
  have q1 : m / w < w := Nat.div_lt_of_lt_mul hm
  have q3 := Nat.mod_lt m (Nat.lt_of_le_of_lt (Nat.zero_le _) q1)
  show prF w A B (m % w * w + m / w) = sF (fun k => trF w B (m / w * w + k) * trF w A (k * w + m % w)) w
  rw [pr_at A B q1]
  refine sF_congr w (fun k hk => ?_)
  (try dsimp only)
  rw [tr_at B hk, tr_at A q3]
  grind
theorem tr_cg {w : Nat} {A B : Nat → Fin P} (h : ∀ m, m < w * w → A m = B m) : ∀ m, m < w * w → trF w A m = trF w B m := by
  intro m hm
  have q1 : m / w < w := Nat.div_lt_of_lt_mul hm
  have q3 := Nat.mod_lt m (Nat.lt_of_le_of_lt (Nat.zero_le _) q1)
  exact h _ (row_lt q3 q1)
theorem tr_id [NeZero P] {w : Nat} : ∀ m, m < w * w → trF w (idF (P := P) w) m = idF w m := by
  intro m hm
  have q1 : m / w < w := Nat.div_lt_of_lt_mul hm
  have q3 := Nat.mod_lt m (Nat.lt_of_le_of_lt (Nat.zero_le _) q1)
  show idF w (m % w * w + m / w) = idF w m
  unfold idF
  rw [show (m % w * w + m / w) / w = m % w by rw [Nat.mul_comm, Nat.mul_add_div (by omega), Nat.div_eq_of_lt q1, Nat.add_zero], show (m % w * w + m / w) % w = m / w by rw [Nat.mul_comm, Nat.mul_add_mod, Nat.mod_eq_of_lt q1]]
  by_cases c : m / w = m % w
  · rw [if_pos c, if_pos c.symm]
  · rw [if_neg c, if_neg (Ne.symm c)]
theorem tr_tr {w : Nat} (A : Nat → Fin P) : ∀ m, m < w * w → trF w (trF w A) m = A m := by
  intro m hm
  have q1 : m / w < w := Nat.div_lt_of_lt_mul hm
  have q3 := Nat.mod_lt m (Nat.lt_of_le_of_lt (Nat.zero_le _) q1)
  have q4 : m / w * w + m % w = m := by rw [Nat.mul_comm]; exact Nat.div_add_mod m w
  show trF w A (m % w * w + m / w) = A m
  rw [tr_at A q1, q4]
theorem inv_tr [NeZero P] (hp0 : isP P) {w : Nat} {A : Nat → Fin P} (h : inv w (sqM w A)) : inv w (sqM w (trF w A)) := inv_of (B := trF w (ivF w A)) (fun m hm => by rw [← tr_pr A (ivF w A) m hm, tr_cg (iv_pr hp0 h).1 m hm, tr_id m hm])
theorem sym_tr {w : Nat} {A : Nat → Fin P} : sym w A ↔ ∀ m, m < w * w → trF w A m = A m := by
  refine ⟨fun h m hm => ?_, fun h i j hi hj => ?_⟩
  · have q1 : m / w < w := Nat.div_lt_of_lt_mul hm
    have q3 := Nat.mod_lt m (Nat.lt_of_le_of_lt (Nat.zero_le _) q1)
    have q4 : m / w * w + m % w = m := by rw [Nat.mul_comm]; exact Nat.div_add_mod m w
    have := h (m % w) (m / w) q3 q1
    rw [q4] at this
    exact this
  · have := h (j * w + i) (row_lt hj hi)
    rw [tr_at A hi] at this
    exact this
/-- the inverse of a square that is its own mirror is one -/
theorem sym_iv [NeZero P] (hp0 : isP P) {w : Nat} {A : Nat → Fin P} (h : inv w (sqM w A)) (hs : sym w A) : sym w (ivF w A) := by
  rw [sym_tr] at hs ⊢
  intro m hm
  have hw : 0 < w := Nat.lt_of_le_of_lt (Nat.zero_le _) (Nat.div_lt_of_lt_mul hm)
  obtain ⟨h1, h2⟩ := iv_pr hp0 h
  have e1 : ∀ m, m < w * w → prF w (trF w (ivF w A)) A m = idF w m := fun m hm => by
    rw [pr_cg (A' := trF w (ivF w A)) (B' := trF w A) (fun _ _ => rfl) (fun k hk => (hs k hk).symm) m hm, ← tr_pr A (ivF w A) m hm, tr_cg h1 m hm, tr_id m hm]
  have e2 : prF w (trF w (ivF w A)) (prF w A (ivF w A)) m = trF w (ivF w A) m := by
    rw [pr_cg (A' := trF w (ivF w A)) (B' := idF w) (fun _ _ => rfl) h1 m hm, pr_idr _ m hm]
  rw [← e2, ← pr_as hw, pr_cg (A' := idF w) (B' := ivF w A) e1 (fun _ _ => rfl) m hm, pr_id _ m hm]
theorem sym_con [NeZero P] {w : Nat} {N X : Nat → Fin P} (hs : sym w X) : sym w (prF w (prF w (trF w N) X) N) := by
  rw [sym_tr] at hs ⊢
  intro m hm
  have hw : 0 < w := Nat.lt_of_le_of_lt (Nat.zero_le _) (Nat.div_lt_of_lt_mul hm)
  rw [tr_pr _ _ m hm, pr_cg (A' := trF w N) (B' := prF w X N) (fun _ _ => rfl) (fun k hk => ?_) m hm, ← pr_as hw]
  rw [tr_pr _ _ k hk]
  exact pr_cg hs (tr_tr N) k hk
theorem inv_nz [NeZero P] (hp0 : isP P) {w : Nat} (hw : 0 < w) {A : Nat → Fin P} (h : inv w (sqM w A)) : ldV A (w * w) < w * w := by
  rcases Nat.lt_or_ge (ldV A (w * w)) (w * w) with c | c
  · exact c
  · have := ldV_le A (w * w)
    have hz := ldV_eq.mp (show ldV A (w * w) = w * w by omega)
    have := inv_im.mp h (fun k => if k = 0 then 1 else 0) (fun i hi => by rw [im_un hi hw]; exact hz _ (row_lt hi hw)) 0 hw
    exact absurd this (one_ne hp0)
theorem im_nz [NeZero P] {w : Nat} {A x : Nat → Fin P} (h : inv w (sqM w A)) (hx : ldV x w < w) : ldV (imV w A x) w < w := by
  rcases Nat.lt_or_ge (ldV (imV w A x) w) w with c | c
  · exact c
  · have := ldV_le (imV w A x) w
    exact absurd (inv_im.mp h x (ldV_eq.mp (show ldV (imV w A x) w = w by omega)) _ hx) (ldV_nz hx)
theorem con_nz [NeZero P] (hp0 : isP P) {w : Nat} (hw : 0 < w) {M X : Nat → Fin P} (h : inv w (sqM w M)) (hx : ldV X (w * w) < w * w) : ldV (prF w (prF w (trF w (ivF w M)) X) (ivF w M)) (w * w) < w * w := by
  rcases Nat.lt_or_ge (ldV (prF w (prF w (trF w (ivF w M)) X) (ivF w M)) (w * w)) (w * w) with c | c
  · exact c
  · have hle := ldV_le (prF w (prF w (trF w (ivF w M)) X) (ivF w M)) (w * w)
    have hz := ldV_eq.mp (show ldV (prF w (prF w (trF w (ivF w M)) X) (ivF w M)) (w * w) = w * w by omega)
    have hf := (full_q hp0).mpr h
    have ht := inv_im.mp (inv_tr hp0 (inv_iv hp0 h))
    have hX : ∀ m, m < w * w → X m = (fun _ => (0 : Fin P)) m := by
      refine im_ext (fun z i hi => ?_)
      have e0 : ∀ y : Nat → Fin P, ∀ i, i < w → imV w X (imV w (ivF w M) y) i = 0 := by
        intro y
        refine ht _ (fun i hi => ?_)
        rw [← im_pr, ← im_pr, im_cgA hz hi]
        unfold imV
        exact sF_0 (fun j hj => by grind)
      have e1 := e0 (imV w M z) i hi
      rw [im_cg (fun j hj => iv_l hp0 hf hj)] at e1
      rw [e1]
      unfold imV
      exact (sF_0 (fun j hj => by (try dsimp only); grind)).symm
    exact absurd (hX _ hx) (ldV_nz hx)
/-- rows in steps go to rows whose wedge is not 0 -/
theorem wg_im [NeZero P] (hp0 : isP P) {w i0 j0 : Nat} (hw : w = 3 ∨ w = 4) {M b0 b1 : Nat → Fin P} (h : inv w (sqM w M)) (hi : i0 < w) (hj : j0 < w) (e1 : b0 i0 = 1) (e2 : b0 j0 = 0) (e4 : b1 j0 = 1) : ldV (wgF w (imV w M b0) (imV w M b1)) (swi w w) < swi w w := by
  rcases Nat.lt_or_ge (ldV (wgF w (imV w M b0) (imV w M b1)) (swi w w)) (swi w w) with c | c
  · exact c
  · exfalso
    have hle := ldV_le (wgF w (imV w M b0) (imV w M b1)) (swi w w)
    have hz := ldV_eq.mp (show ldV (wgF w (imV w M b0) (imV w M b1)) (swi w w) = swi w w by omega)
    have hb : ∀ i j, i < j → j < w → imV w M b0 i * imV w M b1 j - imV w M b0 j * imV w M b1 i = 0 := by
      intro i j h1 h2
      have hp2 := wIJ hw h1 h2
      have := hz _ hp2.2.2
      unfold wgF bkt at this
      rw [hp2.1, hp2.2.1] at this
      exact this
    have ha : ∀ i j, i < w → j < w → imV w M b0 i * imV w M b1 j - imV w M b0 j * imV w M b1 i = 0 := by
      intro i j h1 h2
      rcases Nat.lt_trichotomy i j with q | q | q
      · exact hb i j q h2
      · subst q
        grind
      · have := hb j i q h1
        grind
    by_cases hn : ∀ i, i < w → imV w M b0 i = 0
    · have := inv_im.mp h b0 hn i0 hi
      rw [e1] at this
      exact one_ne hp0 this
    · have hex : ∃ i, i < w ∧ imV w M b0 i ≠ 0 := Classical.byContradiction (fun q => hn (fun i hi => Classical.byContradiction (fun q2 => q ⟨i, hi, q2⟩)))
      obtain ⟨i, hi2, hne⟩ := hex
      have hlin : ∀ k, imV w M (fun j => imV w M b0 i * b1 j - imV w M b1 i * b0 j) k = imV w M b0 i * imV w M b1 k - imV w M b1 i * imV w M b0 k := by
        intro k
        have e : imV w M (fun j => imV w M b0 i * b1 j - imV w M b1 i * b0 j) k = sF (fun j => imV w M b0 i * (M (k * w + j) * b1 j) + (- imV w M b1 i) * (M (k * w + j) * b0 j)) w := by
          show sF (fun j => M (k * w + j) * (imV w M b0 i * b1 j - imV w M b1 i * b0 j)) w = _
          refine sF_congr w (fun j hj => ?_)
          (try dsimp only)
          grind
        rw [e, sF_add, sF_mul, sF_mul]
        show imV w M b0 i * imV w M b1 k + (- imV w M b1 i) * imV w M b0 k = _
        grind
      have := inv_im.mp h (fun j => imV w M b0 i * b1 j - imV w M b1 i * b0 j) (fun k hk => by
        rw [hlin k]
        have := ha i k hi2 hk
        grind) j0 hj
      rw [e4, e2] at this
      exact hne (by grind)
end MAT
