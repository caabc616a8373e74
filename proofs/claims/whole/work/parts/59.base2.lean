section BASE2
variable {P : Nat}
theorem swi_mo {w i i0 l : Nat} (hw : w = 3 ∨ w = 4) (h1 : i < i0) (h2 : i < l) (h3 : l < w) (h4 : i0 < w) : swi w i + (l - i - 1) < swi w i0 := by
  have q1 := swi_s hw (show i < w by omega)
  have q2 : ∀ n, i + 1 + n < w → swi w (i + 1) ≤ swi w (i + 1 + n) := by
    intro n
    induction n with
    | zero => intro _; exact Nat.le_refl _
    | succ n ih =>
      intro hn
      have := swi_s hw (show i + 1 + n < w by omega)
      have := ih (by omega)
      rw [show i + 1 + (n + 1) = i + 1 + n + 1 by omega]
      omega
  have q3 := q2 (i0 - (i + 1)) (by omega)
  rw [show i + 1 + (i0 - (i + 1)) = i0 by omega] at q3
  omega
/-- the places before the first number that is not 0 -/
theorem sk_z [NeZero P] {w i0 j0 : Nat} {M : Nat → Fin P} (hw : w = 3 ∨ w = 4) (hn : ldV M (swi w w) < swi w w) (hI : i0 = wI w (ldV M (swi w w))) (hJ : j0 = wJ w (ldV M (swi w w))) : i0 < j0 ∧ j0 < w ∧ skF w M i0 j0 = M (ldV M (swi w w)) ∧ M (ldV M (swi w w)) ≠ 0 ∧ (∀ i j, i < i0 → j < w → skF w M i j = 0) ∧ ∀ j, j < j0 → skF w M i0 j = 0 := by
  obtain ⟨k1, k2, k3⟩ := wIJ_w hw hn
  rw [← hI, ← hJ] at k1
  rw [← hJ] at k2
  rw [← hI, ← hJ] at k3
  have up : ∀ i j, i < i0 → i < j → j < w → skF w M i j = 0 := by
    intro i j h1 h2 h3
    rw [skF_up M h2]
    exact ldV_z (n := swi w w) (by have := swi_mo hw h1 h2 h3 (show i0 < w by omega); omega)
  have r0 : ∀ i j, i < i0 → j < w → skF w M i j = 0 := by
    intro i j h1 h2
    rcases Nat.lt_trichotomy i j with c | c | c
    · exact up i j h1 c h2
    · subst c
      exact sk_dg M i
    · rw [sk_ng, up j i (by omega) c (by omega)]
      grind
  refine ⟨k1, k2, by rw [skF_up M k1, k3], ldV_nz hn, r0, fun j hj => ?_⟩
  rcases Nat.lt_trichotomy j i0 with c | c | c
  · rw [sk_ng, r0 j i0 c (by omega)]
    grind
  · subst c
    exact sk_dg M j
  · rw [skF_up M c]
    exact ldV_z (n := swi w w) (by omega)
/-- both bases of a line are one -/
theorem ba_bw [NeZero P] (hp0 : isP P) {d : Nat} (hd : d = 2 ∨ d = 3) {L : Nat → Fin P} (hpl : d = 3 → plu L) (hn : ldV (blF (d + 1) L) (swi (d + 1) (d + 1)) < swi (d + 1) (d + 1)) : ∀ j, j < d + 1 → baF d L 0 j = bwF (d + 1) (blF (d + 1) L) 0 j ∧ baF d L 1 j = bwF (d + 1) (blF (d + 1) L) 1 j := by
  have hw : d + 1 = 3 ∨ d + 1 = 4 := by omega
  have hpw : d + 1 = 4 → plu (blF (d + 1) L) := by
    intro e
    have : d = 3 := by omega
    subst this
    exact hpl rfl
  generalize hM : blF (d + 1) L = M at *
  generalize hI : wI (d + 1) (ldV M (swi (d + 1) (d + 1))) = i0
  generalize hJ : wJ (d + 1) (ldV M (swi (d + 1) (d + 1))) = j0
  obtain ⟨k1, k2, k3, k4, k5, k6⟩ := sk_z hw hn hI.symm hJ.symm
  generalize hv : M (ldV M (swi (d + 1) (d + 1))) = v at *
  have hf := fi_mul hp0 k4
  have b0 : ∀ m, bwF (d + 1) M 0 m = (- fi v) * skF (d + 1) M j0 m := fun m => by
    unfold bwF
    rw [if_pos rfl, hv, hJ]
  have b1 : ∀ m, bwF (d + 1) M 1 m = fi v * skF (d + 1) M i0 m := fun m => by
    unfold bwF
    rw [if_neg (by omega), hv, hI]
  have hji : skF (d + 1) M j0 i0 = - v := by rw [sk_ng, k3]
  have key := base_un hp0 (A := skF (d + 1) M) (b0 := bwF (d + 1) M 0) (b1 := bwF (d + 1) M 1) k1 k2 (fun i j hi hj => ?_) (sp_congr (sp_row k2 (- fi v)) (fun m => (b0 m).symm)) (sp_congr (sp_row (show i0 < d + 1 by omega) (fi v)) (fun m => (b1 m).symm)) (by rw [b0, hji]; grind) (by rw [b0, sk_dg]; grind) (by rw [b1, sk_dg]; grind) (by rw [b1, k3]; grind) (fun j hj => ?_) (fun j hj => ?_)
  · intro j hj
    have hc := gj_cols (h := d + 1) (u := d + 1) (M := bsM d L) (N := skF (d + 1) M) (fun i j hi hj => by rw [bsM_sk hd L hi hj, hM]) (d + 1) (Nat.le_refl _)
    have := key j hj
    unfold baF
    exact ⟨by rw [hc.2 0 j (by omega) hj]; exact this.1, by rw [hc.2 1 j (by omega) hj]; exact this.2⟩
  · have hq := sk_plu hw hpw (show i0 < d + 1 by omega) k2 hi hj
    rw [k3] at hq
    have n1 := sk_ng (w := d + 1) M i i0
    have n2 := sk_ng (w := d + 1) M i j0
    rw [b0, b1]
    grind
  · rw [b0, sk_ng, k5 j j0 hj k2]
    grind
  · rw [b1, k6 j hj]
    grind
theorem fl_fl [NeZero P] (L : Nat → Fin P) {k : Nat} (hk : k < 6) : flF 6 (flF 6 L) k = L k := by
  have h (x : Fin P) : - - x = x := by grind
  rcases (show k = 0 ∨ k = 1 ∨ k = 2 ∨ k = 3 ∨ k = 4 ∨ k = 5 by omega) with rfl | rfl | rfl | rfl | rfl | rfl <;> first | rfl | exact h _
theorem fl_fl3 [NeZero P] (L : Nat → Fin P) {k : Nat} (hk : k < 3) : flF 3 (flF 3 L) k = L k := by
  have h (x : Fin P) : - - x = x := by grind
  rcases (show k = 0 ∨ k = 1 ∨ k = 2 by omega) with rfl | rfl | rfl <;> first | rfl | exact h _
theorem fl_0 [NeZero P] {n : Nat} (hn : n = 3 ∨ n = 6) {L : Nat → Fin P} (h : ∀ k, k < n → flF n L k = 0) : ∀ k, k < n → L k = 0 := by
  intro k hk
  have e : flF n (flF n L) k = L k := by
    rcases hn with rfl | rfl
    · exact fl_fl3 L hk
    · exact fl_fl L hk
  rw [← e]
  have e2 : flF n (flF n L) k = if k % 3 = 1 then - flF n L (n - 1 - k) else flF n L (n - 1 - k) := rfl
  rw [e2]
  by_cases c : k % 3 = 1
  · rw [if_pos c, h _ (by omega)]
    grind
  · rw [if_neg c, h _ (by omega)]
theorem fl_nz [NeZero P] {n : Nat} (hn : n = 3 ∨ n = 6) {L : Nat → Fin P} (h : ldV L n < n) : ldV (flF n L) n < n := by
  rcases Nat.lt_or_ge (ldV (flF n L) n) n with c | c
  · exact c
  · have := ldV_le (flF n L) n
    have z := fl_0 hn (ldV_eq.mp (show ldV (flF n L) n = n by omega))
    exact absurd (z _ h) (ldV_nz h)
theorem bl_nz [NeZero P] {w : Nat} (hw : w = 3 ∨ w = 4) {L : Nat → Fin P} (h : ldV L (swi w w) < swi w w) : ldV (blF w L) (swi w w) < swi w w := by
  rcases hw with rfl | rfl
  · exact fl_nz (Or.inl rfl) h
  · exact h
theorem wd1 {d : Nat} (hd : d = 2 ∨ d = 3) : wd d 1 = swi (d + 1) (d + 1) := by
  rcases hd with rfl | rfl <;> rfl
theorem wd0 (d : Nat) : wd d 0 = d + 1 := rfl
theorem wd2 (d : Nat) : wd d 2 = d + 1 := rfl
theorem wd3 (d : Nat) : wd d 3 = (d + 1) * (d + 1) := rfl
theorem wd4 (d : Nat) : wd d 4 = (d + 1) * (d + 1) := rfl
theorem wdf {d : Nat} (hd : d = 2 ∨ d = 3) : wd d (d - 1) = d + 1 := by
  rcases hd with rfl | rfl <;> rfl
/-- normal rows whose wedge is 0 are one -/
theorem wg_eq [NeZero P] (hp0 : isP P) {w : Nat} (hw : w = 3 ∨ w = 4) {x y : Nat → Fin P} (hx : nrm w x) (hy : nrm w y) (h : ∀ k, k < swi w w → wgF w x y k = 0) : ∀ j, j < w → x j = y j := by
  have hb : ∀ i j, i < j → j < w → bkt x y i j = 0 := by
    intro i j h1 h2
    have hp2 := wIJ hw h1 h2
    have := h _ hp2.2.2
    unfold wgF at this
    rw [hp2.1, hp2.2.1] at this
    exact this
  have ha : ∀ i j, i < w → j < w → x i * y j - x j * y i = 0 := by
    intro i j h1 h2
    rcases Nat.lt_trichotomy i j with c | c | c
    · exact hb i j c h2
    · subst c
      grind
    · have := hb j i c h1
      unfold bkt at this
      grind
  have hne : ldV x w = ldV y w := by
    rcases Nat.lt_trichotomy (ldV x w) (ldV y w) with c | c | c
    · have z := ldV_z c
      have := ha _ _ hx.1 hy.1
      rw [hx.2, hy.2, z] at this
      exact absurd (show (1 : Fin P) = 0 by grind) (one_ne hp0)
    · exact c
    · have z := ldV_z c
      have := ha _ _ hx.1 hy.1
      rw [hx.2, hy.2, z] at this
      exact absurd (show (1 : Fin P) = 0 by grind) (one_ne hp0)
  intro j hj
  have := ha _ _ hx.1 hj
  rw [hx.2, hne, hy.2] at this
  grind
theorem ln_cr [NeZero P] (x y : Nat → Fin P) {k : Nat} (hk : k < 3) : lnF 3 x y k = cr3 x y k := by
  have h (a b : Fin P) : - (a - b) = b - a := by grind
  rcases (show k = 0 ∨ k = 1 ∨ k = 2 by omega) with rfl | rfl | rfl <;> first | rfl | exact h _ _
theorem ln_wg [NeZero P] (x y : Nat → Fin P) {k : Nat} (hk : k < 6) : lnF 4 x y k = wg4 x y k := by
  rcases (show k = 0 ∨ k = 1 ∨ k = 2 ∨ k = 3 ∨ k = 4 ∨ k = 5 by omega) with rfl | rfl | rfl | rfl | rfl | rfl <;> rfl
theorem ln_0 [NeZero P] {w : Nat} (hw : w = 3 ∨ w = 4) {x y : Nat → Fin P} (h : ∀ k, k < swi w w → lnF w x y k = 0) : ∀ k, k < swi w w → wgF w x y k = 0 := by
  rcases hw with rfl | rfl
  · exact fl_0 (Or.inl rfl) h
  · exact h
theorem ln_nz [NeZero P] (hp0 : isP P) {w : Nat} (hw : w = 3 ∨ w = 4) {x y : Nat → Fin P} (hx : nrm w x) (hy : nrm w y) (hne : ¬ ∀ j, j < w → x j = y j) : ldV (lnF w x y) (swi w w) < swi w w := by
  rcases Nat.lt_or_ge (ldV (lnF w x y) (swi w w)) (swi w w) with c | c
  · exact c
  · have := ldV_le (lnF w x y) (swi w w)
    exact absurd (wg_eq hp0 hw hx hy (ln_0 hw (ldV_eq.mp (by omega)))) hne
theorem wg_same [NeZero P] {w : Nat} (x : Nat → Fin P) (k : Nat) : wgF w x x k = 0 := by
  unfold wgF bkt
  grind
theorem ln_same [NeZero P] {w : Nat} (x : Nat → Fin P) (k : Nat) : lnF w x x k = 0 := by
  unfold lnF
  by_cases c : w = 3
  · rw [if_pos c]
    unfold flF
    rw [wg_same]
    by_cases e : k % 3 = 1
    · rw [if_pos e]
      grind
    · rw [if_neg e]
  · rw [if_neg c]
    exact wg_same x k
theorem plu_wg [NeZero P] (x y : Nat → Fin P) : plu (wgF 4 x y) := by
  show (x 0 * y 1 - x 1 * y 0) * (x 2 * y 3 - x 3 * y 2) - (x 0 * y 2 - x 2 * y 0) * (x 1 * y 3 - x 3 * y 1) + (x 0 * y 3 - x 3 * y 0) * (x 1 * y 2 - x 2 * y 1) = 0
  grind
theorem sx_sp [NeZero P] (L x : Nat → Fin P) {i : Nat} (hi : i < 4) : sxF 4 (flF 6 L) x i = sp4 L x i := by
  unfold sxF
  rw [sF4]
  rcases (show i = 0 ∨ i = 1 ∨ i = 2 ∨ i = 3 by omega) with rfl | rfl | rfl | rfl <;> simp [skF, swi, flF, sp4] <;> grind
theorem cr_is [NeZero P] (A B : Nat → Fin P) : crF 6 A B = A 0 * B 5 - A 1 * B 4 + A 2 * B 3 + A 3 * B 2 - A 4 * B 1 + A 5 * B 0 := by
  unfold crF
  have h6 (f : Nat → Fin P) : sF f 6 = f 0 + f 1 + f 2 + f 3 + f 4 + f 5 := by
    simp [sF]
  rw [h6]
  simp [flF]
  grind
theorem cr_fl [NeZero P] (A B : Nat → Fin P) : crF 6 (flF 6 A) (flF 6 B) = crF 6 A B := by
  rw [cr_is, cr_is]
  simp [flF]
  grind
end BASE2
