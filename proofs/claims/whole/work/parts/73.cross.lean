section CROSS
variable {P : Nat}
/-- a base does not care for a factor -/
theorem bw_mul [NeZero P] (hp0 : isP P) {L M : Nat → Fin P} {s : Fin P} (hs : s ≠ 0) (h : ∀ k, k < 6 → M k = s * L k) (hn : ldV L 6 < 6) {r m : Nat} (hm : m < 4) : bwF 4 M r m = bwF 4 L r m := by
  have e : ldV M 6 = ldV L 6 := ld_mul hp0 hs h
  have hk := wIJ_w (w := 4) (k := ldV L 6) (Or.inr rfl) hn
  have sk : ∀ i, i < 4 → skF 4 M i m = s * skF 4 L i m := by
    intro i hi
    have up : ∀ x y, x < y → y < 4 → skF 4 M x y = s * skF 4 L x y := fun x y q1 q2 => by
      rw [skF_up M q1, skF_up L q1]
      exact h _ (wIJ (w := 4) (Or.inr rfl) q1 q2).2.2
    rcases Nat.lt_trichotomy i m with q | q | q
    · exact up i m q hm
    · subst q
      rw [sk_dg, sk_dg]
      grind
    · rw [sk_ng, up m i q hi, sk_ng L i m]
      grind
  have hv := ldV_nz hn
  have hf := fi_mul hp0 hs
  show (if r = 0 then (- fi (M (ldV M 6))) * skF 4 M (wJ 4 (ldV M 6)) m else fi (M (ldV M 6)) * skF 4 M (wI 4 (ldV M 6)) m) = (if r = 0 then (- fi (L (ldV L 6))) * skF 4 L (wJ 4 (ldV L 6)) m else fi (L (ldV L 6)) * skF 4 L (wI 4 (ldV L 6)) m)
  rw [e, h _ hn, sk _ (by omega), sk _ (by omega), fi_pr hp0 hs hv]
  by_cases c : r = 0
  · rw [if_pos c, if_pos c]
    grind
  · rw [if_neg c, if_neg c]
    grind
theorem sp_lin [NeZero P] (A x y : Nat → Fin P) (a b : Fin P) (i : Nat) : sp4 A (fun m => a * x m + b * y m) i = a * sp4 A x i + b * sp4 A y i := by
  match i with
  | 0 => simp only [sp4]; grind
  | 1 => simp only [sp4]; grind
  | 2 => simp only [sp4]; grind
  | 3 => simp only [sp4]; grind
  | n + 4 => simp only [sp4]; grind
theorem plu_mul [NeZero P] {L M : Nat → Fin P} {s : Fin P} (h : ∀ k, k < 6 → M k = s * L k) (hp : plu L) : plu M := by
  unfold plu at hp ⊢
  rw [h 0 (by omega), h 1 (by omega), h 2 (by omega), h 3 (by omega), h 4 (by omega), h 5 (by omega)]
  grind
theorem nm_at [NeZero P] {y : Nat → Fin P} {W : Nat} (h : ldV y W < W) (k : Nat) : nmV y W k = fi (y (ldV y W)) * y k := by
  unfold nmV
  rw [if_pos h]
  grind
/-- a line through two points is their wedge -/
theorem ln_on [NeZero P] (hp0 : isP P) {A x y : Nat → Fin P} (hA : nrm 6 A) (hx : ∀ i, i < 4 → sp4 A x i = 0) (hy : ∀ i, i < 4 → sp4 A y i = 0) (hn : ldV (wgF 4 x y) 6 < 6) : ∀ k, k < 6 → A k = nmV (wgF 4 x y) 6 k := by
  have hW := nrm_nm hp0 hn
  have hs := fi_ne hp0 (ldV_nz hn)
  have hpl : plu (nmV (wgF 4 x y) 6) := plu_mul (fun k _ => nm_at hn k) (plu_wg x y)
  have row : ∀ j m, j < 4 → m < 4 → skF 4 (wgF 4 x y) j m = x j * y m - x m * y j := by
    intro j m hj hm
    rcases (show j = 0 ∨ j = 1 ∨ j = 2 ∨ j = 3 by omega) with rfl | rfl | rfl | rfl <;> rcases (show m = 0 ∨ m = 1 ∨ m = 2 ∨ m = 3 by omega) with rfl | rfl | rfl | rfl <;> simp [skF, swi, wgF, bkt, wI, wJ] <;> grind
  have on : ∀ (c : Fin P) (j : Nat), j < 4 → ∀ i, i < 4 → sp4 A (fun m => c * skF 4 (wgF 4 x y) j m) i = 0 := by
    intro c j hj i hi
    rw [sp_cg (y := fun m => (- (c * y j)) * x m + (c * x j) * y m) (fun m hm => by (try dsimp only); rw [row j m hj hm]; grind) i, sp_lin, hx i hi, hy i hi]
    grind
  have hk := wIJ_w (w := 4) (k := ldV (wgF 4 x y) 6) (Or.inr rfl) hn
  have b : ∀ r i, i < 4 → sp4 A (bwF 4 (nmV (wgF 4 x y) 6) r) i = 0 := by
    intro r i hi
    rw [sp_cg (y := bwF 4 (wgF 4 x y) r) (fun m hm => bw_mul hp0 hs (fun k _ => nm_at hn k) hn hm) i]
    by_cases c : r = 0
    · rw [sp_cg (y := fun m => (- fi (wgF 4 x y (ldV (wgF 4 x y) 6))) * skF 4 (wgF 4 x y) (wJ 4 (ldV (wgF 4 x y) 6)) m) (fun m _ => by unfold bwF; rw [if_pos c]; rfl) i]
      exact on _ _ hk.2.1 i hi
    · rw [sp_cg (y := fun m => fi (wgF 4 x y (ldV (wgF 4 x y) 6)) * skF 4 (wgF 4 x y) (wI 4 (ldV (wgF 4 x y) 6)) m) (fun m _ => by unfold bwF; rw [if_neg c]; rfl) i]
      exact on _ _ (Nat.lt_trans hk.1 hk.2.1) i hi
  exact two_eq hp0 hA hW hpl (b 0) (b 1)
/-- rows whose wedge is 0 are multiples -/
theorem wg_mul [NeZero P] (hp0 : isP P) {w : Nat} (hw : w = 3 ∨ w = 4) {x y : Nat → Fin P} (hx : ldV x w < w) (hy : ldV y w < w) (h : ∀ k, k < swi w w → wgF w x y k = 0) : ∃ l, l ≠ 0 ∧ ∀ j, j < w → y j = l * x j := by
  have hb : ∀ i j, i < j → j < w → x i * y j - x j * y i = 0 := by
    intro i j h1 h2
    have hp2 := wIJ hw h1 h2
    have := h _ hp2.2.2
    unfold wgF bkt at this
    rw [hp2.1, hp2.2.1] at this
    exact this
  have ha : ∀ i j, i < w → j < w → x i * y j - x j * y i = 0 := by
    intro i j h1 h2
    rcases Nat.lt_trichotomy i j with c | c | c
    · exact hb i j c h2
    · subst c
      grind
    · have := hb j i c h1
      grind
  have hn := ldV_nz hx
  have hf := fi_mul hp0 hn
  have e : ∀ j, j < w → y j = (y (ldV x w) * fi (x (ldV x w))) * x j := by
    intro j hj
    have := ha _ j hx hj
    grind
  refine ⟨_, fun q => ?_, e⟩
  have := e _ hy
  rw [q] at this
  exact ldV_nz hy (by rw [this]; grind)
/-- two lines have one point in common -/
theorem one_pt [NeZero P] (hp0 : isP P) {A B x y : Nat → Fin P} (hA : nrm 6 A) (hB : nrm 6 B) (hne : ¬ ∀ k, k < 6 → A k = B k) (x1 : ∀ i, i < 4 → sp4 A x i = 0) (x2 : ∀ i, i < 4 → sp4 B x i = 0) (y1 : ∀ i, i < 4 → sp4 A y i = 0) (y2 : ∀ i, i < 4 → sp4 B y i = 0) (hx : ldV x 4 < 4) (hy : ldV y 4 < 4) : ∃ l, l ≠ 0 ∧ ∀ j, j < 4 → y j = l * x j := by
  refine wg_mul hp0 (w := 4) (Or.inr rfl) hx hy ?_
  refine ldV_eq.mp ?_
  rcases Nat.lt_or_ge (ldV (wgF 4 x y) 6) 6 with c | c
  · exact absurd (fun k hk => by rw [ln_on hp0 hA x1 y1 c k hk, ln_on hp0 hB x2 y2 c k hk]) hne
  · have := ldV_le (wgF 4 x y) 6
    show ldV (wgF 4 x y) 6 = 6
    omega
/-- what a line makes of a plane is on the line -/
theorem sx_on [NeZero P] {A : Nat → Fin P} (hpl : plu A) (z : Nat → Fin P) {i : Nat} (hi : i < 4) : sp4 A (sxF 4 A z) i = 0 := by
  have e : ∀ m, m < 4 → sxF 4 A z m = skF 4 A m 0 * z 0 + skF 4 A m 1 * z 1 + skF 4 A m 2 * z 2 + skF 4 A m 3 * z 3 := fun m _ => by
    unfold sxF
    rw [sF4]
  have e0 := e 0 (by omega)
  have e1 := e 1 (by omega)
  have e2 := e 2 (by omega)
  have e3 := e 3 (by omega)
  unfold plu at hpl
  simp [skF, swi] at e0 e1 e2 e3
  rcases (show i = 0 ∨ i = 1 ∨ i = 2 ∨ i = 3 by omega) with rfl | rfl | rfl | rfl <;> simp only [sp4, e0, e1, e2, e3] <;> grind
/-- .. and on every line of that plane that crosses it -/
theorem sx_on2 [NeZero P] {A B : Nat → Fin P} (hpl : plu B) (hc : crF 6 A B = 0) (f : Fin P) {j : Nat} (hj : j < 4) {i : Nat} (hi : i < 4) : sp4 B (sxF 4 A (fun m => f * skF 4 (flF 6 B) j m)) i = 0 := by
  rw [cr_is] at hc
  generalize hz : (fun m => f * skF 4 (flF 6 B) j m) = z
  have z0 : z 0 = f * skF 4 (flF 6 B) j 0 := by rw [← hz]
  have z1 : z 1 = f * skF 4 (flF 6 B) j 1 := by rw [← hz]
  have z2 : z 2 = f * skF 4 (flF 6 B) j 2 := by rw [← hz]
  have z3 : z 3 = f * skF 4 (flF 6 B) j 3 := by rw [← hz]
  clear hz
  have e : ∀ m, m < 4 → sxF 4 A z m = skF 4 A m 0 * z 0 + skF 4 A m 1 * z 1 + skF 4 A m 2 * z 2 + skF 4 A m 3 * z 3 := fun m _ => by
    unfold sxF
    rw [sF4]
  have e0 := e 0 (by omega)
  have e1 := e 1 (by omega)
  have e2 := e 2 (by omega)
  have e3 := e 3 (by omega)
  clear e
  unfold plu at hpl
  simp [skF, swi] at e0 e1 e2 e3
  rcases (show j = 0 ∨ j = 1 ∨ j = 2 ∨ j = 3 by omega) with rfl | rfl | rfl | rfl <;> simp [skF, swi, flF] at z0 z1 z2 z3 <;> rcases (show i = 0 ∨ i = 1 ∨ i = 2 ∨ i = 3 by omega) with rfl | rfl | rfl | rfl <;> simp only [sp4, e0, e1, e2, e3, z0, z1, z2, z3] <;> grind
end CROSS
