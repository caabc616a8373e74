section CROSS2
variable {P : Nat}
theorem wg_base [NeZero P] (hp0 : isP P) {B : Nat → Fin P} (hB : nrm 6 B) (hpl : plu B) : ∀ k, k < 6 → wgF 4 (bwF 4 B 0) (bwF 4 B 1) k = B k := by
  obtain ⟨n1, n2⟩ := hB
  have hz : ∀ i, i < ldV B 6 → B i = 0 := fun i hi => ldV_z hi
  have hf := fi_1 (P := P) hp0
  unfold plu at hpl
  intro k hk
  have hgen : ∀ r m, bwF 4 B r m = if r = 0 then (- fi (B (ldV B 6))) * skF 4 B (wJ 4 (ldV B 6)) m else fi (B (ldV B 6)) * skF 4 B (wI 4 (ldV B 6)) m := fun r m => rfl
  rw [n2, hf] at hgen
  rcases ld_cases n1 with e | e | e | e | e | e
  all_goals
    rw [e] at n2 hz hgen
    unfold wgF bkt
    simp only [hgen, wI, wJ, swi, skF]
  · rcases (show k = 0 ∨ k = 1 ∨ k = 2 ∨ k = 3 ∨ k = 4 ∨ k = 5 by omega) with rfl | rfl | rfl | rfl | rfl | rfl <;> simp <;> grind
  · have z0 := hz 0 (by omega)
    rcases (show k = 0 ∨ k = 1 ∨ k = 2 ∨ k = 3 ∨ k = 4 ∨ k = 5 by omega) with rfl | rfl | rfl | rfl | rfl | rfl <;> simp <;> grind
  · have z0 := hz 0 (by omega)
    have z1 := hz 1 (by omega)
    rcases (show k = 0 ∨ k = 1 ∨ k = 2 ∨ k = 3 ∨ k = 4 ∨ k = 5 by omega) with rfl | rfl | rfl | rfl | rfl | rfl <;> simp <;> grind
  · have z0 := hz 0 (by omega)
    have z1 := hz 1 (by omega)
    have z2 := hz 2 (by omega)
    rcases (show k = 0 ∨ k = 1 ∨ k = 2 ∨ k = 3 ∨ k = 4 ∨ k = 5 by omega) with rfl | rfl | rfl | rfl | rfl | rfl <;> simp <;> grind
  · have z0 := hz 0 (by omega)
    have z1 := hz 1 (by omega)
    have z2 := hz 2 (by omega)
    have z3 := hz 3 (by omega)
    rcases (show k = 0 ∨ k = 1 ∨ k = 2 ∨ k = 3 ∨ k = 4 ∨ k = 5 by omega) with rfl | rfl | rfl | rfl | rfl | rfl <;> simp <;> grind
  · have z0 := hz 0 (by omega)
    have z1 := hz 1 (by omega)
    have z2 := hz 2 (by omega)
    have z3 := hz 3 (by omega)
    have z4 := hz 4 (by omega)
    rcases (show k = 0 ∨ k = 1 ∨ k = 2 ∨ k = 3 ∨ k = 4 ∨ k = 5 by omega) with rfl | rfl | rfl | rfl | rfl | rfl <;> simp <;> grind
/-- the planes of a line with two points of a line that crosses it are one -/
theorem sp_min [NeZero P] {A u v : Nat → Fin P} (hpl : plu A) (hc : crF 6 A (wgF 4 u v) = 0) {i k : Nat} (hi : i < 4) (hk : k < 4) : sp4 A u i * sp4 A v k - sp4 A v i * sp4 A u k = 0 := by
  rw [cr_is] at hc
  simp [wgF, bkt, wI, wJ, swi] at hc
  unfold plu at hpl
  rcases (show i = 0 ∨ i = 1 ∨ i = 2 ∨ i = 3 by omega) with rfl | rfl | rfl | rfl <;> rcases (show k = 0 ∨ k = 1 ∨ k = 2 ∨ k = 3 by omega) with rfl | rfl | rfl | rfl <;> simp only [sp4] <;> grind
theorem sx_cgL [NeZero P] {L M x : Nat → Fin P} (h : ∀ k, k < 6 → M k = L k) {i : Nat} (hi : i < 4) : sxF 4 M x i = sxF 4 L x i := by
  unfold sxF
  refine sF_congr 4 (fun m hm => ?_)
  (try dsimp only)
  have up : ∀ x y, x < y → y < 4 → skF 4 M x y = skF 4 L x y := fun x y q1 q2 => by
    rw [skF_up M q1, skF_up L q1]
    exact h _ (wIJ (w := 4) (Or.inr rfl) q1 q2).2.2
  rcases Nat.lt_trichotomy i m with q | q | q
  · rw [up i m q hm]
  · subst q
    rw [sk_dg, sk_dg]
  · rw [sk_ng, up m i q hi, ← sk_ng]
/-- where two lines cross: the class's point and the reference's -/
theorem cross_eq [NeZero P] (hp0 : isP P) {A B : Nat → Fin P} (hA : nrm 6 A) (hB : nrm 6 B) (pA : plu A) (pB : plu B) (hne : ¬ ∀ k, k < 6 → A k = B k) (hc : crF 6 A B = 0) : ∃ i0, i0 < 4 ∧ (sp4 A (bwF 4 B 0) i0 ≠ 0 ∨ sp4 A (bwF 4 B 1) i0 ≠ 0) ∧ (∀ i, i < i0 → sp4 A (bwF 4 B 0) i = 0 ∧ sp4 A (bwF 4 B 1) i = 0) ∧ ldV (xpt A (bwF 4 B 0) (bwF 4 B 1) i0) 4 < 4 ∧ ∃ y, ptF A B = some y ∧ ∃ l, l ≠ 0 ∧ ∀ j, j < 4 → y j = l * xpt A (bwF 4 B 0) (bwF 4 B 1) i0 j := by
  have hex : ∃ i, i < 4 ∧ (sp4 A (bwF 4 B 0) i ≠ 0 ∨ sp4 A (bwF 4 B 1) i ≠ 0) := by
    refine Classical.byContradiction (fun q => hne (two_eq hp0 hA hB pB (fun i hi => ?_) (fun i hi => ?_)))
    · exact Classical.byContradiction (fun q2 => q ⟨i, hi, Or.inl q2⟩)
    · exact Classical.byContradiction (fun q2 => q ⟨i, hi, Or.inr q2⟩)
  have hmin : ∃ i0, i0 < 4 ∧ (sp4 A (bwF 4 B 0) i0 ≠ 0 ∨ sp4 A (bwF 4 B 1) i0 ≠ 0) ∧ ∀ i, i < i0 → sp4 A (bwF 4 B 0) i = 0 ∧ sp4 A (bwF 4 B 1) i = 0 := by
    obtain ⟨i, h1, h2⟩ := hex
    have gen : ∀ n, n ≤ 4 → (∀ l, l < n → sp4 A (bwF 4 B 0) l = 0 ∧ sp4 A (bwF 4 B 1) l = 0) ∨ ∃ k, k < n ∧ (sp4 A (bwF 4 B 0) k ≠ 0 ∨ sp4 A (bwF 4 B 1) k ≠ 0) ∧ ∀ l, l < k → sp4 A (bwF 4 B 0) l = 0 ∧ sp4 A (bwF 4 B 1) l = 0 := by
      intro n
      induction n with
      | zero => intro _; exact Or.inl (fun l hl => by omega)
      | succ n ih =>
        intro hn
        rcases ih (by omega) with u | ⟨k, u, v, w⟩
        · by_cases e : sp4 A (bwF 4 B 0) n = 0 ∧ sp4 A (bwF 4 B 1) n = 0
          · refine Or.inl (fun l hl => ?_)
            by_cases e2 : l = n
            · rw [e2]; exact e
            · exact u l (by omega)
          · refine Or.inr ⟨n, by omega, ?_, u⟩
            by_cases e3 : sp4 A (bwF 4 B 0) n = 0
            · exact Or.inr (fun q => e ⟨e3, q⟩)
            · exact Or.inl e3
        · exact Or.inr ⟨k, by omega, v, w⟩
    rcases gen 4 (Nat.le_refl 4) with u | ⟨k, u, v, w⟩
    · exfalso
      have := u i h1
      rcases h2 with q | q
      · exact q this.1
      · exact q this.2
    · exact ⟨k, u, v, w⟩
  obtain ⟨i0, h1, h2, h3⟩ := hmin
  have hcw : crF 6 A (wgF 4 (bwF 4 B 0) (bwF 4 B 1)) = 0 := by
    rw [← hc, cr_is, cr_is]
    have w := wg_base hp0 hB pB
    rw [w 0 (by omega), w 1 (by omega), w 2 (by omega), w 3 (by omega), w 4 (by omega), w 5 (by omega)]
  have xA : ∀ i, i < 4 → sp4 A (xpt A (bwF 4 B 0) (bwF 4 B 1) i0) i = 0 := by
    intro i hi
    show sp4 A (fun k => - sp4 A (bwF 4 B 1) i0 * bwF 4 B 0 k + sp4 A (bwF 4 B 0) i0 * bwF 4 B 1 k) i = 0
    rw [sp_lin]
    have := sp_min pA hcw h1 hi
    grind
  have xB : ∀ i, i < 4 → sp4 B (xpt A (bwF 4 B 0) (bwF 4 B 1) i0) i = 0 := by
    intro i hi
    show sp4 B (fun k => - sp4 A (bwF 4 B 1) i0 * bwF 4 B 0 k + sp4 A (bwF 4 B 0) i0 * bwF 4 B 1 k) i = 0
    rw [sp_lin, on_self pB 0 hi, on_self pB 1 hi]
    grind
  obtain ⟨k1, k2, k3, k4, k5, k6⟩ := sk_z (w := 4) (Or.inr rfl) (M := B) hB.1 rfl rfl
  have hfm := fi_mul hp0 k4
  have b0i : bwF 4 B 0 (wI 4 (ldV B 6)) = 1 := by
    unfold bwF
    rw [if_pos rfl, show swi 4 4 = 6 from rfl]
    have k3' : skF 4 B (wI 4 (ldV B 6)) (wJ 4 (ldV B 6)) = B (ldV B 6) := k3
    have hfm' : B (ldV B 6) * fi (B (ldV B 6)) = 1 := hfm
    rw [sk_ng, k3']
    grind
  have b0j : bwF 4 B 0 (wJ 4 (ldV B 6)) = 0 := by
    unfold bwF
    rw [if_pos rfl, show swi 4 4 = 6 from rfl, sk_dg]
    grind
  have b1i : bwF 4 B 1 (wI 4 (ldV B 6)) = 0 := by
    unfold bwF
    rw [if_neg (by omega), show swi 4 4 = 6 from rfl, sk_dg]
    grind
  have b1j : bwF 4 B 1 (wJ 4 (ldV B 6)) = 1 := by
    unfold bwF
    rw [if_neg (by omega), show swi 4 4 = 6 from rfl]
    have k3' : skF 4 B (wI 4 (ldV B 6)) (wJ 4 (ldV B 6)) = B (ldV B 6) := k3
    have hfm' : B (ldV B 6) * fi (B (ldV B 6)) = 1 := hfm
    rw [k3']
    grind
  have hj4 : wJ 4 (ldV B 6) < 4 := k2
  have hi4 : wI 4 (ldV B 6) < 4 := Nat.lt_trans k1 k2
  have xN : ldV (xpt A (bwF 4 B 0) (bwF 4 B 1) i0) 4 < 4 := by
    rcases h2 with q | q
    · refine ldV_lt hj4 ?_
      show - sp4 A (bwF 4 B 1) i0 * bwF 4 B 0 (wJ 4 (ldV B 6)) + sp4 A (bwF 4 B 0) i0 * bwF 4 B 1 (wJ 4 (ldV B 6)) ≠ 0
      rw [b0j, b1j]
      intro z
      exact q (by grind)
    · refine ldV_lt hi4 ?_
      show - sp4 A (bwF 4 B 1) i0 * bwF 4 B 0 (wI 4 (ldV B 6)) + sp4 A (bwF 4 B 0) i0 * bwF 4 B 1 (wI 4 (ldV B 6)) ≠ 0
      rw [b0i, b1i]
      intro z
      exact q (by grind)
  refine ⟨i0, h1, h2, h3, xN, ?_⟩
  have hfn : ldV (flF 6 B) 6 < 6 := fl_nz (Or.inr rfl) hB.1
  have hkf := wIJ_w (w := 4) (k := ldV (flF 6 B) 6) (Or.inr rfl) hfn
  have form : ∀ r, ∃ f j, j < 4 ∧ bwF 4 (flF 6 B) r = fun m => f * skF 4 (flF 6 B) j m := by
    intro r
    by_cases c : r = 0
    · refine ⟨- fi (flF 6 B (ldV (flF 6 B) 6)), wJ 4 (ldV (flF 6 B) 6), hkf.2.1, ?_⟩
      funext m
      unfold bwF
      rw [if_pos c]
      rfl
    · refine ⟨fi (flF 6 B (ldV (flF 6 B) 6)), wI 4 (ldV (flF 6 B) 6), Nat.lt_trans hkf.1 hkf.2.1, ?_⟩
      funext m
      unfold bwF
      rw [if_neg c]
      rfl
  have yl : ∀ r, ldV (sxF 4 A (bwF 4 (flF 6 B) r)) 4 < 4 → ∃ l, l ≠ 0 ∧ ∀ j, j < 4 → sxF 4 A (bwF 4 (flF 6 B) r) j = l * xpt A (bwF 4 B 0) (bwF 4 B 1) i0 j := by
    intro r hr
    obtain ⟨f, j, hj, e⟩ := form r
    refine one_pt hp0 hA hB hne xA xB (fun i hi => sx_on pA _ hi) (fun i hi => ?_) xN hr
    rw [e]
    exact sx_on2 pB hc f hj hi
  have hnz : ldV (sxF 4 A (bwF 4 (flF 6 B) 0)) 4 < 4 ∨ ldV (sxF 4 A (bwF 4 (flF 6 B) 1)) 4 < 4 := by
    refine Classical.byContradiction (fun q => hne ?_)
    have hl0 := ldV_le (sxF 4 A (bwF 4 (flF 6 B) 0)) 4
    have hl1 := ldV_le (sxF 4 A (bwF 4 (flF 6 B) 1)) 4
    have z0 := ldV_eq.mp (show ldV (sxF 4 A (bwF 4 (flF 6 B) 0)) 4 = 4 by omega)
    have z1 := ldV_eq.mp (show ldV (sxF 4 A (bwF 4 (flF 6 B) 1)) 4 = 4 by omega)
    have hs := fi_ne hp0 (ldV_nz hfn)
    have tr : ∀ r i, i < 4 → sp4 (flF 6 A) (bwF 4 (nmV (flF 6 B) 6) r) i = sxF 4 A (bwF 4 (flF 6 B) r) i := by
      intro r i hi
      rw [sp_cg (y := bwF 4 (flF 6 B) r) (fun m hm => bw_mul hp0 hs (fun k _ => nm_at hfn k) hfn hm) i, ← sx_sp (flF 6 A) _ hi]
      exact sx_cgL (fun k hk => fl_fl A hk) hi
    have t := two_pt hp0 (A := flF 6 A) (B := nmV (flF 6 B) 6) (nrm_nm hp0 hfn) (plu_mul (fun k _ => nm_at hfn k) (plu_fl pB)) (fun i hi => by rw [tr 0 i hi]; exact z0 i hi) (fun i hi => by rw [tr 1 i hi]; exact z1 i hi)
    generalize flF 6 A (ldV (nmV (flF 6 B) 6) 6) = cc at t
    refine nrm_eq hp0 hA hB (l := cc * fi (flF 6 B (ldV (flF 6 B) 6))) (fun k hk => ?_)
    have e1 : ∀ k, k < 6 → flF 6 A k = (cc * fi (flF 6 B (ldV (flF 6 B) 6))) * flF 6 B k := fun k hk => by
      rw [t k hk, nm_at hfn k]
      grind
    generalize cc * fi (flF 6 B (ldV (flF 6 B) 6)) = dd at e1
    have e2 : ∀ L : Nat → Fin P, ∀ k, flF 6 L k = if k % 3 = 1 then - L (5 - k) else L (5 - k) := fun L k => rfl
    have := e1 (5 - k) (by omega)
    rw [e2, e2] at this
    by_cases c : (5 - k) % 3 = 1
    · rw [if_pos c, if_pos c, show 5 - (5 - k) = k by omega] at this
      grind
    · rw [if_neg c, if_neg c, show 5 - (5 - k) = k by omega] at this
      exact this
  unfold ptF
  rw [if_pos hc]
  by_cases q0 : ldV (sxF 4 A (bwF 4 (flF 6 B) 0)) 4 < 4
  · rw [if_pos q0]
    obtain ⟨l, l1, l2⟩ := yl 0 q0
    exact ⟨_, rfl, l, l1, l2⟩
  · rw [if_neg q0, if_pos (by omega)]
    obtain ⟨l, l1, l2⟩ := yl 1 (by omega)
    exact ⟨_, rfl, l, l1, l2⟩
end CROSS2
