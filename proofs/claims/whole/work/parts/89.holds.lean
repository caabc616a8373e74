section HOLDS
variable {P : Nat} {d sz o : Nat} {hp : cH} {ad im rw : Nat → Nat} {c : Nat} {S : Nat → Nat} {R : Nat → Nat → Fin P} {H : Nat → Fin P} {g : Nat} {Gs : Nat → Nat} {m : Nat} {pA pB : Nat → Nat} {id : Int32}
theorem nI_nle3 {k : Nat} (h : k < 3) : (nI 3 ≤ nI k) = False := by
  rcases (show k = 0 ∨ k = 1 ∨ k = 2 by omega) with rfl | rfl | rfl <;> (apply eq_false; decide)
/-- the sides asked of -/
def hxN (b : Bool) : Nat → Nat := fun j => if b then [0, 1, 3, 4, 1, 2, 4, 5, 2, 0, 5, 3].getD j 0 else [0, 1, 3, 4, 1, 2, 4, 5, 2, 3, 5, 0].getD j 0
def hxM [NeZero P] (b : Bool) (X : Nat → Nat → Fin P) : Nat → Nat → Fin P := fun l => mtP X (hxN b (4 * l)) (hxN b (4 * l + 1)) (hxN b (4 * l + 2)) (hxN b (4 * l + 3))
theorem hx_lt (b : Bool) (j : Nat) : j < 12 → hxN b j < 6 := by
  intro h
  have : ∀ b : Bool, ∀ j : Fin 12, hxN b j.val < 6 := by decide
  exact this b ⟨j, h⟩
theorem hx_t (b : Bool) (j : Nat) (h : j < 12) : (if b then sTri else sHex) j = nI (hxN b j) := by
  have : ∀ b : Bool, ∀ j : Fin 12, (if b then sTri else sHex) j.val = nI (hxN b j.val) := by decide
  exact this b ⟨j, h⟩
theorem cr3_0 [NeZero P] {x y : Nat → Fin P} (h : (∀ k, k < 3 → x k = 0) ∨ (∀ k, k < 3 → y k = 0)) (k : Nat) : cr3 x y k = 0 := by
  unfold cr3
  rcases h with h | h
  · rw [h _ (Nat.mod_lt _ (by omega)), h _ (Nat.mod_lt _ (by omega))]
    grind
  · rw [h _ (Nat.mod_lt _ (by omega)), h _ (Nat.mod_lt _ (by omega))]
    grind
theorem cr3_s [NeZero P] (x : Nat → Fin P) (k : Nat) : cr3 x x k = 0 := by
  unfold cr3
  grind
/-- the class's loop over the sides -/
theorem e_sides (hp0 : isP P) [NeZero P] (hB : P < 2 ^ 31) (hC : cS P 2 hp sz o ad im rw c S R H g Gs m pA pB id) {q : Nat} {A : Nat → Nat} {X : Nat → Nat → Fin P} (hX : gP hp sz q 6 3 A X) (b : Bool) (T : Nat → Int32) (hT : ∀ j, j < 12 → T j = nI (hxN b j)) (n k : Nat) (e : n + k = 3) {hp1 : cH} {sz1 rc a : Nat} (hrc : 28 ≤ rc + 6 * k) (hb : bP hp sz hp1 sz1 a 3 k 3 (hxM b X)) : ∃ hp' sz', gro hp sz hp' sz' ∧ ((∀ l, k ≤ l → l < 3 → ldV (hxM b X l) 3 < 3) → ∃ rc', 10 ≤ rc' ∧ itX (fun s => f_X5_holds_L77 o q T a s.1 s.2.1 s.2.2.1 s.2.2.2) (nI k, hp1, sz1, rc) = some (.inl (hp', sz', rc')) ∧ bP hp sz hp' sz' a 3 3 3 (hxM b X)) ∧ ((¬ ∀ l, k ≤ l → l < 3 → ldV (hxM b X l) 3 < 3) → itX (fun s => f_X5_holds_L77 o q T a s.1 s.2.1 s.2.2.1 s.2.2.2) (nI k, hp1, sz1, rc) = some (.inr (-1, hp', sz'))) := by
  have hP := hp0.1
  induction n generalizing k hp1 sz1 rc with
  | zero =>
    have k3 : k = 3 := by omega
    subst k3
    have ln := hb.len
    refine ⟨hp1, sz1, hb.gr, fun _ => ⟨rc, by omega, itX_stop ?_, hb⟩, fun q => absurd (fun l h1 h2 => by omega) q⟩
    unfold f_X5_holds_L77
    simp (disch := omega) only [↓Option.bind_some, ↓Option.elim_some, ↓Option.elim_none, Option.bind_some, Option.elim_some, Option.elim_none, Option.some.injEq, Sum.inl.injEq, Sum.inr.injEq, ↓reduceIte, m_side, lit_nI, lz_I, nI_add, pk_mul, pk_sub, nI_ge, nI_le, nI_lt, nI_nlt, gi_t, nI_clamp, nI_eq, pk_rem, Nat.zero_add, Nat.reduceAdd, Nat.reduceMul, Nat.reduceSub, Nat.reduceMod, Nat.reduceEqDiff, reduceCtorEq, Nat.one_ne_zero, Nat.zero_ne_one, ↓ob ln]
  | succ n ih =>
    have hk : k < 3 := by omega
    have ln := hb.len
    have h1 := hC.gg hb.gr
    have he1 := h1.e
    have r91 := h1.r9
    have X1 := hX.g hb.gr
    have T0 := hT (4 * k) (by omega)
    have T1 := hT (4 * k + 1) (by omega)
    have T2 := hT (4 * k + 2) (by omega)
    have T3 := hT (4 * k + 3) (by omega)
    have N0 := hx_lt b (4 * k) (by omega)
    have N1 := hx_lt b (4 * k + 1) (by omega)
    have N2 := hx_lt b (4 * k + 2) (by omega)
    have N3 := hx_lt b (4 * k + 3) (by omega)
    have hM : hxM b X k = mtP X (hxN b (4 * k)) (hxN b (4 * k + 1)) (hxN b (4 * k + 2)) (hxN b (4 * k + 3)) := rfl
    generalize hxN b (4 * k) = n0 at *
    generalize hxN b (4 * k + 1) = n1 at *
    generalize hxN b (4 * k + 2) = n2 at *
    generalize hxN b (4 * k + 3) = n3 at *
    have l0 := X1.ld N0 (by omega)
    have l1 := X1.ld N1 (by omega)
    obtain ⟨y1, hp2, sz2, a1, a2, a3⟩ := e_lineThrough hP hB he1 (Or.inl rfl) (X1.at N0) (X1.at N1)
    have h2 := h1.gg a3
    have he2 := h2.e
    have r92 := h2.r9
    have X2 := X1.g a3
    have l2 := X2.ld N2 (by omega)
    have l3 := X2.ld N3 (by omega)
    obtain ⟨y2, hp3, sz3, b1, b2, b3⟩ := e_lineThrough hP hB he2 (Or.inl rfl) (X2.at N2) (X2.at N3)
    have h3 := h2.gg b3
    have he3 := h3.e
    have r93 := h3.r9
    obtain ⟨y3, hp4, sz4, c1, c2, c3⟩ := e_crossing hP hB he3 (Or.inl rfl) (a2.g b3) b2
    have hb4 := ((hb.g a3).g b3).g c3
    have cm : ∀ j, j < 3 → flF (swi (2 + 1) (2 + 1)) (wgF (2 + 1) (lnF (2 + 1) (X n0) (X n1)) (lnF (2 + 1) (X n2) (X n3))) j = hxM b X k j := by
      intro j hj
      rw [hM]
      unfold mtP
      have z1 : ∀ j, j < 3 → lnF 3 (X n0) (X n1) j = cr3 (X n0) (X n1) j := fun j hj => ln_cr _ _ hj
      have z2 : ∀ j, j < 3 → lnF 3 (X n2) (X n3) j = cr3 (X n2) (X n3) j := fun j hj => ln_cr _ _ hj
      have z3 := ln_cr (lnF 3 (X n0) (X n1)) (lnF 3 (X n2) (X n3)) hj
      have z4 : cr3 (lnF 3 (X n0) (X n1)) (lnF 3 (X n2) (X n3)) j = cr3 (cr3 (X n0) (X n1)) (cr3 (X n2) (X n3)) j := by
        have m1 : (j + 1) % 3 < 3 := Nat.mod_lt _ (by omega)
        have m2 : (j + 2) % 3 < 3 := Nat.mod_lt _ (by omega)
        show lnF 3 (X n0) (X n1) ((j + 1) % 3) * lnF 3 (X n2) (X n3) ((j + 2) % 3) - lnF 3 (X n0) (X n1) ((j + 2) % 3) * lnF 3 (X n2) (X n3) ((j + 1) % 3) = cr3 (X n0) (X n1) ((j + 1) % 3) * cr3 (X n2) (X n3) ((j + 2) % 3) - cr3 (X n0) (X n1) ((j + 2) % 3) * cr3 (X n2) (X n3) ((j + 1) % 3)
        rw [z1 _ m1, z1 _ m2, z2 _ m1, z2 _ m2]
      exact z3.trans z4
    have c2' : vA hp4 sz4 y3 3 (hxM b X k) := vA.congr (n := 3) c2 cm
    obtain ⟨hp5, d1, d2, d3, d4, d5⟩ := hb4.put hk (by omega) c2'
    have q1 : (2 : Nat) ≤ rc := by omega
    have q2 : (2 : Nat) ≤ rc - 2 := by omega
    have q3 : (2 : Nat) ≤ rc - 2 - 2 := by omega
    have e4 : (4 : Int32) * nI k = nI (4 * k) := by rw [show (4 : Int32) = nI 4 from rfl, pk_mul]
    have e41 : nI (4 * k) + (1 : Int32) = nI (4 * k + 1) := by rw [show (1 : Int32) = nI 1 from rfl, nI_add]
    have e42 : nI (4 * k) + (2 : Int32) = nI (4 * k + 2) := by rw [show (2 : Int32) = nI 2 from rfl, nI_add]
    have e43 : nI (4 * k) + (3 : Int32) = nI (4 * k + 3) := by rw [show (3 : Int32) = nI 3 from rfl, nI_add]
    have g0 := gi_nI (show 4 * k < 12 by omega) (by omega)
    have g1 := gi_nI (show 4 * k + 1 < 12 by omega) (by omega)
    have g2 := gi_nI (show 4 * k + 2 < 12 by omega) (by omega)
    have g3 := gi_nI (show 4 * k + 3 < 12 by omega) (by omega)
    have k0 : (nI (4 * k)).toNatClampNeg = 4 * k := nI_clamp (by omega)
    have k1 : (nI (4 * k + 1)).toNatClampNeg = 4 * k + 1 := nI_clamp (by omega)
    have k2 : (nI (4 * k + 2)).toNatClampNeg = 4 * k + 2 := nI_clamp (by omega)
    have k3 : (nI (4 * k + 3)).toNatClampNeg = 4 * k + 3 := nI_clamp (by omega)
    have lk : (nI 3 ≤ nI k) = False := nI_nle3 hk
    have p1 : nI k + (1 : Int32) = nI (k + 1) := by rw [show (1 : Int32) = nI 1 from rfl, nI_add]
    by_cases hz : ldV (hxM b X k) 3 = 3
    · have iz := e_isZ hB d5 (by omega) hz
      refine ⟨hp5, sz4, d2.gr, fun q => absurd (q k (Nat.le_refl _) hk) (by omega), fun _ => itX_stop ?_⟩
      (try dsimp only)
      unfold f_X5_holds_L77
      simp only [↓ob ln, lk, ↓ob r91, e4, e41, e42, e43, if_pos g0, if_pos g1, if_pos g2, if_pos g3, k0, k1, k2, k3, T0, T1, T2, T3, ↓ob l0, ↓ob l1, ↓ob l2, ↓ob l3, ↓Option.bind_some, he1.o4, he2.o4, he3.o4, q1, q2, q3, ↓ob a1, ↓ob r92, ↓ob b1, ↓ob r93, ↓ob c1, ↓ob d1, ↓ob d4, ↓ob iz, n10, ↓reduceIte]
    · have iz := e_isN hB d5 (by omega) hz
      have hlt : ldV (hxM b X k) 3 < 3 := by
        have := ldV_le (hxM b X k) 3
        omega
      obtain ⟨hp', sz', f1, f2, f3⟩ := ih (k + 1) (by omega) (rc := rc - 2 - 2 - 2) (by omega) d2
      have st : (fun s => f_X5_holds_L77 o q T a s.1 s.2.1 s.2.2.1 s.2.2.2) (nI k, hp1, sz1, rc) = some (.inl (nI (k + 1), hp5, sz4, rc - 2 - 2 - 2)) := by
        (try dsimp only)
        unfold f_X5_holds_L77
        simp only [↓ob ln, lk, ↓ob r91, e4, e41, e42, e43, if_pos g0, if_pos g1, if_pos g2, if_pos g3, k0, k1, k2, k3, T0, T1, T2, T3, ↓ob l0, ↓ob l1, ↓ob l2, ↓ob l3, ↓Option.bind_some, he1.o4, he2.o4, he3.o4, q1, q2, q3, ↓ob a1, ↓ob r92, ↓ob b1, ↓ob r93, ↓ob c1, ↓ob d1, ↓ob d4, ↓ob iz, n00, p1, ↓reduceIte]
      have iff1 : (∀ l, k ≤ l → l < 3 → ldV (hxM b X l) 3 < 3) ↔ (∀ l, k + 1 ≤ l → l < 3 → ldV (hxM b X l) 3 < 3) := by
        refine ⟨fun q l h1 h2 => q l (by omega) h2, fun q l h1 h2 => ?_⟩
        by_cases e : l = k
        · rw [e]; exact hlt
        · exact q l (by omega) h2
      refine ⟨hp', sz', f1, fun q => ?_, fun q => ?_⟩
      · obtain ⟨rc', w1, w2, w3⟩ := f2 (iff1.mp q)
        exact ⟨rc', w1, by rw [itX_step st]; exact w2, w3⟩
      · rw [itX_step st]
        exact f3 (fun w => q (iff1.mpr w))
end HOLDS
