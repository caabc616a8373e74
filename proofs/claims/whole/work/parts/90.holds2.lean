section HOLDSB
variable {P : Nat} {d sz o : Nat} {hp : cH} {ad im rw : Nat → Nat} {c : Nat} {S : Nat → Nat} {R : Nat → Nat → Fin P} {H : Nat → Fin P} {g : Nat} {Gs : Nat → Nat} {m : Nat} {pA pB : Nat → Nat} {id : Int32}
theorem nI_3le {k : Nat} (h : k < 2 ^ 31) : ((3 : Int32) ≤ nI k) ↔ 3 ≤ k := by
  rw [Int32.le_iff_toInt_le, nI_toInt h]
  have : (3 : Int32).toInt = 3 := rfl
  rw [this]
  omega
theorem nI_6le {k : Nat} (h : k < 2 ^ 31) : ((6 : Int32) ≤ nI k) ↔ 6 ≤ k := by
  rw [Int32.le_iff_toInt_le, nI_toInt h]
  have : (6 : Int32).toInt = 6 := rfl
  rw [this]
  omega
/-- the class's loop over the lines across -/
theorem e_across (hp0 : isP P) [NeZero P] (hB : P < 2 ^ 31) (hC : cS P 2 hp sz o ad im rw c S R H g Gs m pA pB id) {q : Nat} {A : Nat → Nat} {X : Nat → Nat → Fin P} (hX : gP hp sz q 6 3 A X) (n k : Nat) (e : n + k = 3) {hp1 : cH} {sz1 rc a : Nat} (hrc : 58 ≤ rc + 2 * k) (hb : bP hp sz hp1 sz1 a 3 k 3 (acM X)) : ∃ hp' sz', gro hp sz hp' sz' ∧ ((∀ l, k ≤ l → l < 3 → ldV (acM X l) 3 < 3) → ∃ rc', 10 ≤ rc' ∧ itX (fun s => f_X5_isSupposed_L115 o q a s.1 s.2.1 s.2.2.1 s.2.2.2) (nI k, hp1, sz1, rc) = some (.inl (hp', sz', rc')) ∧ bP hp sz hp' sz' a 3 3 3 (acM X)) ∧ ((¬ ∀ l, k ≤ l → l < 3 → ldV (acM X l) 3 < 3) → itX (fun s => f_X5_isSupposed_L115 o q a s.1 s.2.1 s.2.2.1 s.2.2.2) (nI k, hp1, sz1, rc) = some (.inr (0, hp', sz'))) := by
  have hP := hp0.1
  induction n generalizing k hp1 sz1 rc with
  | zero =>
    have k3 : k = 3 := by omega
    subst k3
    have ln := hb.len
    refine ⟨hp1, sz1, hb.gr, fun _ => ⟨rc, by omega, itX_stop ?_, hb⟩, fun q => absurd (fun l h1 h2 => by omega) q⟩
    unfold f_X5_isSupposed_L115
    simp (disch := omega) only [↓Option.bind_some, ↓Option.elim_some, ↓Option.elim_none, Option.bind_some, Option.elim_some, Option.elim_none, Option.some.injEq, Sum.inl.injEq, Sum.inr.injEq, ↓reduceIte, m_side, lit_nI, lz_I, nI_add, pk_mul, pk_sub, nI_ge, nI_le, nI_lt, nI_nlt, gi_t, nI_clamp, nI_eq, pk_rem, Nat.zero_add, Nat.reduceAdd, Nat.reduceMul, Nat.reduceSub, Nat.reduceMod, Nat.reduceEqDiff, reduceCtorEq, Nat.one_ne_zero, Nat.zero_ne_one, ↓ob ln]
  | succ n ih =>
    have hk : k < 3 := by omega
    have ln := hb.len
    have h1 := hC.gg hb.gr
    have he1 := h1.e
    have r91 := h1.r9
    have X1 := hX.g hb.gr
    have l0 := X1.ld (show k < 6 by omega) (by omega)
    have l1 := X1.ld (show k + 3 < 6 by omega) (by omega)
    obtain ⟨y1, hp2, sz2, a1, a2, a3⟩ := e_lineThrough hP hB he1 (Or.inl rfl) (X1.at (show k < 6 by omega)) (X1.at (show k + 3 < 6 by omega))
    have hb4 := hb.g a3
    have c2' : vA hp2 sz2 y1 3 (acM X k) := vA.congr (n := 3) a2 (fun j hj => ln_cr _ _ hj)
    obtain ⟨hp5, d1, d2, d3, d4, d5⟩ := hb4.put hk (by omega) c2'
    have q1 : (2 : Nat) ≤ rc := by omega
    have e3 : nI k + (3 : Int32) = nI (k + 3) := by rw [show (3 : Int32) = nI 3 from rfl, nI_add]
    have lk := nI_nle3 hk
    have p1 : nI k + (1 : Int32) = nI (k + 1) := by rw [show (1 : Int32) = nI 1 from rfl, nI_add]
    by_cases hz : ldV (acM X k) 3 = 3
    · have iz := e_isZ hB d5 (by omega) hz
      refine ⟨hp5, sz2, d2.gr, fun q => absurd (q k (Nat.le_refl _) hk) (by omega), fun _ => itX_stop ?_⟩
      (try dsimp only)
      unfold f_X5_isSupposed_L115
      simp only [↓ob ln, lk, ↓ob r91, e3, ↓ob l0, ↓ob l1, ↓Option.bind_some, he1.o4, q1, ↓ob a1, ↓ob d1, ↓ob d4, ↓ob iz, n10, ↓reduceIte]
    · have iz := e_isN hB d5 (by omega) hz
      have hlt : ldV (acM X k) 3 < 3 := by
        have := ldV_le (acM X k) 3
        omega
      obtain ⟨hp', sz', f1, f2, f3⟩ := ih (k + 1) (by omega) (rc := rc - 2) (by omega) d2
      have st : (fun s => f_X5_isSupposed_L115 o q a s.1 s.2.1 s.2.2.1 s.2.2.2) (nI k, hp1, sz1, rc) = some (.inl (nI (k + 1), hp5, sz2, rc - 2)) := by
        (try dsimp only)
        unfold f_X5_isSupposed_L115
        simp only [↓ob ln, lk, ↓ob r91, e3, ↓ob l0, ↓ob l1, ↓Option.bind_some, he1.o4, q1, ↓ob a1, ↓ob d1, ↓ob d4, ↓ob iz, n00, p1, ↓reduceIte]
      have iff1 : (∀ l, k ≤ l → l < 3 → ldV (acM X l) 3 < 3) ↔ (∀ l, k + 1 ≤ l → l < 3 → ldV (acM X l) 3 < 3) := by
        refine ⟨fun q l h1 h2 => q l (by omega) h2, fun q l h1 h2 => ?_⟩
        by_cases e : l = k
        · rw [e]; exact hlt
        · exact q l (by omega) h2
      refine ⟨hp', sz', f1, fun q => ?_, fun q => ?_⟩
      · obtain ⟨rc', w1, w2, w3⟩ := f2 (iff1.mp q)
        exact ⟨rc', w1, by rw [itX_step st]; exact w2, w3⟩
      · rw [itX_step st]
        exact f3 (fun w => q (iff1.mpr w))
/-- three of six -/
theorem e_three (hp0 : isP P) [NeZero P] (hB : P < 2 ^ 31) (hC : cS P 2 hp sz o ad im rw c S R H g Gs m pA pB id) {q : Nat} {A : Nat → Nat} {X : Nat → Nat → Fin P} (hX : gP hp sz q 6 3 A X) {a b e : Nat} (ha : a < 6) (hb : b < 6) (he : e < 6) : ∃ hp1 hp2 hp3 hp4 hp5 sz5, nR 3 hp sz 3 = some hp1 ∧ lR 3 hp1 q (nI a) = some (some (A a)) ∧ sR 3 hp1 sz 0 (A a) = some hp2 ∧ lR 3 hp2 q (nI b) = some (some (A b)) ∧ sR 3 hp2 sz 1 (A b) = some hp3 ∧ lR 3 hp3 q (nI e) = some (some (A e)) ∧ sR 3 hp3 sz 2 (A e) = some hp4 ∧ isO hp4 (ad 8) 2 = true ∧ f_X2_rankOf hp4 (sz + 1) (ad 8) sz = some (nI (gj 3 (fun i => X (if i = 0 then a else if i = 1 then b else e)) 3).1, hp5, sz5) ∧ gro hp sz hp5 sz5 := by
  have hP := hp0.1
  obtain ⟨hp1, a1, a2⟩ := bP.nw (hp := hp) (sz := sz) (n := 3) (w := 3) (X := fun i => X (if i = 0 then a else if i = 1 then b else e)) (by omega)
  have X1 := hX.g a2.gr
  obtain ⟨hp2, b1, b2, -⟩ := a2.put (v := A a) (by omega) (by omega) (X1.at ha)
  have X2 := hX.g b2.gr
  obtain ⟨hp3, c1, c2, -⟩ := b2.put (v := A b) (by omega) (by omega) (X2.at hb)
  have X3 := hX.g c2.gr
  obtain ⟨hp4, d1, d2, -⟩ := c2.put (v := A e) (by omega) (by omega) (X3.at he)
  have h4 := hC.gg d2.gr
  obtain ⟨A', d3⟩ := d2.all
  obtain ⟨hp5, sz5, e1, e2⟩ := e_rankOf hP hB h4.e d3 (by decide) (by decide) (by decide)
  exact ⟨hp1, hp2, hp3, hp4, hp5, sz5, a1, X1.ld ha (by omega), b1, X2.ld hb (by omega), c1, X3.ld he (by omega), d1, h4.e.o2, e1, d2.gr.tr e2⟩
/-- what a theorem supposes -/
def spp [NeZero P] (t : Nat) (X : Nat → Nat → Fin P) : Prop := (t = 0 → (gj 3 (fun i => X (if i = 0 then 0 else if i = 1 then 2 else 4)) 3).1 < 3 ∧ (gj 3 (fun i => X (if i = 0 then 1 else if i = 1 then 3 else 5)) 3).1 < 3) ∧ (t = 1 → (∀ l, 0 ≤ l → l < 3 → ldV (acM X l) 3 < 3) ∧ (gj 3 (acM X) 3).1 < 3) ∧ (t = 2 → (gj 6 (cnM 3 X) 6).1 < 6)
theorem e_supposed (hp0 : isP P) [NeZero P] (hB : P < 2 ^ 31) (hC : cS P 2 hp sz o ad im rw c S R H g Gs m pA pB id) {q : Nat} {A : Nat → Nat} {X : Nat → Nat → Fin P} (hX : gP hp sz q 6 3 A X) {t : Nat} (ht : t < 3) : ∃ v hp' sz', f_X5_isSupposed hp sz o (nI t) q = some (v, hp', sz') ∧ gro hp sz hp' sz' ∧ (spp t X → v = 1) ∧ (¬ spp t X → v = 0) := by
  have hP := hp0.1
  have r8 := hC.r8
  have r9 := hC.r9
  have he := hC.e
  have e12 : (nI 1 = (2 : Int32)) = False := by apply eq_false; decide
  have e02 : (nI 0 = (2 : Int32)) = False := by apply eq_false; decide
  have e22 : (nI 2 = (2 : Int32)) = True := by apply eq_true; decide
  rcases (show t = 0 ∨ t = 1 ∨ t = 2 by omega) with rfl | rfl | rfl
  · obtain ⟨hp1, hp2, hp3, hp4, hp5, sz5, a1, a2, a3, a4, a5, a6, a7, a8, a9, a10⟩ := e_three hp0 hB hC hX (a := 0) (b := 2) (e := 4) (by omega) (by omega) (by omega)
    have a2' : lR 3 hp1 q 0 = some (some (A 0)) := a2
    have a4' : lR 3 hp2 q 2 = some (some (A 2)) := a4
    have a6' : lR 3 hp3 q 4 = some (some (A 4)) := a6
    have hle := (gj_le 3 (fun i => X (if i = 0 then 0 else if i = 1 then 2 else 4)) 3).1
    have hsp : spp 0 X ↔ (gj 3 (fun i => X (if i = 0 then 0 else if i = 1 then 2 else 4)) 3).1 < 3 ∧ (gj 3 (fun i => X (if i = 0 then 1 else if i = 1 then 3 else 5)) 3).1 < 3 := ⟨fun w => w.1 rfl, fun w => ⟨fun _ => w, fun w2 => absurd w2 (by omega), fun w2 => absurd w2 (by omega)⟩⟩
    generalize hr1 : (gj 3 (fun i => X (if i = 0 then 0 else if i = 1 then 2 else 4)) 3).1 = r1 at a9 hle hsp
    clear hr1
    by_cases h1 : 3 ≤ r1
    · have l1 := (nI_3le (show r1 < 2 ^ 31 by omega)).mpr h1
      refine ⟨0, hp5, sz5, ?_, a10, fun w => absurd (hsp.mp w).1 (by omega), fun _ => rfl⟩
      unfold f_X5_isSupposed
      simp only [e02, n00, ↓ob r8, ↓ob a1, ↓ob a2', ↓Option.bind_some, ↓ob a3, ↓ob a4', ↓ob a5, ↓ob a6', ↓ob a7, a8, ↓ob a9, l1, ↓reduceIte]
    · have l1 : ¬ (3 : Int32) ≤ nI r1 := fun w => h1 ((nI_3le (show r1 < 2 ^ 31 by omega)).mp w)
      have h5 := hC.gg a10
      have r85 := h5.r8
      have X5 := hX.g a10
      obtain ⟨hq1, hq2, hq3, hq4, hq5, tz5, b1, b2, b3, b4, b5, b6, b7, b8, b9, b10⟩ := e_three hp0 hB h5 X5 (a := 1) (b := 3) (e := 5) (by omega) (by omega) (by omega)
      have b2' : lR 3 hq1 q 1 = some (some (A 1)) := b2
      have b4' : lR 3 hq2 q 3 = some (some (A 3)) := b4
      have b6' : lR 3 hq3 q 5 = some (some (A 5)) := b6
      have hle2 := (gj_le 3 (fun i => X (if i = 0 then 1 else if i = 1 then 3 else 5)) 3).1
      generalize hr2 : (gj 3 (fun i => X (if i = 0 then 1 else if i = 1 then 3 else 5)) 3).1 = r2 at b9 hle2 hsp
      clear hr2
      by_cases h2 : 3 ≤ r2
      · have l2 := (nI_3le (show r2 < 2 ^ 31 by omega)).mpr h2
        refine ⟨0, hq5, tz5, ?_, a10.tr b10, fun w => absurd (hsp.mp w).2 (by omega), fun _ => rfl⟩
        unfold f_X5_isSupposed
        simp only [e02, n00, ↓ob r8, ↓ob a1, ↓ob a2', ↓Option.bind_some, ↓ob a3, ↓ob a4', ↓ob a5, ↓ob a6', ↓ob a7, a8, ↓ob a9, l1, ↓ob r85, ↓ob b1, ↓ob b2', ↓ob b3, ↓ob b4', ↓ob b5, ↓ob b6', ↓ob b7, b8, ↓ob b9, l2, ↓reduceIte]
      · have l2 : ¬ (3 : Int32) ≤ nI r2 := fun w => h2 ((nI_3le (show r2 < 2 ^ 31 by omega)).mp w)
        refine ⟨1, hq5, tz5, ?_, a10.tr b10, fun _ => rfl, fun w => absurd (hsp.mpr ⟨by omega, by omega⟩) w⟩
        unfold f_X5_isSupposed
        simp only [e02, n00, ↓ob r8, ↓ob a1, ↓ob a2', ↓Option.bind_some, ↓ob a3, ↓ob a4', ↓ob a5, ↓ob a6', ↓ob a7, a8, ↓ob a9, l1, ↓ob r85, ↓ob b1, ↓ob b2', ↓ob b3, ↓ob b4', ↓ob b5, ↓ob b6', ↓ob b7, b8, ↓ob b9, l2, ↓reduceIte]
  · obtain ⟨hp1, a1, a2⟩ := bP.nw (hp := hp) (sz := sz) (n := 3) (w := 3) (X := acM X) (by omega)
    have a1' : nR 3 hp sz 3 = some hp1 := a1
    obtain ⟨hp2, sz2, b1, b2, b3⟩ := e_across hp0 hB hC hX 3 0 rfl (rc := 58) (by omega) a2
    have hsp : spp 1 X ↔ (∀ l, 0 ≤ l → l < 3 → ldV (acM X l) 3 < 3) ∧ (gj 3 (acM X) 3).1 < 3 := ⟨fun w => w.2.1 rfl, fun w => ⟨fun w2 => absurd w2 (by omega), fun _ => w, fun w2 => absurd w2 (by omega)⟩⟩
    by_cases hall : ∀ l, 0 ≤ l → l < 3 → ldV (acM X l) 3 < 3
    · obtain ⟨rc', c1, c2, c3⟩ := b2 hall
      have c2' : itX (fun s => f_X5_isSupposed_L115 o q sz s.1 s.2.1 s.2.2.1 s.2.2.2) ((0 : Int32), hp1, sz + 1, 58) = some (.inl (hp2, sz2, rc')) := c2
      have h2 := hC.gg b1
      have r82 := h2.r8
      obtain ⟨A', c4⟩ := c3.all
      obtain ⟨hp3, sz3, d1, d2⟩ := e_rankOf hP hB h2.e c4 (by decide) (by decide) (by decide)
      have hle := (gj_le 3 (acM X) 3).1
      generalize hr1 : (gj 3 (acM X) 3).1 = r1 at d1 hle hsp
      clear hr1
      by_cases h1 : 3 ≤ r1
      · have l1 := (nI_3le (show r1 < 2 ^ 31 by omega)).mpr h1
        refine ⟨0, hp3, sz3, ?_, b1.tr d2, fun w => absurd (hsp.mp w).2 (by omega), fun _ => rfl⟩
        unfold f_X5_isSupposed
        simp only [e12, n10, ↓ob a1', ↓ob c2', ↓ob r82, h2.e.o2, c1, ↓ob d1, l1, ↓reduceIte]
      · have l1 : ¬ (3 : Int32) ≤ nI r1 := fun w => h1 ((nI_3le (show r1 < 2 ^ 31 by omega)).mp w)
        refine ⟨1, hp3, sz3, ?_, b1.tr d2, fun _ => rfl, fun w => absurd (hsp.mpr ⟨hall, by omega⟩) w⟩
        unfold f_X5_isSupposed
        simp only [e12, n10, ↓ob a1', ↓ob c2', ↓ob r82, h2.e.o2, c1, ↓ob d1, l1, ↓reduceIte]
    · have c2 := b3 hall
      have c2' : itX (fun s => f_X5_isSupposed_L115 o q sz s.1 s.2.1 s.2.2.1 s.2.2.2) ((0 : Int32), hp1, sz + 1, 58) = some (.inr (0, hp2, sz2)) := c2
      refine ⟨0, hp2, sz2, ?_, b1, fun w => absurd (hsp.mp w).1 hall, fun _ => rfl⟩
      unfold f_X5_isSupposed
      simp only [e12, n10, ↓ob a1', ↓ob c2', ↓reduceIte]
  · obtain ⟨dd, a1, a2⟩ := e_conditions hP hB he (Or.inl rfl) hX (by omega)
    have hg1 : gro hp sz (hG hp sz 6 (stw 3 3) dd) (sz + 1 + 6) := gro.ng
    have h1 := hC.gg hg1
    obtain ⟨hp2, sz2, b1, b2⟩ := e_rankOf hP hB h1.e (hG_gP (hp := hp) (sz := sz) a2) (by decide) (by decide) (by decide)
    have hsp : spp 2 X ↔ (gj 6 (cnM 3 X) 6).1 < 6 := ⟨fun w => w.2.2 rfl, fun w => ⟨fun w2 => absurd w2 (by omega), fun w2 => absurd w2 (by omega), fun _ => w⟩⟩
    have b1' : f_X2_rankOf (hG hp sz 6 (stw (2 + 1) (2 + 1)) dd) (sz + 1 + 6) (ad 8) sz = some (nI (gj 6 (cnM 3 X) 6).1, hp2, sz2) := b1
    have hle := (gj_le 6 (cnM 3 X) 6).1
    generalize hr1 : (gj 6 (cnM 3 X) 6).1 = r1 at b1' hle hsp
    clear hr1 b1
    have o2 : isO (hG hp sz 6 (stw (2 + 1) (2 + 1)) dd) (ad 8) 2 = true := h1.e.o2
    by_cases h1 : 6 ≤ r1
    · have l1 := (nI_6le (show r1 < 2 ^ 31 by omega)).mpr h1
      refine ⟨0, hp2, sz2, ?_, hg1.tr b2, fun w => absurd (hsp.mp w) (by omega), fun _ => rfl⟩
      unfold f_X5_isSupposed
      simp only [e22, ↓ob r8, ↓ob r9, he.o4, ↓ob a1, o2, ↓ob b1', l1, ↓reduceIte]
    · have l1 : ¬ (6 : Int32) ≤ nI r1 := fun w => h1 ((nI_6le (show r1 < 2 ^ 31 by omega)).mp w)
      refine ⟨1, hp2, sz2, ?_, hg1.tr b2, fun _ => rfl, fun w => absurd (hsp.mpr (by omega)) w⟩
      unfold f_X5_isSupposed
      simp only [e22, ↓ob r8, ↓ob r9, he.o4, ↓ob a1, o2, ↓ob b1', l1, ↓reduceIte]
end HOLDSB
