section CST
variable {P : Nat}
/-- the class's object at o, with all that it holds -/
def cS (P d : Nat) (hp : cH) (sz o : Nat) (ad im rw : Nat → Nat) (c : Nat) (S : Nat → Nat) (R : Nat → Nat → Fin P) (H : Nat → Fin P) (g : Nat) (Gs : Nat → Nat) (m : Nat) (pA pB : Nat → Nat) (id : Int32) : Prop := (hp o = some (.inr (5, [.ref (ad 0), .ref (ad 1), .ref (ad 2), .ref (ad 3), .ref (ad 4), .int (nI d), .int (nI (d - 1)), .ref (ad 7), .ref (ad 8), .ref (ad 9), .int (nI g), .int (nI m), .int id])) ∧ o < sz) ∧ (hp (ad 0) = some (.inr (3, [.ref (ad 10), .int (nI c)])) ∧ ad 0 < sz) ∧ ((∃ G, hp (ad 10) = some (.inl (2, 60, .inr (.inr (.inr (.inr G))))) ∧ ∀ a, a < c → G a = some (im a)) ∧ ad 10 < sz) ∧ (∀ a, a < c → hp (im a) = some (.inr (1, [.int (nI (S a)), .ref (rw a)])) ∧ im a < sz ∧ vA hp sz (rw a) (wd d (S a)) (R a) ∧ rw a ≠ ad 1 ∧ S a < 5) ∧ vA hp sz (ad 1) 16 H ∧ (((∃ f, hp (ad 2) = some (.inl (0, 9, .inl f)) ∧ ∀ k, k < g → f k = nI (Gs k)) ∧ ad 2 < sz) ∧ ((∃ f, hp (ad 3) = some (.inl (0, 5, .inl f)) ∧ ∀ k, k < m → f k = nI (pA k)) ∧ ad 3 < sz) ∧ ((∃ f, hp (ad 4) = some (.inl (0, 5, .inl f)) ∧ ∀ k, k < m → f k = nI (pB k)) ∧ ad 4 < sz) ∧ ad 3 ≠ ad 4) ∧ eV P (d + 1) (ad 9) (ad 8) (ad 7) hp sz ∧ c ≤ 60 ∧ g ≤ 9 ∧ m ≤ 5 ∧ (d = 2 ∨ d = 3)
/-- only the class's own cells change, and new ones come -/
def cF (ad : Nat → Nat) (o : Nat) (hp : cH) (sz : Nat) (hp' : cH) (sz' : Nat) : Prop := (∀ b, b < sz → b ≠ o → b ≠ ad 0 → b ≠ ad 1 → b ≠ ad 2 → b ≠ ad 3 → b ≠ ad 4 → b ≠ ad 10 → hp' b = hp b) ∧ sz ≤ sz'
theorem cF.g {ad : Nat → Nat} {o sz sz' : Nat} {hp hp' : cH} (h : gro hp sz hp' sz') : cF ad o hp sz hp' sz' := ⟨fun b hb _ _ _ _ _ _ _ => h.1 b (by omega), h.2⟩
theorem cF.tr {ad : Nat → Nat} {o sz sz1 sz2 : Nat} {hp hp1 hp2 : cH} (h : cF ad o hp sz hp1 sz1) (k : cF ad o hp1 sz1 hp2 sz2) : cF ad o hp sz hp2 sz2 := ⟨fun b hb a1 a2 a3 a4 a5 a6 a7 => by rw [k.1 b (by have := h.2; omega) a1 a2 a3 a4 a5 a6 a7, h.1 b hb a1 a2 a3 a4 a5 a6 a7], Nat.le_trans h.2 k.2⟩
section ENV
variable {d sz o : Nat} {hp : cH} {ad im rw : Nat → Nat} {c : Nat} {S : Nat → Nat} {R : Nat → Nat → Fin P} {H : Nat → Fin P} {g : Nat} {Gs : Nat → Nat} {m : Nat} {pA pB : Nat → Nat} {id : Int32}
theorem cS.gg {hp' : cH} {sz' : Nat} (h : cS P d hp sz o ad im rw c S R H g Gs m pA pB id) (e : gro hp sz hp' sz') : cS P d hp' sz' o ad im rw c S R H g Gs m pA pB id := by
  obtain ⟨⟨h1, h1'⟩, ⟨h2, h2'⟩, ⟨⟨G, h3, h3'⟩, h3''⟩, h4, h5, ⟨⟨⟨f, h6, h6'⟩, h6''⟩, ⟨⟨f2, h7, h7'⟩, h7''⟩, ⟨⟨f3, h8, h8'⟩, h8''⟩, h9⟩, h10, h11⟩ := h
  have hz := e.2
  have hk : ∀ b, b < sz → hp' b = hp b := fun b hb => e.1 b (by omega)
  refine ⟨⟨by rw [hk _ h1']; exact h1, by omega⟩, ⟨by rw [hk _ h2']; exact h2, by omega⟩, ⟨⟨G, by rw [hk _ h3'']; exact h3, h3'⟩, by omega⟩, fun a ha => ?_, h5.g e, ⟨⟨⟨f, by rw [hk _ h6'']; exact h6, h6'⟩, by omega⟩, ⟨⟨f2, by rw [hk _ h7'']; exact h7, h7'⟩, by omega⟩, ⟨⟨f3, by rw [hk _ h8'']; exact h8, h8'⟩, by omega⟩, h9⟩, h10.g e, h11⟩
  obtain ⟨q1, q2, q3, q4⟩ := h4 a ha
  exact ⟨by rw [hk _ q2]; exact q1, by omega, q3.g e, q4⟩
theorem cS.o5 (h : cS P d hp sz o ad im rw c S R H g Gs m pA pB id) : isO hp o 5 = true := by
  unfold isO
  rw [h.1.1]
  rfl
theorem cS.o3 (h : cS P d hp sz o ad im rw c S R H g Gs m pA pB id) : isO hp (ad 0) 3 = true := by
  unfold isO
  rw [h.2.1.1]
  rfl
theorem cS.r0 (h : cS P d hp sz o ad im rw c S R H g Gs m pA pB id) : gR hp o 5 0 = some (ad 0) := by
  unfold gR
  rw [h.1.1]
  rfl
theorem cS.r1 (h : cS P d hp sz o ad im rw c S R H g Gs m pA pB id) : gR hp o 5 1 = some (ad 1) := by
  unfold gR
  rw [h.1.1]
  rfl
theorem cS.r2 (h : cS P d hp sz o ad im rw c S R H g Gs m pA pB id) : gR hp o 5 2 = some (ad 2) := by
  unfold gR
  rw [h.1.1]
  rfl
theorem cS.r3 (h : cS P d hp sz o ad im rw c S R H g Gs m pA pB id) : gR hp o 5 3 = some (ad 3) := by
  unfold gR
  rw [h.1.1]
  rfl
theorem cS.r4 (h : cS P d hp sz o ad im rw c S R H g Gs m pA pB id) : gR hp o 5 4 = some (ad 4) := by
  unfold gR
  rw [h.1.1]
  rfl
theorem cS.i5 (h : cS P d hp sz o ad im rw c S R H g Gs m pA pB id) : gI hp o 5 5 = some (nI d) := by
  unfold gI
  rw [h.1.1]
  rfl
theorem cS.i6 (h : cS P d hp sz o ad im rw c S R H g Gs m pA pB id) : gI hp o 5 6 = some (nI (d - 1)) := by
  unfold gI
  rw [h.1.1]
  rfl
theorem cS.r7 (h : cS P d hp sz o ad im rw c S R H g Gs m pA pB id) : gR hp o 5 7 = some (ad 7) := by
  unfold gR
  rw [h.1.1]
  rfl
theorem cS.r8 (h : cS P d hp sz o ad im rw c S R H g Gs m pA pB id) : gR hp o 5 8 = some (ad 8) := by
  unfold gR
  rw [h.1.1]
  rfl
theorem cS.r9 (h : cS P d hp sz o ad im rw c S R H g Gs m pA pB id) : gR hp o 5 9 = some (ad 9) := by
  unfold gR
  rw [h.1.1]
  rfl
theorem cS.i10 (h : cS P d hp sz o ad im rw c S R H g Gs m pA pB id) : gI hp o 5 10 = some (nI g) := by
  unfold gI
  rw [h.1.1]
  rfl
theorem cS.i11 (h : cS P d hp sz o ad im rw c S R H g Gs m pA pB id) : gI hp o 5 11 = some (nI m) := by
  unfold gI
  rw [h.1.1]
  rfl
theorem cS.i12 (h : cS P d hp sz o ad im rw c S R H g Gs m pA pB id) : gI hp o 5 12 = some id := by
  unfold gI
  rw [h.1.1]
  rfl
theorem cS.s0 (h : cS P d hp sz o ad im rw c S R H g Gs m pA pB id) : gR hp (ad 0) 3 0 = some (ad 10) := by
  unfold gR
  rw [h.2.1.1]
  rfl
theorem cS.s1 (h : cS P d hp sz o ad im rw c S R H g Gs m pA pB id) : gI hp (ad 0) 3 1 = some (nI c) := by
  unfold gI
  rw [h.2.1.1]
  rfl
theorem cS.le (h : cS P d hp sz o ad im rw c S R H g Gs m pA pB id) : c ≤ 60 := h.2.2.2.2.2.2.2.1
theorem cS.hd (h : cS P d hp sz o ad im rw c S R H g Gs m pA pB id) : d = 2 ∨ d = 3 := h.2.2.2.2.2.2.2.2.2.2
theorem cS.hw (h : cS P d hp sz o ad im rw c S R H g Gs m pA pB id) : d + 1 = 3 ∨ d + 1 = 4 := by have := h.hd; omega
theorem cS.gm (h : cS P d hp sz o ad im rw c S R H g Gs m pA pB id) : g ≤ 9 ∧ m ≤ 5 := ⟨h.2.2.2.2.2.2.2.2.1, h.2.2.2.2.2.2.2.2.2.1⟩
theorem cS.e (h : cS P d hp sz o ad im rw c S R H g Gs m pA pB id) : eV P (d + 1) (ad 9) (ad 8) (ad 7) hp sz := h.2.2.2.2.2.2.1
theorem cS.ln (h : cS P d hp sz o ad im rw c S R H g Gs m pA pB id) : aN hp (ad 10) = some (nI 60) := by
  obtain ⟨G, h3, -⟩ := h.2.2.1.1
  unfold aN
  rw [h3]
  rfl
theorem cS.lI (h : cS P d hp sz o ad im rw c S R H g Gs m pA pB id) {a : Nat} (ha : a < c) : lR 2 hp (ad 10) (nI a) = some (some (im a)) := by
  obtain ⟨G, h3, h4⟩ := h.2.2.1.1
  have := h.le
  unfold lR aR
  rw [h3]
  show (if gi (nI a) 60 then some (G (nI a).toNatClampNeg) else none) = _
  rw [if_pos (gi_nI (by omega) (by omega)), nI_clamp (by omega), h4 a ha]
theorem cS.t (h : cS P d hp sz o ad im rw c S R H g Gs m pA pB id) {a : Nat} (ha : a < c) : gI hp (im a) 1 0 = some (nI (S a)) := by
  unfold gI
  rw [(h.2.2.2.1 a ha).1]
  rfl
theorem cS.r (h : cS P d hp sz o ad im rw c S R H g Gs m pA pB id) {a : Nat} (ha : a < c) : gR hp (im a) 1 1 = some (rw a) := by
  unfold gR
  rw [(h.2.2.2.1 a ha).1]
  rfl
theorem cS.v (h : cS P d hp sz o ad im rw c S R H g Gs m pA pB id) {a : Nat} (ha : a < c) : vA hp sz (rw a) (wd d (S a)) (R a) := (h.2.2.2.1 a ha).2.2.1
theorem cS.s5 (h : cS P d hp sz o ad im rw c S R H g Gs m pA pB id) {a : Nat} (ha : a < c) : S a < 5 := (h.2.2.2.1 a ha).2.2.2.2
theorem cS.item (h : cS P d hp sz o ad im rw c S R H g Gs m pA pB id) {a : Nat} (ha : a < c) : f_X3_item hp (ad 0) (nI a) = some (some (im a)) := by
  have := h.le
  have l1 := h.lI ha
  have l2 := h.s1
  have l3 := h.s0
  have l4 := h.ln
  unfold f_X3_item
  simp (disch := omega) only [↓Option.bind_some, ↓Option.elim_some, ↓Option.elim_none, Option.bind_some, Option.elim_some, Option.elim_none, Option.some.injEq, Sum.inl.injEq, Sum.inr.injEq, ↓reduceIte, m_side, lit_nI, lz_I, nI_add, pk_mul, pk_sub, nI_ge, nI_le, nI_lt, nI_nlt, gi_t, nI_clamp, nI_eq, pk_rem, Nat.zero_add, Nat.reduceAdd, Nat.reduceMul, Nat.reduceSub, Nat.reduceMod, Nat.reduceEqDiff, reduceCtorEq, Nat.one_ne_zero, Nat.zero_ne_one, ↓ob l2, ↓ob l3, ↓ob l4, ↓ob l1]
theorem cS.itemX (h : cS P d hp sz o ad im rw c S R H g Gs m pA pB id) {i : Int32} (hi : i < 0 ∨ nI c ≤ i) : f_X3_item hp (ad 0) i = some none := by
  have l2 := h.s1
  unfold f_X3_item
  by_cases h0 : i < 0
  · rw [if_pos h0]
  · rw [if_neg h0, ob l2, if_pos (by rcases hi with q | q; exact absurd q h0; exact q)]
theorem cS.row (h : cS P d hp sz o ad im rw c S R H g Gs m pA pB id) {a : Nat} (ha : a < c) {t : Nat} (ht : S a = t) : f_X3_row hp (ad 0) (nI a) (nI t) = some (some (rw a)) := by
  have l1 := h.item ha
  have l2 := h.t ha
  have l3 := h.r ha
  subst ht
  unfold f_X3_row
  simp only [h.o3, ↓ob l1, ↓Option.elim_some, ↓ob l2, ↓ob l3, ↓reduceIte]
theorem cS.rowN (h : cS P d hp sz o ad im rw c S R H g Gs m pA pB id) {a : Nat} (ha : a < c) {t : Nat} (ht : S a ≠ t) (h5 : t < 5) : f_X3_row hp (ad 0) (nI a) (nI t) = some none := by
  have l1 := h.item ha
  have l2 := h.t ha
  have h6 := h.s5 ha
  have hne : ¬ nI (S a) = nI t := by rw [nI_eq (by omega) (by omega)]; exact ht
  unfold f_X3_row
  simp only [h.o3, ↓ob l1, ↓Option.elim_some, ↓ob l2, ↓reduceIte, hne]
theorem cS.rowX (h : cS P d hp sz o ad im rw c S R H g Gs m pA pB id) {i : Int32} (hi : i < 0 ∨ nI c ≤ i) (t : Int32) : f_X3_row hp (ad 0) i t = some none := by
  have l1 := h.itemX hi
  unfold f_X3_row
  simp only [h.o3, ↓ob l1, ↓Option.elim_none, ↓reduceIte]
theorem ix_cl (c : Nat) (hc : c ≤ 60) (i : Int32) : (∃ a, a < c ∧ i = nI a) ∨ (i < 0 ∨ nI c ≤ i) := by
  by_cases h0 : i < 0
  · exact Or.inr (Or.inl h0)
  · by_cases h1 : nI c ≤ i
    · exact Or.inr (Or.inr h1)
    · refine Or.inl ⟨i.toNatClampNeg, ?_, ?_⟩
      · rw [Int32.le_iff_toInt_le, nI_toInt (by omega)] at h1
        rw [Int32.lt_iff_toInt_lt] at h0
        have : (0 : Int32).toInt = 0 := rfl
        rw [this] at h0
        show i.toInt.toNat < c
        omega
      · rw [Int32.lt_iff_toInt_lt] at h0
        have e0 : (0 : Int32).toInt = 0 := rfl
        rw [e0] at h0
        rw [Int32.le_iff_toInt_le, nI_toInt (by omega)] at h1
        apply Int32.toInt_inj.mp
        have e1 : i.toNatClampNeg = i.toInt.toNat := rfl
        rw [e1, nI_toInt (by omega)]
        omega
end ENV
end CST
