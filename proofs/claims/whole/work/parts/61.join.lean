section JOIN
variable {P : Nat} {d sz o : Nat} {hp : cH} {ad im rw : Nat → Nat} {c : Nat} {S : Nat → Nat} {R : Nat → Nat → Fin P} {H : Nat → Fin P} {g : Nat} {Gs : Nat → Nat} {m : Nat} {pA pB : Nat → Nat} {id : Int32}
theorem r_isT {sorts : Nat → Int32} {a t : Nat} (hS : sK sorts S c) (hc : c ≤ 60) (ha : a < c) (ht : S a = t) (h5 : t < 5) : m_is (nI c) sorts (nI a) (nI t) = some (nI 1) := by
  rw [r_is hS hc ha h5, if_pos ht]
theorem r_isF {sorts : Nat → Int32} {a t : Nat} (hS : sK sorts S c) (hc : c ≤ 60) (ha : a < c) (ht : S a ≠ t) (h5 : t < 5) : m_is (nI c) sorts (nI a) (nI t) = some (nI 0) := by
  rw [r_is hS hc ha h5, if_neg ht]
theorem n10 : (nI 1 = (0 : Int32)) = False := by simp; decide
theorem n00 : (nI 0 = (0 : Int32)) = True := by simp; decide
theorem n11 : (nI 1 = (1 : Int32)) = True := by simp; decide
theorem n01 : (nI 0 = (1 : Int32)) = False := by simp; decide
theorem n_ne {a b : Nat} (h : a ≠ b) (ha : a < 2 ^ 31) (hb : b < 2 ^ 31) : (nI a = nI b) = False := by
  simp
  rw [nI_eq ha hb]
  exact h
theorem c_joinB (hp0 : isP P) (ho : P % 2 = 1) [NeZero P] (hB : P < 2 ^ 31) (hI : shf d c S R) (hC : cS P d hp sz o ad im rw c S R H g Gs m pA pB id) {sorts : Nat → Int32} {rows : Nat → Int64} (hS : sK sorts S c) (hK : rK c rows R) {a b : Nat} (ha : a < c) (hb : b < c) (h0 : ¬ (S a = 0 ∧ S b = 0)) (h1 : d = 2 ∨ ¬ S (if S b < S a then a else b) = 1) : f_X5_join hp sz o (nI a) (nI b) = some (-2, hp, sz) := by
  have l0 := hC.r0
  have lw := hC.lower ha hb
  have hg := hC.higher ha hb
  have i5 := hC.i5
  generalize hx : (if S b < S a then b else a) = x at *
  generalize hy : (if S b < S a then a else b) = y at *
  have hxc : x < c := by rw [← hx]; split <;> assumption
  have hyc : y < c := by rw [← hy]; split <;> assumption
  have tx := hC.t hxc
  have ty := hC.t hyc
  have sx := hC.s5 hxc
  have sy := hC.s5 hyc
  have hJ : f_X5_join_J70 hp sz 31 o (im x) (im y) = some (-2, hp, sz) := by
    unfold f_X5_join_J70
    rcases h1 with q | q
    · have hd2 : nI d = (2 : Int32) := by rw [q]; rfl
      simp only [↓ob i5, hd2, ↓reduceIte]
    · by_cases q2 : nI d = (2 : Int32)
      · simp only [↓ob i5, q2, ↓reduceIte]
      · have q3 : (nI (S y) = (1 : Int32)) = False := n_ne (b := 1) q (by omega) (by omega)
        simp only [↓ob i5, q2, ↓ob ty, q3, ↓reduceIte]
  unfold f_X5_join
  by_cases e1 : S x = 0
  · have e2 : ¬ S y = 0 := by
      intro e2
      apply h0
      by_cases q : S b < S a
      · rw [if_pos q] at hx hy
        subst hx
        subst hy
        exact ⟨e2, e1⟩
      · rw [if_neg q] at hx hy
        subst hx
        subst hy
        exact ⟨e1, e2⟩
    have t1 : nI (S x) = (0 : Int32) := by rw [e1]; rfl
    have t2 : (nI (S y) = (0 : Int32)) = False := n_ne (b := 0) e2 (by omega) (by omega)
    simp only [↓ob l0, hC.o3, ↓ob lw, ↓ob hg, ↓Option.elim_some, ↓ob tx, ↓ob ty, t1, t2, ↓reduceIte, hJ]
  · have t1 : (nI (S x) = (0 : Int32)) = False := n_ne (b := 0) e1 (by omega) (by omega)
    simp only [↓ob l0, hC.o3, ↓ob lw, ↓ob hg, ↓Option.elim_some, ↓ob tx, t1, ↓reduceIte, hJ]
theorem c_joinX (hp0 : isP P) (ho : P % 2 = 1) [NeZero P] (hB : P < 2 ^ 31) (hI : shf d c S R) (hC : cS P d hp sz o ad im rw c S R H g Gs m pA pB id) {sorts : Nat → Int32} {rows : Nat → Int64} (hS : sK sorts S c) (hK : rK c rows R) {x1 x2 : Int32} (hx : (x1 < 0 ∨ nI c ≤ x1) ∨ (x2 < 0 ∨ nI c ≤ x2)) : f_X5_join hp sz o x1 x2 = some (-2, hp, sz) := by
  have l0 := hC.r0
  obtain ⟨x, y, h1, h2, h3⟩ := hC.lowX hx
  unfold f_X5_join
  cases x with
  | none => simp only [↓ob l0, hC.o3, ↓ob h1, ↓ob h2, ↓Option.elim_none, ↓reduceIte]
  | some x =>
    have h4 : y = none := by rcases h3 with q | q; cases q; exact q
    subst h4
    simp only [↓ob l0, hC.o3, ↓ob h1, ↓ob h2, ↓Option.elim_none, ↓Option.elim_some, ↓reduceIte]
/-- the reference's join where one of the two is of no use -/
theorem r_joinB {sorts : Nat → Int32} {rows draft frame one two : Nat → Int64} {p : Int64} (hd : d = 2 ∨ d = 3) {x1 x2 : Int32} {a0 a1 b0 b1 : Nat} (ia0 : m_is (nI c) sorts x1 0 = some (nI a0)) (ia1 : m_is (nI c) sorts x1 1 = some (nI a1)) (ib0 : m_is (nI c) sorts x2 0 = some (nI b0)) (ib1 : m_is (nI c) sorts x2 1 = some (nI b1)) (ha0 : a0 = 0 ∨ a0 = 1) (ha1 : a1 = 0 ∨ a1 = 1) (hb0 : b0 = 0 ∨ b0 = 1) (hb1 : b1 = 0 ∨ b1 = 1) (hna : a0 = 0 ∨ a1 = 0) (hnb : b0 = 0 ∨ b1 = 0) (h0 : ¬ (a0 = 1 ∧ b0 = 1)) (h1 : d = 2 ∨ ¬ ((a0 = 1 ∨ a1 = 1) ∧ (b0 = 1 ∨ b1 = 1))) : m_join (nI d) p (nI c) sorts rows draft frame one two x1 x2 = some (-2, nI c, sorts, rows, draft, frame, one, two) := by
  have d3 : (nI 2 = (3 : Int32)) = False := by simp; decide
  have d2 : (nI 3 = (2 : Int32)) = False := by simp; decide
  have d33 : (nI 3 = (3 : Int32)) = True := by simp; decide
  have d22 : (nI 2 = (2 : Int32)) = True := by simp; decide
  unfold m_join m_join_J47 m_join_J98
  rcases hd with rfl | rfl <;> rcases ha0 with rfl | rfl <;> rcases ha1 with rfl | rfl <;> rcases hb0 with rfl | rfl <;> rcases hb1 with rfl | rfl <;> first | omega | simp only [↓ob ia0, ↓ob ia1, ↓ob ib0, ↓ob ib1, n00, n10, d3, d2, d33, d22, ↓reduceIte]
end JOIN
