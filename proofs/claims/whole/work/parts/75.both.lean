section BOTH
variable {P : Nat} {d sz o : Nat} {hp : cH} {ad im rw : Nat → Nat} {c : Nat} {S : Nat → Nat} {R : Nat → Nat → Fin P} {H : Nat → Fin P} {g : Nat} {Gs : Nat → Nat} {m : Nat} {pA pB : Nat → Nat} {id : Int32}
theorem mv_sx [NeZero P] (L x : Nat → Fin P) {i : Nat} (hi : i < 4) : mvK 4 (sk4 L) x i = sxF 4 L x i := by
  unfold mvK sxF
  refine sF_congr 4 (fun j hj => ?_)
  (try dsimp only)
  rw [sk_4 L hi hj]
theorem d23 : (nI 3 = (2 : Int32)) = False := by simp; decide
theorem d22 : (nI 2 = (2 : Int32)) = True := by simp; decide
theorem d33 : (nI 3 = (3 : Int32)) = True := by simp; decide
theorem d32 : (nI 2 = (3 : Int32)) = False := by simp; decide
/-- the reference, of two lines of the plane or two planes -/
theorem rb_flat (hp0 : isP P) [NeZero P] (hB : P < 2 ^ 31) (hd : d = 2 ∨ d = 3) {sorts : Nat → Int32} {rows : Nat → Int64} (hS : sK sorts S c) (hK : rK c rows R) {a b : Nat} (ha : a < c) (hb : b < c) (sa : S a = d - 1) (sb : S b = d - 1) (draft frame one two turned : Nat → Int64) : ∃ dr o1 t1, vo dr (wd d (d - 2)) (flF (swi (d + 1) (d + 1)) (wgF (d + 1) (R a) (R b))) ∧ m_both (nI d) (lN P) (nI c) sorts rows draft frame one two turned (nI a) (nI b) = some (if a = b then -1 else nI (d - 2), dr, frame, o1, t1, turned) := by
  have hP := hp0.1
  have hle := hK.1
  obtain ⟨o1, c1, c2⟩ := s_takeOne (one := one) hK ha (show d < 8 by omega)
  obtain ⟨o2, c3, c4⟩ := s_takeTwo (one := two) hK hb (show d < 8 by omega)
  have ne2 : a ≠ b → (nI a = nI b) = False := fun q => n_ne q (by omega) (by omega)
  rcases hd with rfl | rfl
  · obtain ⟨dr, e1, e2⟩ := s_through2 hP hB (draft := draft) c2 c4
    have i1 : m_is (nI c) sorts (nI a) 1 = some (nI 1) := r_isT (t := 1) hS hle ha sa (by omega)
    have i2 : m_is (nI c) sorts (nI b) 1 = some (nI 1) := r_isT (t := 1) hS hle hb sb (by omega)
    refine ⟨dr, o1, o2, vo_congr e2 (fun k hk => (ln_cr (R a) (R b) hk).symm), ?_⟩
    unfold m_both
    by_cases e : a = b
    · subst e
      simp only [d22, ↓ob i1, n10, ↓ob c1, ↓ob c3, ↓ob e1, ↓reduceIte]
    · simp only [d22, ↓ob i1, ↓ob i2, n10, ↓ob c1, ↓ob c3, ↓ob e1, ne2 e, if_neg e, ↓reduceIte]
      rfl
  · obtain ⟨dr, e1, e2⟩ := s_through3 hP hB (draft := draft) c2 c4
    obtain ⟨dr2, e3, e4⟩ := s_turn hP hB e2
    have i1 : m_is (nI c) sorts (nI a) 2 = some (nI 1) := r_isT (t := 2) hS hle ha sa (by omega)
    have i2 : m_is (nI c) sorts (nI b) 2 = some (nI 1) := r_isT (t := 2) hS hle hb sb (by omega)
    refine ⟨dr2, o1, o2, vo_congr e4 (fun k hk => ?_), ?_⟩
    · rw [← flF6 _ hk]
      unfold flF
      rw [← ln_wg (R a) (R b) (show 6 - 1 - k < 6 by omega)]
      rfl
    · unfold m_both
      by_cases e : a = b
      · subst e
        simp only [d23, ↓ob i1, n10, ↓ob c1, ↓ob c3, ↓ob e1, ↓ob e3, ↓reduceIte]
      · simp only [d23, ↓ob i1, ↓ob i2, n10, ↓ob c1, ↓ob c3, ↓ob e1, ↓ob e3, ne2 e, if_neg e, ↓reduceIte]
        rfl
/-- of two lines of space -/
theorem rb_lines (hp0 : isP P) [NeZero P] (hB : P < 2 ^ 31) (hI : shf 3 c S R) {sorts : Nat → Int32} {rows : Nat → Int64} (hS : sK sorts S c) (hK : rK c rows R) {a b : Nat} (ha : a < c) (hb : b < c) (sa : S a = 1) (sb : S b = 1) (draft frame one two turned : Nat → Int64) : ((a = b ∨ crF 6 (R a) (R b) ≠ 0) → m_both (nI 3) (lN P) (nI c) sorts rows draft frame one two turned (nI a) (nI b) = some (-1, draft, frame, one, two, turned)) ∧ ((a ≠ b ∧ crF 6 (R a) (R b) = 0) → ∃ x l y, ldV x 4 < 4 ∧ ptF (R a) (R b) = some y ∧ l ≠ 0 ∧ (∀ j, j < 4 → y j = l * x j) ∧ ∃ dr fr o1 t1 u1, vo dr 4 x ∧ m_both (nI 3) (lN P) (nI c) sorts rows draft frame one two turned (nI a) (nI b) = some (nI 0, dr, fr, o1, t1, u1)) := by
  have hP := hp0.1
  have hle := hK.1
  have i1 : m_is (nI c) sorts (nI a) 1 = some (nI 1) := r_isT (t := 1) hS hle ha sa (by omega)
  have i2 : m_is (nI c) sorts (nI b) 1 = some (nI 1) := r_isT (t := 1) hS hle hb sb (by omega)
  have j1 : m_is (nI c) sorts (nI a) 2 = some (nI 0) := r_isF (t := 2) hS hle ha (by omega) (by omega)
  have hcr := s_isCrossed hP hB hK ha hb
  rw [← cr_is] at hcr
  refine ⟨fun h => ?_, fun h => ?_⟩
  · unfold m_both m_both_J101
    by_cases e : a = b
    · subst e
      simp only [d23, ↓ob j1, n00, n10, ↓ob i1, ↓reduceIte]
    · have hne : (nI a = nI b) = False := n_ne e (by omega) (by omega)
      have hc : ¬ crF 6 (R a) (R b) = 0 := by rcases h with q | q; exact absurd q e; exact q
      rw [if_neg hc] at hcr
      simp only [d23, ↓ob j1, n00, n10, ↓ob i1, ↓ob i2, hne, ↓ob hcr, ↓reduceIte]
  · obtain ⟨hab, hc⟩ := h
    have hne : (nI a = nI b) = False := n_ne hab (by omega) (by omega)
    rw [if_pos hc] at hcr
    have na := (hI.1 a ha).1
    have nb := (hI.1 b hb).1
    have ka := (hI.1 a ha).2.2.2.1 sa rfl
    have kb := (hI.1 b hb).2.2.2.1 sb rfl
    rw [sa] at na
    rw [sb] at nb
    have hdiff : ¬ ∀ k, k < 6 → R a k = R b k := fun q => hab (hI.2 a b ha hb (by rw [sa, sb]) (by rw [sa]; exact q))
    obtain ⟨i0, h1, h2, h3, h4, y, y1, l, l1, l2⟩ := cross_eq hp0 na nb ka kb hdiff hc
    have hbb := ba_bw hp0 (d := 3) (Or.inr rfl) (L := R b) (fun _ => kb) nb.1
    have s0 : ∀ i, sp4 (R a) (baF 3 (R b) 0) i = sp4 (R a) (bwF 4 (R b) 0) i := fun i => sp_cg (fun k hk => (hbb k hk).1) i
    have s1 : ∀ i, sp4 (R a) (baF 3 (R b) 1) i = sp4 (R a) (bwF 4 (R b) 1) i := fun i => sp_cg (fun k hk => (hbb k hk).2) i
    obtain ⟨d', f', o', t', u', g1, g2⟩ := s_crossing hP hB (draft := draft) (fr := frame) (one := one) (two := two) (tu := turned) hK ha hb h1 (by rw [s0, s1]; exact h2) (fun i hi => by rw [s0, s1]; exact h3 i hi)
    refine ⟨_, l, y, h4, y1, l1, l2, d', f', o', t', u', vo_congr g2 (fun j hj => ?_), ?_⟩
    · unfold xpt
      rw [s0, s1, (hbb j hj).1, (hbb j hj).2]
      rfl
    · unfold m_both m_both_J101
      have z1 : ((1 : Int32) = 0) = False := by simp
      simp only [d23, ↓ob j1, n00, n10, ↓ob i1, ↓ob i2, hne, ↓ob hcr, z1, ↓ob g1, ↓reduceIte]
      rfl
/-- of a line of space and a plane -/
theorem rb_lp (hp0 : isP P) [NeZero P] (hB : P < 2 ^ 31) {sorts : Nat → Int32} {rows : Nat → Int64} (hS : sK sorts S c) (hK : rK c rows R) {a b x y : Nat} (ha : a < c) (hb : b < c) (hxy : (x = a ∧ y = b) ∨ (x = b ∧ y = a)) (sx : S x = 1) (sy : S y = 2) (draft frame one two turned : Nat → Int64) : ∃ dr, vo dr 4 (sxF 4 (R x) (R y)) ∧ m_both (nI 3) (lN P) (nI c) sorts rows draft frame one two turned (nI a) (nI b) = some (if ldV (sxF 4 (R x) (R y)) 4 < 4 then nI 0 else -1, dr, frame, one, two, turned) := by
  have hP := hp0.1
  have hle := hK.1
  have hx : x < c := by rcases hxy with q | q <;> rw [q.1] <;> assumption
  have hy : y < c := by rcases hxy with q | q <;> rw [q.2] <;> assumption
  have x1 : m_is (nI c) sorts (nI x) 1 = some (nI 1) := r_isT (t := 1) hS hle hx sx (by omega)
  have x2 : m_is (nI c) sorts (nI x) 2 = some (nI 0) := r_isF (t := 2) hS hle hx (by omega) (by omega)
  have y1 : m_is (nI c) sorts (nI y) 1 = some (nI 0) := r_isF (t := 1) hS hle hy (by omega) (by omega)
  have y2 : m_is (nI c) sorts (nI y) 2 = some (nI 1) := r_isT (t := 2) hS hle hy sy (by omega)
  obtain ⟨dr, e1, e2⟩ := s_pierced hP hB (draft := draft) hK hx hy
  have e3 : vo dr 4 (sxF 4 (R x) (R y)) := vo_congr e2 (fun k hk => mv_sx _ _ hk)
  have hn := s_isNothing hP hB (d := 3) (t := 0) (Or.inr rfl) (by omega) (show vo dr (wd 3 0) _ from e3)
  have hl := ldV_le (sxF 4 (R x) (R y)) 4
  refine ⟨dr, e3, ?_⟩
  have z1 : ((1 : Int32) = 0) = False := by simp
  by_cases e : ldV (sxF 4 (R x) (R y)) 4 < 4
  · rw [if_neg (show ¬ ldV (sxF 4 (R x) (R y)) (wd 3 0) = wd 3 0 from by show ¬ ldV (sxF 4 (R x) (R y)) 4 = 4; omega)] at hn
    have hn' : m_isNothing (nI 3) dr 0 = some 0 := hn
    rw [if_pos e]
    unfold m_both m_both_J101 m_both_J143
    rcases hxy with ⟨rfl, rfl⟩ | ⟨rfl, rfl⟩
    · simp only [d23, ↓ob x1, ↓ob x2, ↓ob y1, ↓ob y2, n00, n10, ↓ob e1, ↓ob hn', ↓reduceIte]
      rfl
    · simp only [d23, ↓ob x1, ↓ob x2, ↓ob y1, ↓ob y2, n00, n10, ↓ob e1, ↓ob hn', ↓reduceIte]
      rfl
  · rw [if_pos (show ldV (sxF 4 (R x) (R y)) (wd 3 0) = wd 3 0 from by show ldV (sxF 4 (R x) (R y)) 4 = 4; omega)] at hn
    have hn' : m_isNothing (nI 3) dr 0 = some 1 := hn
    rw [if_neg e]
    unfold m_both m_both_J101 m_both_J143
    rcases hxy with ⟨rfl, rfl⟩ | ⟨rfl, rfl⟩
    · simp only [d23, ↓ob x1, ↓ob x2, ↓ob y1, ↓ob y2, n00, n10, ↓ob e1, ↓ob hn', z1, ↓reduceIte]
    · simp only [d23, ↓ob x1, ↓ob x2, ↓ob y1, ↓ob y2, n00, n10, ↓ob e1, ↓ob hn', z1, ↓reduceIte]
theorem rb_bad (hd : d = 2 ∨ d = 3) {sorts : Nat → Int32} {rows draft frame one two turned : Nat → Int64} {p : Int64} {x1 x2 : Int32} {a1 a2 b1 b2 : Nat} (ia1 : m_is (nI c) sorts x1 1 = some (nI a1)) (ia2 : m_is (nI c) sorts x1 2 = some (nI a2)) (ib1 : m_is (nI c) sorts x2 1 = some (nI b1)) (ib2 : m_is (nI c) sorts x2 2 = some (nI b2)) (ha1 : a1 = 0 ∨ a1 = 1) (ha2 : a2 = 0 ∨ a2 = 1) (hb1 : b1 = 0 ∨ b1 = 1) (hb2 : b2 = 0 ∨ b2 = 1) (hna : a1 = 0 ∨ a2 = 0) (hnb : b1 = 0 ∨ b2 = 0) (h2 : d = 2 → ¬ (a1 = 1 ∧ b1 = 1)) (h3 : d = 3 → ¬ ((a1 = 1 ∨ a2 = 1) ∧ (b1 = 1 ∨ b2 = 1))) : m_both (nI d) p (nI c) sorts rows draft frame one two turned x1 x2 = some (-2, draft, frame, one, two, turned) := by
  unfold m_both m_both_J101 m_both_J143
  rcases hd with rfl | rfl <;> rcases ha1 with rfl | rfl <;> rcases ha2 with rfl | rfl <;> rcases hb1 with rfl | rfl <;> rcases hb2 with rfl | rfl <;> first | omega | (exfalso; exact h2 rfl ⟨rfl, rfl⟩) | (exfalso; exact h3 rfl (by omega)) | simp only [↓ob ia1, ↓ob ia2, ↓ob ib1, ↓ob ib2, n00, n10, d22, d23, ↓reduceIte]
theorem is01 (hS' : ∀ a, a < c → S a < 5) (hc : c ≤ 60) {sorts : Nat → Int32} (hS : sK sorts S c) (x : Int32) {s t : Nat} (hs : s < 5) (ht : t < 5) (hst : s ≠ t) : ∃ a b, m_is (nI c) sorts x (nI s) = some (nI a) ∧ m_is (nI c) sorts x (nI t) = some (nI b) ∧ (a = 0 ∨ a = 1) ∧ (b = 0 ∨ b = 1) ∧ (a = 0 ∨ b = 0) ∧ ((∀ k, k < c → x = nI k → S k ≠ s) → a = 0) ∧ ((∀ k, k < c → x = nI k → S k ≠ t) → b = 0) := by
  rcases sortX hS' hc hS x hs with ⟨a, ha, rfl, e, i1⟩ | ⟨q, i1⟩
  · refine ⟨1, 0, i1, r_isF hS hc ha (by omega) ht, by omega, by omega, by omega, fun h => absurd e (h a ha rfl), fun _ => rfl⟩
  · rcases sortX hS' hc hS x ht with ⟨a, ha, rfl, e, i2⟩ | ⟨q2, i2⟩
    · exact ⟨0, 1, i1, i2, by omega, by omega, by omega, fun _ => rfl, fun h => absurd e (h a ha rfl)⟩
    · exact ⟨0, 0, i1, i2, by omega, by omega, by omega, fun _ => rfl, fun _ => rfl⟩
end BOTH
