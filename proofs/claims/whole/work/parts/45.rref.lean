/-! WHAT ELIMINATION LEAVES -/
section RREF
variable {P : Nat}
theorem sF_add [NeZero P] (f g : Nat → Fin P) : ∀ n, sF (fun i => f i + g i) n = sF f n + sF g n
  | 0 => by simp only [sF]; grind
  | n + 1 => by
    simp only [sF]
    rw [sF_add f g n]
    grind
theorem sF_mul [NeZero P] (a : Fin P) (f : Nat → Fin P) : ∀ n, sF (fun i => a * f i) n = a * sF f n
  | 0 => by simp only [sF]; grind
  | n + 1 => by
    simp only [sF]
    rw [sF_mul a f n]
    grind
theorem sF_mulr [NeZero P] (a : Fin P) (f : Nat → Fin P) (n : Nat) : sF (fun i => f i * a) n = sF f n * a := by
  have := sF_mul a f n
  rw [show sF f n * a = a * sF f n by grind, ← this]
  exact sF_congr n (fun k _ => by grind)
theorem sF_0 [NeZero P] {f : Nat → Fin P} : ∀ {n : Nat}, (∀ i, i < n → f i = 0) → sF f n = 0
  | 0, _ => rfl
  | n + 1, h => by
    simp only [sF]
    rw [sF_0 (fun i hi => h i (by omega)), h n (by omega)]
    grind
theorem sF_one [NeZero P] {f : Nat → Fin P} {k : Nat} : ∀ {n : Nat}, k < n → (∀ i, i < n → i ≠ k → f i = 0) → sF f n = f k
  | 0, h, _ => by omega
  | n + 1, h, h2 => by
    simp only [sF]
    by_cases e : k = n
    · rw [sF_0 (fun i hi => h2 i (by omega) (by omega)), e]
      grind
    · rw [sF_one (k := k) (by omega) (fun i hi hk => h2 i (by omega) hk), h2 n (by omega) (by omega)]
      grind
theorem sF_two [NeZero P] {f : Nat → Fin P} {k l : Nat} : ∀ {n : Nat}, k < n → l < n → k ≠ l → (∀ i, i < n → i ≠ k → i ≠ l → f i = 0) → sF f n = f k + f l
  | 0, h, _, _, _ => by omega
  | n + 1, h, h1, h2, h3 => by
    simp only [sF]
    by_cases e : k = n
    · rw [sF_one (k := l) (by omega) (fun i hi hl => h3 i (by omega) (by omega) hl), e]
      grind
    · by_cases e2 : l = n
      · rw [sF_one (k := k) (by omega) (fun i hi hl => h3 i (by omega) hl (by omega)), e2]
      · rw [sF_two (k := k) (l := l) (by omega) (by omega) h2 (fun i hi a b => h3 i (by omega) a b), h3 n (by omega) (by omega) (by omega)]
        grind
theorem sF_swap [NeZero P] (f : Nat → Nat → Fin P) (m : Nat) : ∀ n, sF (fun i => sF (fun j => f i j) m) n = sF (fun j => sF (fun i => f i j) n) m
  | 0 => by
    simp only [sF]
    exact (sF_0 (fun _ _ => rfl)).symm
  | n + 1 => by
    simp only [sF]
    rw [sF_swap f m n, ← sF_add]
theorem sF_cut [NeZero P] {f : Nat → Fin P} {r : Nat} : ∀ {n : Nat}, r ≤ n → (∀ i, r ≤ i → i < n → f i = 0) → sF f n = sF f r
  | 0, h, _ => by rw [show r = 0 by omega]
  | n + 1, h, h2 => by
    by_cases e : r = n + 1
    · rw [e]
    · simp only [sF]
      rw [sF_cut (r := r) (by omega) (fun i a b => h2 i a (by omega)), h2 n (by omega) (by omega)]
      grind
theorem sF_neg [NeZero P] (f : Nat → Fin P) : ∀ n, sF (fun i => - f i) n = - sF f n
  | 0 => by simp only [sF]; grind
  | n + 1 => by
    simp only [sF]
    rw [sF_neg f n]
    grind
/-- sums of multiples of the lines -/
def cmb [NeZero P] (h : Nat) (M : Mx P) (c : Nat → Fin P) (j : Nat) : Fin P := sF (fun i => c i * M i j) h
def inSp [NeZero P] (h : Nat) (M : Mx P) (y : Nat → Fin P) : Prop := ∃ c : Nat → Fin P, ∀ j, y j = cmb h M c j
theorem sp_row [NeZero P] {h i : Nat} {M : Mx P} (hi : i < h) (a : Fin P) : inSp h M (fun j => a * M i j) := by
  refine ⟨fun k => if k = i then a else 0, fun j => ?_⟩
  unfold cmb
  rw [sF_one (k := i) hi (fun k _ hk => by (try dsimp only); rw [if_neg hk]; grind)]
  (try dsimp only)
  rw [if_pos rfl]
theorem sp_row1 [NeZero P] {h i : Nat} {M : Mx P} (hi : i < h) : inSp h M (M i) := by
  obtain ⟨c, hc⟩ := sp_row (M := M) hi 1
  exact ⟨c, fun j => by rw [← hc j]; grind⟩
theorem sp_add [NeZero P] {h : Nat} {M : Mx P} {x y : Nat → Fin P} (hx : inSp h M x) (hy : inSp h M y) : inSp h M (fun j => x j + y j) := by
  obtain ⟨c, hc⟩ := hx
  obtain ⟨e, he⟩ := hy
  refine ⟨fun i => c i + e i, fun j => ?_⟩
  (try dsimp only)
  rw [hc j, he j]
  unfold cmb
  rw [← sF_add]
  exact sF_congr h (fun k _ => by grind)
theorem sp_mul [NeZero P] {h : Nat} {M : Mx P} {x : Nat → Fin P} (a : Fin P) (hx : inSp h M x) : inSp h M (fun j => a * x j) := by
  obtain ⟨c, hc⟩ := hx
  refine ⟨fun i => a * c i, fun j => ?_⟩
  (try dsimp only)
  rw [hc j]
  unfold cmb
  rw [← sF_mul]
  exact sF_congr h (fun k _ => by grind)
theorem sp_congr [NeZero P] {h : Nat} {M : Mx P} {x y : Nat → Fin P} (hx : inSp h M x) (e : ∀ j, x j = y j) : inSp h M y := by
  obtain ⟨c, hc⟩ := hx
  exact ⟨c, fun j => by rw [← e j, hc j]⟩
/-- lines that are sums of lines -/
theorem sp_tr [NeZero P] {h k : Nat} {M N : Mx P} {y : Nat → Fin P} (hr : ∀ i, i < k → inSp h M (N i)) (hy : inSp k N y) : inSp h M y := by
  obtain ⟨c, hc⟩ := hy
  have key : ∀ n, n ≤ k → inSp h M (fun j => sF (fun i => c i * N i j) n) := by
    intro n
    induction n with
    | zero =>
      intro _
      refine ⟨fun _ => 0, fun j => ?_⟩
      unfold cmb
      simp only [sF]
      exact (sF_0 (fun i _ => by grind)).symm
    | succ n ih =>
      intro hn
      exact sp_congr (sp_add (ih (by omega)) (sp_mul (c n) (hr n (by omega)))) (fun j => rfl)
  exact sp_congr (key k (Nat.le_refl k)) (fun j => (hc j).symm)
/-- two grids whose lines are sums of each other's -/
def rEq [NeZero P] (h : Nat) (M N : Mx P) : Prop := (∀ i, i < h → inSp h M (N i)) ∧ ∀ i, i < h → inSp h N (M i)
theorem rEq.rf [NeZero P] {h : Nat} {M : Mx P} : rEq h M M := ⟨fun _ hi => sp_row1 hi, fun _ hi => sp_row1 hi⟩
theorem rEq.tr [NeZero P] {h : Nat} {M N Q : Mx P} (h1 : rEq h M N) (h2 : rEq h N Q) : rEq h M Q := ⟨fun i hi => sp_tr h1.1 (h2.1 i hi), fun i hi => sp_tr h2.2 (h1.2 i hi)⟩
theorem swp_eq [NeZero P] (hp : isP P) {h r b c : Nat} {M : Mx P} (hr : r < h) (hb : b < h) (hn : M b c ≠ 0) : rEq h M (swp M r b c) := by
  have hf := fi_mul hp hn
  constructor
  · intro i hi
    unfold swp
    by_cases e : i = r
    · exact sp_congr (sp_row (M := M) hb (fi (M b c))) (fun j => by (try dsimp only); rw [if_pos e]; grind)
    · by_cases e2 : i = b
      · exact sp_congr (sp_row1 (M := M) hr) (fun j => by (try dsimp only); rw [if_neg e, if_pos e2])
      · exact sp_congr (sp_row1 (M := M) hi) (fun j => by (try dsimp only); rw [if_neg e, if_neg e2])
  · intro i hi
    by_cases e : i = b
    · exact sp_congr (sp_row (M := swp M r b c) hr (M b c)) (fun j => by
        unfold swp
        (try dsimp only)
        rw [if_pos rfl, e]
        grind)
    · by_cases e2 : i = r
      · exact sp_congr (sp_row1 (M := swp M r b c) hb) (fun j => by
          unfold swp
          rw [if_neg (by omega), if_pos rfl, e2])
      · exact sp_congr (sp_row1 (M := swp M r b c) hi) (fun j => by
          unfold swp
          rw [if_neg e2, if_neg e])
theorem clr_eq [NeZero P] {h r c : Nat} {M : Mx P} (hr : r < h) : rEq h M (clr M r c) := by
  constructor
  · intro i hi
    by_cases e : i = r
    · exact sp_congr (sp_row1 (M := M) hi) (fun j => by unfold clr; rw [if_pos e, e])
    · exact sp_congr (sp_add (sp_row1 (M := M) hi) (sp_row (M := M) hr (- M i c))) (fun j => by
        unfold clr
        (try dsimp only)
        rw [if_neg e]
        grind)
  · intro i hi
    by_cases e : i = r
    · exact sp_congr (sp_row1 (M := clr M r c) hi) (fun j => by unfold clr; rw [if_pos e, e])
    · exact sp_congr (sp_add (sp_row1 (M := clr M r c) hi) (sp_row (M := clr M r c) hr (M i c))) (fun j => by
        unfold clr
        (try dsimp only)
        rw [if_neg e, if_pos rfl]
        grind)
theorem gj_eq [NeZero P] (hp : isP P) (h : Nat) (M : Mx P) : ∀ c, rEq h M (gj h M c).2
  | 0 => rEq.rf
  | c + 1 => by
    have ih := gj_eq hp h M c
    have hs : gj h M (c + 1) = gst h c (gj h M c) := rfl
    rw [hs]
    unfold gst
    split
    · rename_i e
      have hl := fst0_le (gj h M c).2 c (h - (gj h M c).1) (gj h M c).1
      have hz := fst0_nz (gj h M c).2 c (h - (gj h M c).1) (gj h M c).1 (by omega)
      exact ih.tr ((swp_eq hp (by omega) e hz).tr (clr_eq (by omega)))
    · exact ih
theorem gj_sp [NeZero P] (hp : isP P) {h u : Nat} {M : Mx P} {y : Nat → Fin P} : inSp h (gj h M u).2 y ↔ inSp h M y := ⟨sp_tr (gj_eq hp h M u).1, sp_tr (gj_eq hp h M u).2⟩
/-- the columns of the steps -/
def stp [NeZero P] (h c r : Nat) (G : Mx P) (pv : Nat → Nat) : Prop := r ≤ h ∧ (∀ k, k < r → pv k < c) ∧ (∀ k l, k < l → l < r → pv k < pv l) ∧ (∀ k i, k < r → i < h → G i (pv k) = if i = k then 1 else 0) ∧ (∀ k j, k < r → j < pv k → G k j = 0) ∧ ∀ i j, r ≤ i → i < h → j < c → G i j = 0
theorem gj_stp [NeZero P] (hp : isP P) (h : Nat) (M : Mx P) : ∀ c, ∃ pv, stp h c (gj h M c).1 (gj h M c).2 pv
  | 0 => ⟨fun _ => 0, Nat.zero_le _, fun k hk => absurd hk (Nat.not_lt_zero k), fun k l _ hl => absurd hl (Nat.not_lt_zero l), fun k i hk => absurd hk (Nat.not_lt_zero k), fun k j hk => absurd hk (Nat.not_lt_zero k), fun i j _ _ hj => absurd hj (Nat.not_lt_zero j)⟩
  | c + 1 => by
    obtain ⟨pv, h0, h1, h2, h3, h4, h5⟩ := gj_stp hp h M c
    have hs : gj h M (c + 1) = gst h c (gj h M c) := rfl
    rw [hs]
    generalize gj h M c = s at *
    obtain ⟨r, G⟩ := s
    dsimp only at h0 h1 h2 h3 h4 h5
    unfold gst
    (try dsimp only)
    have hl := fst0_le G c (h - r) r
    by_cases e : fst0 G c (h - r) r < h
    · rw [if_pos e]
      have hz := fst0_nz G c (h - r) r (by omega)
      have hf := fi_mul hp hz
      generalize fst0 G c (h - r) r = b at *
      have hbz : ∀ j, j < c → G b j = 0 := fun j hj => h5 b j (by omega) e hj
      have hrz : ∀ j, j < c → G r j = 0 := fun j hj => h5 r j (by omega) (by omega) hj
      have sr0 : ∀ j, j < c → swp G r b c r j = 0 := by
        intro j hj
        unfold swp
        rw [if_pos rfl, hbz j hj]
        grind
      have src : swp G r b c r c = 1 := by
        unfold swp
        rw [if_pos rfl]
        exact hf
      refine ⟨fun k => if k = r then c else pv k, by (try dsimp only); omega, fun k hk => ?_, fun k l hkl hl2 => ?_, fun k i hk hi => ?_, fun k j hk hj => ?_, fun i j hi hih hj => ?_⟩
      · (try dsimp only)
        by_cases q : k = r
        · rw [if_pos q]
          omega
        · rw [if_neg q]
          have := h1 k (by omega)
          omega
      · (try dsimp only)
        have := h1 k (by omega)
        rw [if_neg (show ¬ k = r by omega)]
        by_cases q : l = r
        · rw [if_pos q]
          exact this
        · rw [if_neg q]
          exact h2 k l hkl (by omega)
      · (try dsimp only)
        by_cases q : k = r
        · rw [if_pos q, q]
          unfold clr
          by_cases q2 : i = r
          · rw [if_pos q2, if_pos q2]
            exact src
          · rw [if_neg q2, if_neg q2, src]
            grind
        · rw [if_neg q]
          have hpk := h1 k (by omega)
          have e1 : clr (swp G r b c) r c i (pv k) = swp G r b c i (pv k) := by
            unfold clr
            by_cases q2 : i = r
            · rw [if_pos q2, q2]
            · rw [if_neg q2, sr0 _ hpk]
              grind
          rw [e1]
          unfold swp
          by_cases q2 : i = r
          · rw [if_pos q2, hbz _ hpk, if_neg (by omega)]
            grind
          · rw [if_neg q2]
            by_cases q3 : i = b
            · rw [if_pos q3, hrz _ hpk, if_neg (by omega)]
            · rw [if_neg q3]
              exact h3 k i (by omega) hi
      · (try dsimp only)
        by_cases q : k = r
        · simp only [if_pos q] at hj
          rw [q]
          unfold clr
          rw [if_pos rfl]
          exact sr0 j hj
        · simp only [if_neg q] at hj
          have hpk := h1 k (by omega)
          unfold clr
          rw [if_neg q, sr0 j (by omega)]
          have : swp G r b c k j = 0 := by
            unfold swp
            rw [if_neg q, if_neg (by omega)]
            exact h4 k j (by omega) hj
          rw [this]
          grind
      · (try dsimp only)
        unfold clr
        rw [if_neg (by omega)]
        by_cases q : j = c
        · rw [q, src]
          grind
        · have hjc : j < c := by omega
          rw [sr0 j hjc]
          have : swp G r b c i j = 0 := by
            unfold swp
            rw [if_neg (by omega)]
            by_cases q3 : i = b
            · rw [if_pos q3]
              exact hrz j hjc
            · rw [if_neg q3]
              exact h5 i j (by omega) hih hjc
          rw [this]
          grind
    · rw [if_neg e]
      refine ⟨pv, h0, fun k hk => by have := h1 k hk; omega, h2, h3, h4, fun i j hi hih hj => ?_⟩
      (try dsimp only)
      by_cases q : j = c
      · rw [q]
        exact fst0_z G c (h - r) r i hi (by omega)
      · exact h5 i j hi hih (by omega)
/-- a sum of lines, told by its numbers in the steps' columns -/
theorem stp_sum [NeZero P] {h c r : Nat} {G : Mx P} {pv : Nat → Nat} (hs : stp h c r G pv) {y : Nat → Fin P} (hy : inSp h G y) {j : Nat} (hj : j < c) : y j = sF (fun k => y (pv k) * G k j) r := by
  obtain ⟨h0, h1, h2, h3, h4, h5⟩ := hs
  obtain ⟨e, he⟩ := hy
  have hk : ∀ k, k < r → y (pv k) = e k := by
    intro k hk
    rw [he]
    unfold cmb
    rw [sF_one (k := k) (by omega) (fun i hi hik => by rw [h3 k i hk hi, if_neg hik]; grind), h3 k k hk (by omega), if_pos rfl]
    grind
  rw [he j]
  unfold cmb
  rw [sF_cut (r := r) h0 (fun i a b => by rw [h5 i j a b hj]; grind)]
  exact sF_congr r (fun k hkr => by rw [hk k hkr])
end RREF
