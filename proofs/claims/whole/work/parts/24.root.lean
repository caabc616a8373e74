/-! SQUARE ROOTS, as the reference and the class take them -/
section ROOT
variable {P : Nat}
theorem pwa [NeZero P] (a : Fin P) (j k : Nat) : a ^ (j + k) = a ^ j * a ^ k := by grind
theorem pw2 [NeZero P] (a : Fin P) (k : Nat) : a ^ 2 ^ k * a ^ 2 ^ k = a ^ 2 ^ (k + 1) := by
  have : 2 ^ (k + 1) = 2 ^ k + 2 ^ k := by rw [Nat.pow_succ]; omega
  rw [this, pwa]
theorem pw2s [NeZero P] (a : Fin P) : ∀ k, (a * a) ^ 2 ^ k = a ^ 2 ^ (k + 1)
  | 0 => by
    show (a * a) ^ 1 = a ^ 2
    grind
  | k + 1 => by rw [← pw2 (a * a) k, pw2s a k, pw2]
theorem pwm [NeZero P] (a b : Fin P) : ∀ k : Nat, (a * b) ^ k = a ^ k * b ^ k
  | 0 => by grind
  | k + 1 => by
    have h := pwm a b k
    have e1 : (a * b) ^ (k + 1) = (a * b) ^ k * (a * b) := by grind
    have e2 : a ^ (k + 1) = a ^ k * a := by grind
    have e3 : b ^ (k + 1) = b ^ k * b := by grind
    rw [e1, e2, e3, h]
    grind
theorem pwpw [NeZero P] (a : Fin P) (j : Nat) : ∀ k : Nat, (a ^ j) ^ k = a ^ (j * k)
  | 0 => by
    rw [Nat.mul_zero]
    grind
  | k + 1 => by
    have h := pwpw a j k
    have e1 : (a ^ j) ^ (k + 1) = (a ^ j) ^ k * a ^ j := by grind
    rw [e1, h, Nat.mul_add, Nat.mul_one, pwa]
theorem neg1 [NeZero P] (hp : isP P) (ho : P % 2 = 1) : (1 : Fin P) ≠ -1 := by
  intro e
  apply two_ne hp ho
  have e2 : (2 : Fin P) = 1 + 1 := by grind
  grind
theorem lN1_ne [NeZero P] (hp : isP P) (hB : P < 2 ^ 31) {a : Fin P} (h : a ≠ 1) : ¬ fL a = 1 := fun q => h ((fL_1 hp.1 hB).mp q)
/-- P - 1 = 2 ^ t times an odd number -/
theorem odd_part : ∀ (n k : Nat), k < n → 0 < k → ∃ t q, k = 2 ^ t * q ∧ q % 2 = 1
  | 0, _, h, _ => by omega
  | n + 1, k, h, h0 => by
    rcases Nat.mod_two_eq_zero_or_one k with e | e
    · obtain ⟨t, q, h1, h2⟩ := odd_part n (k / 2) (by omega) (by omega)
      refine ⟨t + 1, q, ?_, h2⟩
      rw [Nat.pow_succ]
      have : k = 2 * (k / 2) := by omega
      rw [this, h1]
      grind
    · exact ⟨0, k, by simp, e⟩
theorem half_val (hP : 2 < P) (hB : P < 2 ^ 31) : (lN P - (1 : Int64)) / (2 : Int64) = lN ((P - 1) / 2) := by
  rw [show lN P - (1 : Int64) = lN (P - 1) from lN_sub (a := P) (b := 1) (by omega)]
  exact pk_lDiv (b := 2) (by omega) (by decide) (by decide)
theorem s_isSq [NeZero P] (hp : isP P) (hB : P < 2 ^ 31) (a : Fin P) : m_isSquare (lN P) (fL a) = some (if a = 0 ∨ a ^ ((P - 1) / 2) = 1 then 1 else 0) := by
  unfold m_isSquare
  by_cases h : a = 0
  · rw [if_pos ((fL_0 hB).mpr h), if_pos (Or.inl h)]
  · rw [if_neg (fun q => h ((fL_0 hB).mp q)), half_val hp.1 hB, s_power hp.1 hB a (by omega), Option.bind_some]
    by_cases h2 : a ^ ((P - 1) / 2) = 1
    · rw [if_pos ((fL_1 hp.1 hB).mpr h2), if_pos (Or.inr h2)]
    · rw [if_neg (lN1_ne hp hB h2), if_neg (fun q => q.elim h h2)]
/-- the least number from 2 on that is no square -/
theorem least_non [NeZero P] (hp : isP P) (ho : P % 2 = 1) : ∃ z, 2 ≤ z ∧ z < P ∧ Fin.ofNat P z ^ ((P - 1) / 2) = -1 ∧ ∀ y, 2 ≤ y → y < z → Fin.ofNat P y ^ ((P - 1) / 2) = 1 := by
  have h2 := hp.1
  have eul : ∀ a : Fin P, a ≠ 0 → a ^ ((P - 1) / 2) = 1 ∨ a ^ ((P - 1) / 2) = -1 := by
    intro a ha
    apply sq_one hp
    have e : (P - 1) / 2 + (P - 1) / 2 = P - 1 := by omega
    rw [← pwa, e, fermat_1 hp ha]
  have ne0 : ∀ y, 1 ≤ y → y < P → Fin.ofNat P y ≠ 0 := by
    intro y h1 h3 q
    have := congrArg Fin.val q
    simp [Fin.ofNat, Nat.mod_eq_of_lt h3] at this
    omega
  obtain ⟨z, h1, h3, h4⟩ := some_non hp (m := (P - 1) / 2) (by omega) (by omega)
  have hz : 2 ≤ z := by
    rcases Nat.lt_or_ge z 2 with q | q
    · exfalso
      apply h4
      have : z = 1 := by omega
      subst this
      have e : Fin.ofNat P 1 = 1 := rfl
      rw [e]
      have : ∀ k : Nat, (1 : Fin P) ^ k = 1 := by
        intro k
        induction k with
        | zero => grind
        | succ k ih => grind
      exact this _
    · exact q
  obtain ⟨w, ⟨hw1, hw2, hw3⟩, hw4⟩ := pk_least (fun z => 2 ≤ z ∧ z < P ∧ Fin.ofNat P z ^ ((P - 1) / 2) ≠ 1) ⟨z, hz, by omega, h4⟩
  refine ⟨w, hw1, hw2, (eul _ (ne0 w (by omega) hw2)).resolve_left hw3, fun y hy1 hy2 => ?_⟩
  exact Classical.byContradiction (fun q => hw4 y hy2 ⟨hy1, by omega, q⟩)
theorem fL_ofNat [NeZero P] {z : Nat} (hz : z < P) : fL (Fin.ofNat P z) = lN z := by
  unfold fL
  simp [Fin.ofNat, Nat.mod_eq_of_lt hz]
theorem s_find [NeZero P] (hp : isP P) (hB : P < 2 ^ 31) {z : Nat} (hz : z < P) (h : Fin.ofNat P z ^ ((P - 1) / 2) ≠ 1) (h0 : Fin.ofNat P z ≠ 0) (hl : ∀ y, 2 ≤ y → y < z → Fin.ofNat P y ^ ((P - 1) / 2) = 1) : ∀ (n y : Nat), z - y < n → 2 ≤ y → y ≤ z → itX (m_rootOf_L45 (lN P)) (lN y) = some (lN z)
  | 0, y, h1, _, _ => by omega
  | n + 1, y, h1, h2, h3 => by
    have e := s_isSq hp hB (Fin.ofNat P y)
    rw [fL_ofNat (by omega)] at e
    by_cases hy : y = z
    · subst hy
      apply itX_stop
      unfold m_rootOf_L45
      rw [if_neg (fun q => q.elim h0 h)] at e
      rw [e, Option.bind_some, if_pos rfl]
    · rw [itX_step (s' := lN (y + 1))]
      · exact s_find hp hB hz h h0 hl n (y + 1) (by omega) (by omega) (by omega)
      · unfold m_rootOf_L45
        rw [if_pos (Or.inr (hl y h2 (by omega)))] at e
        rw [e, Option.bind_some, if_neg (by decide), lN_1]
theorem t_find [NeZero P] (hp : isP P) (hB : P < 2 ^ 31) {hp1 : cH} {o : Nat} (hF : gJ hp1 o 0 0 = some (lN P)) (hO : isO hp1 o 0 = true) {z : Nat} (hz : z < P) (h : Fin.ofNat P z ^ ((P - 1) / 2) ≠ 1) (hl : ∀ y, 2 ≤ y → y < z → Fin.ofNat P y ^ ((P - 1) / 2) = 1) : ∀ (n y : Nat), z - y < n → 2 ≤ y → y ≤ z → itX (f_X0_leastNonSquare_L4 hp1 o) (lN y) = some (.inr (lN z))
  | 0, y, h1, _, _ => by omega
  | n + 1, y, h1, h2, h3 => by
    have hle : ¬ lN P ≤ lN y := by rw [lN_le hB (by omega)]; omega
    have e := t_power hp.1 hB hF (Fin.ofNat P y) (k := (P - 1) / 2) (by omega)
    rw [fL_ofNat (by omega)] at e
    by_cases hy : y = z
    · subst hy
      apply itX_stop
      unfold f_X0_leastNonSquare_L4
      rw [hF, Option.bind_some, if_neg hle, Option.bind_some, if_pos hO, half_val hp.1 hB, e, Option.bind_some, if_neg (lN1_ne hp hB h)]
    · rw [itX_step (s' := lN (y + 1))]
      · exact t_find hp hB hF hO hz h hl n (y + 1) (by omega) (by omega) (by omega)
      · unfold f_X0_leastNonSquare_L4
        rw [hF, Option.bind_some, if_neg hle, Option.bind_some, if_pos hO, half_val hp.1 hB, e, Option.bind_some, if_pos ((fL_1 hp.1 hB).mpr (hl y h2 (by omega))), lN_1]
/-- both strip the twos -/
theorem s_twos {q : Nat} (hq : q % 2 = 1) : ∀ (t j : Nat), 2 ^ t * q < 2 ^ 31 → itX m_rootOf_L18 (lN (2 ^ t * q), nI j) = some (lN q, nI (j + t))
  | 0, j, h => by
    rw [Nat.pow_zero, Nat.one_mul] at h ⊢
    apply itX_stop
    unfold m_rootOf_L18
    dsimp only
    rw [show lN q - lN q / (2 : Int64) * (2 : Int64) = lN (q % 2) from pk_lRem (b := 2) (by omega) (by decide) (by decide), hq, if_neg (by decide)]
    rfl
  | t + 1, j, h => by
    have e : 2 ^ (t + 1) * q = 2 * (2 ^ t * q) := by rw [Nat.pow_succ]; grind
    have hh : 2 ^ t * q < 2 ^ 31 := by rw [e] at h; omega
    rw [itX_step (s' := (lN (2 ^ t * q), nI (j + 1)))]
    · rw [s_twos hq t (j + 1) hh]
      congr 3
      omega
    · unfold m_rootOf_L18
      dsimp only
      rw [e, show lN (2 * (2 ^ t * q)) - lN (2 * (2 ^ t * q)) / (2 : Int64) * (2 : Int64) = lN (2 * (2 ^ t * q) % 2) from pk_lRem (b := 2) (by omega) (by decide) (by decide), show 2 * (2 ^ t * q) % 2 = 0 by omega, if_pos lN_0,
        show lN (2 * (2 ^ t * q)) / (2 : Int64) = lN (2 * (2 ^ t * q) / 2) from pk_lDiv (b := 2) (by omega) (by decide) (by decide), show 2 * (2 ^ t * q) / 2 = 2 ^ t * q by omega, nI_1]
theorem t_twos {q : Nat} (hq : q % 2 = 1) : ∀ (t j : Nat), 2 ^ t * q < 2 ^ 31 → j + t < 32 → itX (fun s => f_X0_squareRoot_L42 s.1 s.2) (nI j, lN (2 ^ t * q)) = some (nI (j + t), lN q)
  | 0, j, h, hj => by
    rw [Nat.pow_zero, Nat.one_mul] at h ⊢
    apply itX_stop
    unfold f_X0_squareRoot_L42
    dsimp only
    rw [if_neg (show ¬ (32 : Int32) ≤ nI j from nI_ge (b := 32) (by omega) (by decide)), show lN q - lN q / (2 : Int64) * (2 : Int64) = lN (q % 2) from pk_lRem (b := 2) (by omega) (by decide) (by decide), hq, if_neg (by decide)]
    rfl
  | t + 1, j, h, hj => by
    have e : 2 ^ (t + 1) * q = 2 * (2 ^ t * q) := by rw [Nat.pow_succ]; grind
    have hh : 2 ^ t * q < 2 ^ 31 := by rw [e] at h; omega
    rw [itX_step (s' := (nI (j + 1), lN (2 ^ t * q)))]
    · rw [t_twos hq t (j + 1) hh (by omega)]
      congr 3
      omega
    · unfold f_X0_squareRoot_L42
      dsimp only
      rw [if_neg (show ¬ (32 : Int32) ≤ nI j from nI_ge (b := 32) (by omega) (by decide)), e, show lN (2 * (2 ^ t * q)) - lN (2 * (2 ^ t * q)) / (2 : Int64) * (2 : Int64) = lN (2 * (2 ^ t * q) % 2) from pk_lRem (b := 2) (by omega) (by decide) (by decide), show 2 * (2 ^ t * q) % 2 = 0 by omega, if_pos lN_0,
        show lN (2 * (2 ^ t * q)) / (2 : Int64) = lN (2 * (2 ^ t * q) / 2) from pk_lDiv (b := 2) (by omega) (by decide) (by decide), show 2 * (2 ^ t * q) / 2 = 2 ^ t * q by omega, nI_1]
/-- the reference's inner loops -/
theorem s_ord [NeZero P] (hp : isP P) (hB : P < 2 ^ 31) (t : Fin P) {i : Nat} (hi : t ^ 2 ^ i = 1) (hl : ∀ j, j < i → t ^ 2 ^ j ≠ 1) : ∀ (n j : Nat), i - j < n → j ≤ i → itX (m_rootOf_L112 (lN P)) (nI j, fL (t ^ 2 ^ j)) = some (nI i)
  | 0, j, h, _ => by omega
  | n + 1, j, h, h2 => by
    by_cases e : j = i
    · subst e
      apply itX_stop
      unfold m_rootOf_L112
      dsimp only
      rw [if_pos ((fL_1 hp.1 hB).mpr hi)]
    · rw [itX_step (s' := (nI (j + 1), fL (t ^ 2 ^ (j + 1))))]
      · exact s_ord hp hB t hi hl n (j + 1) (by omega) (by omega)
      · unfold m_rootOf_L112
        dsimp only
        rw [if_neg (lN1_ne hp hB (hl j (by omega))), s_times hp.1 hB, Option.bind_some, pw2, nI_1]
theorem s_sqs [NeZero P] (hp : isP P) (hB : P < 2 ^ 31) (c : Fin P) {m i : Nat} (hm : i < m) (hm2 : m < 2 ^ 30) : ∀ (n k : Nat), m - i - 1 - k < n → k ≤ m - i - 1 → itX (m_rootOf_L142 (lN P) (nI m) (nI i)) (fL (c ^ 2 ^ k), nI k) = some (fL (c ^ 2 ^ (m - i - 1)))
  | 0, k, h, _ => by omega
  | n + 1, k, h, h2 => by
    have e1 : nI m - nI i - (1 : Int32) = nI (m - i - 1) := by
      rw [pk_sub (by omega)]
      exact pk_sub (b := 1) (by omega)
    by_cases e : k = m - i - 1
    · rw [← e]
      apply itX_stop
      unfold m_rootOf_L142
      dsimp only
      rw [e1, ← e, if_pos (nI_le (Nat.le_refl k) (by omega))]
    · rw [itX_step (s' := (fL (c ^ 2 ^ (k + 1)), nI (k + 1)))]
      · exact s_sqs hp hB c hm hm2 n (k + 1) (by omega) (by omega)
      · unfold m_rootOf_L142
        dsimp only
        rw [e1, if_neg (nI_ge (by omega) (by omega)), s_times hp.1 hB, Option.bind_some, pw2, nI_1]
/-- the reference's main loop -/
theorem s_main [NeZero P] (hp : isP P) (ho : P % 2 = 1) (hB : P < 2 ^ 31) (v : Fin P) : ∀ (n m : Nat) (c r t : Fin P), m < n → 1 ≤ m → m < 2 ^ 30 → r * r = v * t → c ^ 2 ^ (m - 1) = -1 → t ^ 2 ^ (m - 1) = 1 → ∃ w : Fin P, w * w = v ∧ itX (m_rootOf_L98 (lN P)) (fL c, fL r, fL t, nI m) = some (fL w)
  | 0, m, _, _, _, h, _, _, _, _, _ => by omega
  | n + 1, m, c, r, t, h, h1, h2, hr, hc, ht => by
    by_cases e : t = 1
    · refine ⟨r, by rw [hr, e]; grind, ?_⟩
      apply itX_stop
      unfold m_rootOf_L98
      dsimp only
      rw [if_pos ((fL_1 hp.1 hB).mpr e)]
    · obtain ⟨i, hi, hl⟩ := pk_least (fun i => t ^ 2 ^ i = 1) ⟨m - 1, ht⟩
      have him : i ≤ m - 1 := by
        rcases Nat.lt_or_ge (m - 1) i with q | q
        · exact absurd ht (hl (m - 1) q)
        · exact q
      have hi0 : i ≠ 0 := by
        intro q
        subst q
        apply e
        have : t ^ 2 ^ 0 = t := by
          show t ^ 1 = t
          grind
        rw [← this]
        exact hi
      have hb : (c ^ 2 ^ (m - i - 1)) ^ 2 ^ i = -1 := by
        rw [pwpw, ← Nat.pow_add, show m - i - 1 + i = m - 1 by omega, hc]
      have ht1 : t ^ 2 ^ (i - 1) = -1 := by
        have hs : t ^ 2 ^ (i - 1) * t ^ 2 ^ (i - 1) = 1 := by
          rw [pw2, show i - 1 + 1 = i by omega, hi]
        exact (sq_one hp hs).resolve_left (hl (i - 1) (by omega))
      generalize hbe : c ^ 2 ^ (m - i - 1) = b at hb
      have hbb : (b * b) ^ 2 ^ (i - 1) = -1 := by
        rw [pw2s, show i - 1 + 1 = i by omega, hb]
      obtain ⟨w, hw1, hw2⟩ := s_main hp ho hB v n i (b * b) (r * b) (t * (b * b)) (by omega) (by omega) (by omega) (by grind) hbb (by rw [pwm, ht1, hbb]; grind)
      refine ⟨w, hw1, ?_⟩
      rw [itX_step (s' := (fL (b * b), fL (r * b), fL (t * (b * b)), nI i))]
      · exact hw2
      · unfold m_rootOf_L98
        dsimp only
        have o1 := s_ord hp hB t hi hl (i + 1) 0 (by omega) (by omega)
        have t1 : t ^ 2 ^ 0 = t := by
          show t ^ 1 = t
          grind
        have c1 : c ^ 2 ^ 0 = c := by
          show c ^ 1 = c
          grind
        rw [t1, nI_0] at o1
        have o2 := s_sqs hp hB c (m := m) (i := i) (by omega) h2 (m + 1) 0 (by omega) (by omega)
        rw [c1, nI_0, hbe] at o2
        rw [if_neg (lN1_ne hp hB e), o1, Option.bind_some, o2, Option.bind_some, s_times hp.1 hB, Option.bind_some, s_times hp.1 hB, Option.bind_some, s_times hp.1 hB, Option.bind_some]
/-- the class's loop -/
theorem t_main [NeZero P] (hp : isP P) (ho : P % 2 = 1) (hB : P < 2 ^ 31) {hp1 : cH} {o : Nat} (hF : gJ hp1 o 0 0 = some (lN P)) (hO : isO hp1 o 0 = true) (v : Fin P) : ∀ (s : Nat) (r e d : Fin P), s < 32 → r * r = v * e → e ^ 2 ^ s = 1 → d ^ 2 ^ s = -1 → ∃ w : Fin P, w * w = v ∧ itX (fun s => f_X0_squareRoot_L114 hp1 o s.1 s.2.1 s.2.2.1 s.2.2.2) (fL r, fL e, fL d, nI s) = some (fL w)
  | 0, r, e, d, _, hr, he, _ => by
    refine ⟨r, ?_, ?_⟩
    · have : e ^ 2 ^ 0 = e := by
        show e ^ 1 = e
        grind
      rw [this] at he
      rw [hr, he]
      grind
    · apply itX_stop
      unfold f_X0_squareRoot_L114
      dsimp only
      rw [if_pos (by decide)]
  | s + 1, r, e, d, hs, hr, he, hd => by
    have hsh : ((1 : Int64)) <<< ((nI (s + 1) - ((1 : Int32))).toInt64 &&& 63) = lN (2 ^ s) := by
      rw [show nI (s + 1) - (1 : Int32) = nI s from nI_pred s]
      have := wb_shl 1 (k := s) (by omega)
      rw [Nat.one_mul] at this
      exact this
    have h62 : 2 ^ s < 2 ^ 62 := Nat.pow_lt_pow_right (by decide) (by omega)
    have hpos : ¬ nI (s + 1) ≤ 0 := nI_nle (by omega) (by omega)
    have hdd : (d * d) ^ 2 ^ s = -1 := by rw [pw2s, hd]
    have hm1 : nI (s + 1) + (-1) = nI s := pk_m1 s
    by_cases hx : e ^ 2 ^ s = 1
    · obtain ⟨w, hw1, hw2⟩ := t_main hp ho hB hF hO v s r e (d * d) (by omega) hr hx hdd
      refine ⟨w, hw1, ?_⟩
      rw [itX_step (s' := (fL r, fL e, fL (d * d), nI s))]
      · exact hw2
      · unfold f_X0_squareRoot_L114 f_X0_squareRoot_L114J166
        dsimp only
        rw [if_neg hpos, if_pos hO, t_times hp.1 hB hF, Option.bind_some, hsh, t_power hp.1 hB hF e h62, Option.bind_some, if_pos ((fL_1 hp.1 hB).mpr hx), hm1]
    · have hx1 : e ^ 2 ^ s = -1 := by
        have hs : e ^ 2 ^ s * e ^ 2 ^ s = 1 := by rw [pw2, he]
        exact (sq_one hp hs).resolve_left hx
      obtain ⟨w, hw1, hw2⟩ := t_main hp ho hB hF hO v s (r * d) (e * (d * d)) (d * d) (by omega) (by grind) (by rw [pwm, hx1, hdd]; grind) hdd
      refine ⟨w, hw1, ?_⟩
      rw [itX_step (s' := (fL (r * d), fL (e * (d * d)), fL (d * d), nI s))]
      · exact hw2
      · unfold f_X0_squareRoot_L114 f_X0_squareRoot_L114J166
        dsimp only
        rw [if_neg hpos, if_pos hO, t_times hp.1 hB hF, Option.bind_some, hsh, t_power hp.1 hB hF e h62, Option.bind_some, if_neg (lN1_ne hp hB hx), t_times hp.1 hB hF, Option.bind_some, t_times hp.1 hB hF, Option.bind_some, hm1]
/-- the lesser of a root and its negative -/
theorem fL_min [NeZero P] (hB : P < 2 ^ 31) (w : Fin P) (hw : w ≠ 0) : ∃ u : Fin P, u * u = w * w ∧ 2 * u.val ≤ P ∧ u ≠ 0 ∧ (if (lN P - fL w) < fL w then some (lN P - fL w) else some (fL w)) = some (fL u) ∧ f_J9_min_f86c9 (fL w) (lN P - fL w) = some (fL u) := by
  have e := n_neg hB w hw
  have hv := fneg_val w hw
  have hlt := w.isLt
  have hne : (-w) ≠ 0 := fun q => hw (by grind)
  unfold f_J9_min_f86c9
  rw [e]
  by_cases h : fL (-w) < fL w
  · refine ⟨-w, by grind, ?_, hne, by rw [if_pos h], by rw [if_pos h]⟩
    rw [fL_less hB] at h
    omega
  · refine ⟨w, rfl, ?_, hw, by rw [if_neg h], by rw [if_neg h]⟩
    rw [fL_less hB] at h
    omega
theorem min_uniq [NeZero P] (hp : isP P) (ho : P % 2 = 1) {u w : Fin P} (h : u * u = w * w) (hu : 2 * u.val ≤ P) (hw : 2 * w.val ≤ P) : u = w := by
  rcases sq_eq hp h with e | e
  · exact e
  · by_cases h0 : w = 0
    · rw [h0] at e
      grind
    · have hv := fneg_val w h0
      rw [← e] at hv
      have : w.val ≠ 0 := fun q => h0 (Fin.ext (by simpa using q))
      omega
/-- both take the same root -/
theorem root_both [NeZero P] (hp : isP P) (ho : P % 2 = 1) (hB : P < 2 ^ 31) {hp1 : cH} {o : Nat} (hF : gJ hp1 o 0 0 = some (lN P)) (hO : isO hp1 o 0 = true) (v : Fin P) (hv : v = 0 ∨ v ^ ((P - 1) / 2) = 1) : ∃ w : Fin P, w * w = v ∧ 2 * w.val ≤ P ∧ m_rootOf (lN P) (fL v) = some (fL w) ∧ f_X0_squareRoot hp1 o (fL v) = some (fL w) := by
  have hP := hp.1
  by_cases h0 : v = 0
  · subst h0
    refine ⟨0, by grind, by simp, ?_, ?_⟩
    · unfold m_rootOf
      rw [if_pos fL_z, fL_z]
    · unfold f_X0_squareRoot
      rw [if_pos fL_z, fL_z]
  · have hv1 := hv.resolve_left h0
    obtain ⟨t, q, ht, hq⟩ := odd_part P (P - 1) (by omega) (by omega)
    have ht1 : 1 ≤ t := by
      rcases Nat.eq_zero_or_pos t with e | e
      · subst e
        rw [Nat.pow_zero, Nat.one_mul] at ht
        omega
      · exact e
    have htb : t < 31 := by
      rcases Nat.lt_or_ge t 31 with e | e
      · exact e
      · have h1 : 2 ^ 31 ≤ 2 ^ t := Nat.pow_le_pow_right (by decide) e
        have h2 : 2 ^ t * 1 ≤ 2 ^ t * q := Nat.mul_le_mul (Nat.le_refl _) (by omega)
        omega
    have hqP : q < P := by
      have : 1 * q ≤ 2 ^ t * q := Nat.mul_le_mul (Nat.pow_pos (by decide)) (Nat.le_refl q)
      omega
    have hhalf : (P - 1) / 2 = 2 ^ (t - 1) * q := by
      have : 2 ^ t = 2 * 2 ^ (t - 1) := by
        have e : t = (t - 1) + 1 := by omega
        rw [e, Nat.pow_succ, Nat.add_sub_cancel, Nat.mul_comm]
      rw [ht, this, Nat.mul_assoc]
      omega
    obtain ⟨z, hz1, hz2, hz3, hz4⟩ := least_non hp ho
    have hzn : Fin.ofNat P z ^ ((P - 1) / 2) ≠ 1 := by
      rw [hz3]
      exact fun e => neg1 hp ho e.symm
    have hz0 : Fin.ofNat P z ≠ 0 := by
      intro e
      have := congrArg Fin.val e
      simp [Fin.ofNat, Nat.mod_eq_of_lt hz2] at this
      omega
    -- the invariants at the start
    have i1 : v ^ ((q + 1) / 2) * v ^ ((q + 1) / 2) = v * v ^ q := by
      rw [← pwa, show (q + 1) / 2 + (q + 1) / 2 = 1 + q by omega, pwa]
      congr 1
      grind
    have i2 : (v ^ q) ^ 2 ^ (t - 1) = 1 := by rw [pwpw, Nat.mul_comm, ← hhalf, hv1]
    have i3 : (Fin.ofNat P z ^ q) ^ 2 ^ (t - 1) = -1 := by rw [pwpw, Nat.mul_comm, ← hhalf, hz3]
    have hPm : lN P - (1 : Int64) = lN (P - 1) := lN_sub (a := P) (b := 1) (by omega)
    have hq1 : (lN q + (1 : Int64)) / (2 : Int64) = lN ((q + 1) / 2) := by
      rw [lN_1]
      exact pk_lDiv (b := 2) (by omega) (by decide) (by decide)
    obtain ⟨w1, hw1, hw1s⟩ := s_main hp ho hB v (t + 1) t (Fin.ofNat P z ^ q) (v ^ ((q + 1) / 2)) (v ^ q) (by omega) ht1 (by omega) i1 i3 i2
    obtain ⟨w2, hw2, hw2s⟩ := t_main hp ho hB hF hO v (t - 1) (v ^ ((q + 1) / 2)) (v ^ q) (Fin.ofNat P z ^ q) (by omega) i1 i2 i3
    have n1 : w1 ≠ 0 := fun e => h0 (by rw [← hw1, e]; grind)
    have n2 : w2 ≠ 0 := fun e => h0 (by rw [← hw2, e]; grind)
    obtain ⟨u1, a1, a2, a3, a4, -⟩ := fL_min hB w1 n1
    obtain ⟨u2, b1, b2, b3, -, b5⟩ := fL_min hB w2 n2
    have hu : u1 = u2 := min_uniq hp ho (by rw [a1, b1, hw1, hw2]) a2 b2
    refine ⟨u1, by rw [a1, hw1], a2, ?_, ?_⟩
    · unfold m_rootOf
      have hs := s_twos hq t 0 (by omega)
      rw [← ht, nI_0, Nat.zero_add] at hs
      have hf := s_find hp hB hz2 hzn hz0 hz4 (z + 1) 2 (by omega) (by omega) hz1
      have hzp := s_power hP hB (Fin.ofNat P z) (k := q) (by omega)
      rw [fL_ofNat hz2] at hzp
      rw [if_neg (fun e => h0 ((fL_0 hB).mp e)), hPm, hs, Option.bind_some, show (2 : Int64) = lN 2 from rfl, hf, Option.bind_some]
      dsimp only
      rw [hzp, Option.bind_some, show lN 2 = (2 : Int64) from rfl, hq1, s_power hP hB v (by omega), Option.bind_some, s_power hP hB v (by omega), Option.bind_some, hw1s, Option.bind_some]
      exact a4
    · unfold f_X0_squareRoot f_X0_squareRoot_J73 f_X0_leastNonSquare
      have hs := t_twos hq t 0 (by omega) (by omega)
      rw [← ht, nI_0, Nat.zero_add] at hs
      have hf := t_find hp hB hF hO hz2 hzn hz4 (z + 1) 2 (by omega) (by omega) hz1
      have hzp := t_power hP hB hF (Fin.ofNat P z) (k := q) (by omega)
      rw [fL_ofNat hz2] at hzp
      have hvp := t_power hP hB hF v (k := (P - 1) / 2) (by omega)
      rw [if_neg (fun e => h0 ((fL_0 hB).mp e)), hF, Option.bind_some, if_pos hO, half_val hP hB, hvp, Option.bind_some, if_pos ((fL_1 hP hB).mpr hv1), Option.bind_some, hPm, hs, Option.bind_some]
      dsimp only
      rw [if_pos hO, hq1, t_power hP hB hF v (by omega), Option.bind_some, t_power hP hB hF v (by omega), Option.bind_some, show (2 : Int64) = lN 2 from rfl, hf, Option.bind_some]
      dsimp only
      rw [Option.bind_some, hzp, Option.bind_some, show nI t - (1 : Int32) = nI (t - 1) from pk_sub (b := 1) ht1, hw2s, Option.bind_some, Option.bind_some, b5, Option.bind_some, hu]
theorem root_none [NeZero P] (hp : isP P) (hB : P < 2 ^ 31) {hp1 : cH} {o : Nat} (hF : gJ hp1 o 0 0 = some (lN P)) (hO : isO hp1 o 0 = true) (v : Fin P) (h0 : v ≠ 0) (hv : v ^ ((P - 1) / 2) ≠ 1) : f_X0_squareRoot hp1 o (fL v) = some (-1) := by
  unfold f_X0_squareRoot
  have hvp := t_power hp.1 hB hF v (k := (P - 1) / 2) (by omega)
  rw [if_neg (fun e => h0 ((fL_0 hB).mp e)), hF, Option.bind_some, if_pos hO, half_val hp.1 hB, hvp, Option.bind_some, if_neg (lN1_ne hp hB hv)]
end ROOT
