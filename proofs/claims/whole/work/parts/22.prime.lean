/-! WHICH NUMBERS ARE ODD PRIMES, as the reference and the class tell it -/
def hasD (P k : Nat) : Prop := ∃ d, k ≤ d ∧ d % 2 = 1 ∧ d * d ≤ P ∧ d ∣ P
theorem hasD_stop {P k : Nat} (h : P < k * k) : ¬ hasD P k := by
  rintro ⟨d, h1, -, h2, -⟩
  have : k * k ≤ d * d := Nat.mul_le_mul h1 h1
  omega
theorem hasD_step {P k : Nat} (hk : k % 2 = 1) (h : ¬ k ∣ P) : hasD P k ↔ hasD P (k + 2) := by
  constructor
  · rintro ⟨d, h1, h2, h3, h4⟩
    refine ⟨d, ?_, h2, h3, h4⟩
    have : d ≠ k := fun e => h (e ▸ h4)
    omega
  · rintro ⟨d, h1, h2, h3, h4⟩
    exact ⟨d, by omega, h2, h3, h4⟩
theorem hasD_isP {P : Nat} (h3 : 3 ≤ P) (ho : P % 2 = 1) : ¬ hasD P 3 ↔ isP P := by
  constructor
  · intro h
    refine ⟨by omega, fun d hd => ?_⟩
    obtain ⟨e, he⟩ := hd
    have hd0 : d % 2 = 1 := by
      rcases Nat.mod_two_eq_zero_or_one d with q | q
      · have : P % 2 = 0 := by rw [he, Nat.mul_mod, q]; simp
        omega
      · exact q
    have he0 : e % 2 = 1 := by
      rcases Nat.mod_two_eq_zero_or_one e with q | q
      · have : P % 2 = 0 := by rw [he, Nat.mul_mod, q]; simp
        omega
      · exact q
    by_cases d1 : d = 1
    · exact Or.inl d1
    · by_cases e1 : e = 1
      · right
        rw [he, e1, Nat.mul_one]
      · exfalso
        apply h
        rcases Nat.le_total d e with q | q
        · exact ⟨d, by omega, hd0, by rw [he]; exact Nat.mul_le_mul (Nat.le_refl d) q, ⟨e, he⟩⟩
        · exact ⟨e, by omega, he0, by rw [he]; exact Nat.mul_le_mul q (Nat.le_refl e), ⟨d, by rw [he, Nat.mul_comm]⟩⟩
  · rintro h ⟨d, h1, h2, h4, h5⟩
    rcases h.2 d h5 with q | q
    · omega
    · subst q
      have : 3 * d ≤ d * d := Nat.mul_le_mul h1 (Nat.le_refl d)
      omega
theorem sq_lt {k P : Nat} (h : k * k ≤ P) (hP : P < 2 ^ 31) : k < 46341 := by
  rcases Nat.lt_or_ge k 46341 with q | q
  · exact q
  · have : 46341 * 46341 ≤ k * k := Nat.mul_le_mul q q
    omega
theorem dvd_iff {k P : Nat} : P % k = 0 ↔ k ∣ P := ⟨Nat.dvd_of_mod_eq_zero, Nat.mod_eq_zero_of_dvd⟩
theorem s_isPrime_L {P : Nat} (hP : P < 2 ^ 31) : ∀ (n k : Nat), 46342 - k < n → 1 ≤ k → k % 2 = 1 → k < 46344 → (hasD P k → itX (m_isPrime_L21 (nI P)) (1, lN k) = some 0) ∧ (¬ hasD P k → itX (m_isPrime_L21 (nI P)) (1, lN k) = some 1) := by
  intro n
  induction n with
  | zero => intro k h; omega
  | succ n ih =>
    intro k hn hk1 hk2 hk3
    have e1 : (nI P).toInt64 = lN P := nI_l hP
    have e2 : lN k * lN k = lN (k * k) := lN_mul k k
    have hkk : k * k < 46344 * 46344 := Nat.mul_lt_mul'' hk3 hk3
    by_cases hs : P < k * k
    · have hst : itX (m_isPrime_L21 (nI P)) (1, lN k) = some 1 := by
        apply itX_stop
        unfold m_isPrime_L21
        dsimp only
        rw [if_neg (by decide), e1, e2, if_pos ((pk_lLT (by omega) (by omega)).mpr hs)]
      exact ⟨fun q => absurd q (hasD_stop hs), fun _ => hst⟩
    · have hk46 := sq_lt (k := k) (by omega) hP
      have hlt : ¬ lN P < lN (k * k) := fun q => hs ((pk_lLT (by omega) (by omega)).mp q)
      have hk0 : ¬ lN k = 0 := by rw [← lN_0, pk_lEQ (by omega) (by omega)]; omega
      have hrem : lN P - lN P / lN k * lN k = lN (P % k) := pk_lRem (by omega) (by omega) (by omega)
      have hadd : lN k + (2 : Int64) = lN (k + 2) := lN_add k 2
      by_cases hd : k ∣ P
      · have hst : itX (m_isPrime_L21 (nI P)) (1, lN k) = some 0 := by
          rw [itX_step (s' := (0, lN (k + 2)))]
          · apply itX_stop
            unfold m_isPrime_L21
            dsimp only
            rw [if_pos rfl]
          · unfold m_isPrime_L21
            dsimp only
            rw [if_neg (by decide), e1, e2, if_neg hlt, if_neg hk0, hrem, dvd_iff.mpr hd, if_pos lN_0, hadd]
        exact ⟨fun _ => hst, fun q => absurd ⟨k, Nat.le_refl k, hk2, by omega, hd⟩ q⟩
      · have hst : itX (m_isPrime_L21 (nI P)) (1, lN k) = itX (m_isPrime_L21 (nI P)) (1, lN (k + 2)) := by
          apply itX_step
          unfold m_isPrime_L21
          dsimp only
          have hm : ¬ lN (P % k) = 0 := by
            have := Nat.mod_lt P (show 0 < k by omega)
            rw [← lN_0, pk_lEQ (by omega) (by omega)]
            exact fun q => hd (dvd_iff.mp q)
          rw [if_neg (by decide), e1, e2, if_neg hlt, if_neg hk0, hrem, if_neg hm, hadd]
        rw [hst, hasD_step hk2 hd]
        exact ih (k + 2) (by omega) (by omega) (by omega) (by omega)
theorem t_isPrime_L {P : Nat} (hP : P < 2 ^ 31) : ∀ (n k : Nat), 46342 - k < n → 1 ≤ k → k % 2 = 1 → k < 46344 → (hasD P k → itX (f_X0_isOddPrime_L15 (nI P)) (nI k) = some (.inr 0)) ∧ (¬ hasD P k → itX (f_X0_isOddPrime_L15 (nI P)) (nI k) = some (.inl ())) := by
  intro n
  induction n with
  | zero => intro k h; omega
  | succ n ih =>
    intro k hn hk1 hk2 hk3
    have hk0 : ¬ nI k = 0 := nI_ne0 (by omega) (by omega)
    have hdiv : nI P / nI k = nI (P / k) := pk_div hP (by omega) (by omega)
    have hle : P / k ≤ P := Nat.div_le_self P k
    have hiff : P / k < k ↔ P < k * k := Nat.div_lt_iff_lt_mul (by omega)
    by_cases hs : P < k * k
    · have hst : itX (f_X0_isOddPrime_L15 (nI P)) (nI k) = some (.inl ()) := by
        apply itX_stop
        unfold f_X0_isOddPrime_L15
        rw [if_neg hk0, hdiv, if_pos ((nI_ltI (by omega) (by omega)).mpr (hiff.mpr hs))]
      exact ⟨fun q => absurd q (hasD_stop hs), fun _ => hst⟩
    · have hk46 := sq_lt (k := k) (by omega) hP
      have hlt : ¬ nI (P / k) < nI k := fun q => hs (hiff.mp ((nI_ltI (by omega) (by omega)).mp q))
      have hrem : nI P - nI (P / k) * nI k = nI (P % k) := by
        rw [← hdiv]
        exact pk_rem hP (by omega) (by omega)
      have hadd : nI k + (2 : Int32) = nI (k + 2) := nI_add k 2
      by_cases hd : k ∣ P
      · have hst : itX (f_X0_isOddPrime_L15 (nI P)) (nI k) = some (.inr 0) := by
          apply itX_stop
          unfold f_X0_isOddPrime_L15
          rw [if_neg hk0, hdiv, if_neg hlt, if_neg hk0, hrem, dvd_iff.mpr hd, if_pos nI_0]
        exact ⟨fun _ => hst, fun q => absurd ⟨k, Nat.le_refl k, hk2, by omega, hd⟩ q⟩
      · have hst : itX (f_X0_isOddPrime_L15 (nI P)) (nI k) = itX (f_X0_isOddPrime_L15 (nI P)) (nI (k + 2)) := by
          apply itX_step
          unfold f_X0_isOddPrime_L15
          have hm : ¬ nI (P % k) = 0 := by
            have := Nat.mod_lt P (show 0 < k by omega)
            rw [← nI_0, nI_eq (by omega) (by omega)]
            exact fun q => hd (dvd_iff.mp q)
          rw [if_neg hk0, hdiv, if_neg hlt, if_neg hk0, hrem, if_neg hm, hadd]
        rw [hst, hasD_step hk2 hd]
        exact ih (k + 2) (by omega) (by omega) (by omega) (by omega)
/-- an int that is an odd prime -/
def okP (v : Int32) (P : Nat) : Prop := v = nI P ∧ P < 2 ^ 31 ∧ isP P ∧ P % 2 = 1
theorem prime_both (v : Int32) : (∃ P, okP v P ∧ m_isPrime v = some 1 ∧ f_X0_isOddPrime v = some 1) ∨ (m_isPrime v = some 0 ∧ f_X0_isOddPrime v = some 0) := by
  have j0 : m_isPrime_J15 v = some 0 := by
    unfold m_isPrime_J15
    rw [itX_stop (r := (0 : Int32)) (by unfold m_isPrime_L21; dsimp only; rw [if_pos rfl]), Option.bind_some, if_pos (Or.inl rfl)]
  by_cases h2 : v ≤ 2
  · right
    constructor
    · unfold m_isPrime
      rw [if_pos h2, j0]
    · unfold f_X0_isOddPrime
      rw [if_pos]
      have : v.toInt ≤ 2 := by simpa using Int32.le_iff_toInt_le.mp h2
      rw [Int32.lt_iff_toInt_lt]
      show v.toInt < 3
      omega
  · have hn : ¬ v < 0 := by
      intro q
      apply h2
      have : v.toInt < 0 := by simpa using Int32.lt_iff_toInt_lt.mp q
      rw [Int32.le_iff_toInt_le]
      show v.toInt ≤ 2
      omega
    obtain ⟨P, hP, rfl⟩ := nI_of hn
    have h3 : 3 ≤ P := by
      rcases Nat.lt_or_ge P 3 with q | q
      · exact absurd (nI_le (a := P) (b := 2) (by omega) (by decide)) h2
      · exact q
    have hrem : nI P - nI P / (2 : Int32) * (2 : Int32) = nI (P % 2) := pk_rem (d := 2) hP (by decide) (by decide)
    have hlt3 : ¬ nI P < (3 : Int32) := nI_nlt (b := 3) h3 hP
    have h2' : ¬ nI P ≤ (2 : Int32) := h2
    rcases Nat.mod_two_eq_zero_or_one P with e | e
    · right
      constructor
      · unfold m_isPrime
        rw [if_neg h2', hrem, e, if_pos nI_0, j0]
      · unfold f_X0_isOddPrime
        rw [if_neg hlt3, hrem, e, if_pos nI_0]
    · have hr1 : ¬ nI (P % 2) = 0 := by rw [e]; decide
      have hm := s_isPrime_L hP 46343 3 (by omega) (by omega) (by omega) (by omega)
      have ht := t_isPrime_L hP 46343 3 (by omega) (by omega) (by omega) (by omega)
      by_cases hh : hasD P 3
      · right
        constructor
        · unfold m_isPrime
          rw [if_neg h2', hrem, if_neg hr1, show ((1 : Int32), (3 : Int64)) = (1, lN 3) from rfl, hm.1 hh, Option.bind_some, if_pos (Or.inl rfl)]
        · unfold f_X0_isOddPrime
          rw [if_neg hlt3, hrem, if_neg hr1, show (3 : Int32) = nI 3 from rfl, ht.1 hh]
          rfl
      · left
        refine ⟨P, ⟨rfl, hP, (hasD_isP h3 e).mp hh, e⟩, ?_, ?_⟩
        · unfold m_isPrime
          rw [if_neg h2', hrem, if_neg hr1, show ((1 : Int32), (3 : Int64)) = (1, lN 3) from rfl, hm.2 hh, Option.bind_some, if_pos (Or.inr rfl)]
        · unfold f_X0_isOddPrime
          rw [if_neg hlt3, hrem, if_neg hr1, show (3 : Int32) = nI 3 from rfl, ht.2 hh]
          rfl
