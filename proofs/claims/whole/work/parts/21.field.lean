/-! THE FIELD: P a prime, Fermat, reciprocals, no divisors of 0 -/
def isP (P : Nat) : Prop := 2 < P ∧ ∀ d, d ∣ P → d = 1 ∨ d = P
theorem isP_cop {P a : Nat} (h : isP P) (ha : ¬ P ∣ a) : Nat.Coprime P a := by
  rcases h.2 (Nat.gcd P a) (Nat.gcd_dvd_left P a) with e | e
  · exact e
  · exact absurd (e ▸ Nat.gcd_dvd_right P a) ha
theorem isP_mul {P a b : Nat} (h : isP P) (hd : P ∣ a * b) : P ∣ a ∨ P ∣ b := by
  by_cases ha : P ∣ a
  · exact Or.inl ha
  · exact Or.inr ((isP_cop h ha).dvd_of_dvd_mul_left hd)
/-- sums -/
def sN (f : Nat → Nat) : Nat → Nat
  | 0 => 0
  | n + 1 => sN f n + f n
theorem sN_shift (f : Nat → Nat) : ∀ n, sN f (n + 1) = f 0 + sN (fun k => f (k + 1)) n
  | 0 => by simp [sN]
  | n + 1 => by
    show sN f (n + 1) + f (n + 1) = _
    rw [sN_shift f n]
    simp [sN, Nat.add_assoc]
theorem sN_add (f g : Nat → Nat) : ∀ n, sN (fun k => f k + g k) n = sN f n + sN g n
  | 0 => rfl
  | n + 1 => by simp only [sN, sN_add f g n]; omega
theorem sN_mul (c : Nat) (f : Nat → Nat) : ∀ n, sN (fun k => c * f k) n = c * sN f n
  | 0 => rfl
  | n + 1 => by simp only [sN, sN_mul c f n, Nat.mul_add]
theorem sN_congr {f g : Nat → Nat} : ∀ n, (∀ k, k < n → f k = g k) → sN f n = sN g n
  | 0, _ => rfl
  | n + 1, h => by simp only [sN]; rw [sN_congr n (fun k hk => h k (by omega)), h n (by omega)]
theorem sN_dvd {P : Nat} {f : Nat → Nat} : ∀ n, (∀ k, k < n → P ∣ f k) → P ∣ sN f n
  | 0, _ => ⟨0, rfl⟩
  | n + 1, h => Nat.dvd_add (sN_dvd n (fun k hk => h k (by omega))) (h n (by omega))
/-- how many ways -/
def bc : Nat → Nat → Nat
  | _, 0 => 1
  | 0, _ + 1 => 0
  | n + 1, k + 1 => bc n k + bc n (k + 1)
theorem bc_0 (n : Nat) : bc n 0 = 1 := by cases n <;> rfl
theorem bc_big : ∀ n k, n < k → bc n k = 0
  | 0, k + 1, _ => rfl
  | n + 1, k + 1, h => by
    show bc n k + bc n (k + 1) = 0
    rw [bc_big n k (by omega), bc_big n (k + 1) (by omega)]
theorem bc_self : ∀ n, bc n n = 1
  | 0 => rfl
  | n + 1 => by
    show bc n n + bc n (n + 1) = 1
    rw [bc_self n, bc_big n (n + 1) (by omega)]
theorem bc_mul : ∀ n k, (k + 1) * bc (n + 1) (k + 1) = (n + 1) * bc n k
  | 0, 0 => rfl
  | 0, k + 1 => by
    show (k + 2) * (bc 0 (k + 1) + bc 0 (k + 2)) = 1 * bc 0 (k + 1)
    simp [bc]
  | n + 1, 0 => by
    have := bc_mul n 0
    show 1 * (bc (n + 1) 0 + bc (n + 1) 1) = (n + 2) * bc (n + 1) 0
    simp only [bc_0] at this ⊢
    have e : bc (n + 1) (0 + 1) = bc (n + 1) 1 := rfl
    omega
  | n + 1, k + 1 => by
    have h1 := bc_mul n k
    have h2 := bc_mul n (k + 1)
    show (k + 2) * (bc (n + 1) (k + 1) + bc (n + 1) (k + 2)) = (n + 2) * bc (n + 1) (k + 1)
    have h3 : bc (n + 1) (k + 1) = bc n k + bc n (k + 1) := rfl
    generalize bc (n + 1) (k + 1) = A at *
    generalize bc (n + 1) (k + 2) = B at *
    generalize bc n k = C at *
    generalize bc n (k + 1) = D at *
    subst h3
    have e1 : (k + 1 + 1) * B = (n + 1) * D := h2
    grind
theorem binom (x : Nat) : ∀ n, (x + 1) ^ n = sN (fun k => bc n k * x ^ k) (n + 1)
  | 0 => by simp [sN, bc]
  | n + 1 => by
    have ih := binom x n
    rw [Nat.pow_succ, ih, sN_shift (fun k => bc (n + 1) k * x ^ k)]
    have e1 : sN (fun k => bc (n + 1) (k + 1) * x ^ (k + 1)) (n + 1) = sN (fun k => x * (bc n k * x ^ k)) (n + 1) + sN (fun k => bc n (k + 1) * x ^ (k + 1)) (n + 1) := by
      rw [← sN_add]
      apply sN_congr
      intro k _
      show (bc n k + bc n (k + 1)) * x ^ (k + 1) = _
      rw [Nat.pow_succ]
      grind
    have e2 : sN (fun k => bc n (k + 1) * x ^ (k + 1)) (n + 1) = sN (fun k => bc n (k + 1) * x ^ (k + 1)) n := by
      show sN _ n + bc n (n + 1) * _ = _
      rw [bc_big n (n + 1) (by omega)]
      omega
    have e3 : sN (fun k => bc n k * x ^ k) (n + 1) = 1 + sN (fun k => bc n (k + 1) * x ^ (k + 1)) n := by
      rw [sN_shift, bc_0]
      simp
    rw [e1, e2, sN_mul, bc_0]
    generalize sN (fun k => bc n (k + 1) * x ^ (k + 1)) n = U at *
    generalize sN (fun k => bc n k * x ^ k) (n + 1) = V at *
    subst e3
    simp
    grind
theorem fermat_s {P : Nat} (h : isP P) (x : Nat) : (x + 1) ^ P % P = (x ^ P + 1) % P := by
  obtain ⟨m, rfl⟩ : ∃ m, P = m + 2 := ⟨P - 2, by have := h.1; omega⟩
  rw [binom]
  show (sN (fun k => bc (m + 2) k * x ^ k) (m + 2) + bc (m + 2) (m + 2) * x ^ (m + 2)) % (m + 2) = _
  rw [sN_shift, bc_0, bc_self]
  have hd : (m + 2) ∣ sN (fun k => bc (m + 2) (k + 1) * x ^ (k + 1)) (m + 1) := by
    apply sN_dvd
    intro k hk
    have h1 := bc_mul (m + 1) k
    have h2 : (m + 2) ∣ (k + 1) * bc (m + 2) (k + 1) := ⟨bc (m + 1) k, h1⟩
    rcases isP_mul h h2 with h3 | h3
    · exact absurd (Nat.le_of_dvd (by omega) h3) (by omega)
    · exact Nat.dvd_trans h3 ⟨x ^ (k + 1), rfl⟩
  obtain ⟨q, hq⟩ := hd
  rw [hq]
  simp only [Nat.pow_zero, Nat.mul_one, Nat.one_mul]
  rw [show 1 + (m + 2) * q + x ^ (m + 2) = x ^ (m + 2) + 1 + (m + 2) * q by omega, Nat.add_mul_mod_self_left]
theorem fermat_n {P : Nat} (h : isP P) : ∀ x, x ^ P % P = x % P
  | 0 => by
    have := h.1
    rw [Nat.zero_pow (by omega)]
  | x + 1 => by
    rw [fermat_s h x, Nat.add_mod, fermat_n h x, ← Nat.add_mod]
section FIELD
variable {P : Nat}
theorem fpow_val [NeZero P] (a : Fin P) : ∀ k, (a ^ k).val = a.val ^ k % P
  | 0 => by
    show (1 : Fin P).val = 1 % P
    rfl
  | k + 1 => by
    have e : a ^ (k + 1) = a ^ k * a := by grind
    rw [e, Fin.val_mul, fpow_val a k, Nat.pow_succ, Nat.mod_mul_mod]
theorem fermat_f [NeZero P] (h : isP P) (a : Fin P) : a ^ P = a := by
  apply Fin.ext
  rw [fpow_val, fermat_n h, Nat.mod_eq_of_lt a.isLt]
/-- no divisors of 0 -/
theorem nz_mul [NeZero P] (h : isP P) {a b : Fin P} (e : a * b = 0) : a = 0 ∨ b = 0 := by
  have e2 : (a * b).val = 0 := by rw [e]; simp
  rw [Fin.val_mul] at e2
  rcases isP_mul h (Nat.dvd_of_mod_eq_zero e2) with q | q
  · left
    apply Fin.ext
    have := Nat.eq_zero_of_dvd_of_lt q a.isLt
    simpa using this
  · right
    apply Fin.ext
    have := Nat.eq_zero_of_dvd_of_lt q b.isLt
    simpa using this
theorem nz_prod [NeZero P] (h : isP P) {a b : Fin P} (ha : a ≠ 0) (hb : b ≠ 0) : a * b ≠ 0 := fun e => (nz_mul h e).elim ha hb
theorem fermat_1 [NeZero P] (h : isP P) {a : Fin P} (ha : a ≠ 0) : a ^ (P - 1) = 1 := by
  have h2 := h.1
  have e : a ^ P = a ^ (P - 1) * a := by
    have : P = (P - 1) + 1 := by omega
    have e2 : a ^ ((P - 1) + 1) = a ^ (P - 1) * a := by grind
    rw [← this] at e2
    exact e2
  have e3 := fermat_f h a
  rw [e] at e3
  have e4 : (a ^ (P - 1) - 1) * a = 0 := by grind
  rcases nz_mul h e4 with q | q
  · grind
  · exact absurd q ha
theorem fi_mul [NeZero P] (h : isP P) {a : Fin P} (ha : a ≠ 0) : a * fi a = 1 := by
  have h2 := h.1
  have e := fermat_1 h ha
  unfold fi
  have e2 : a ^ (P - 1) = a ^ (P - 2) * a := by
    have : P - 1 = (P - 2) + 1 := by omega
    rw [this]
    grind
  grind
theorem fi_ne [NeZero P] (h : isP P) {a : Fin P} (ha : a ≠ 0) : fi a ≠ 0 := by
  intro e
  have := fi_mul h ha
  rw [e] at this
  have h1 : (1 : Fin P) = 0 := by grind
  have h2 := congrArg Fin.val h1
  rw [f1_val h.1] at h2
  simp at h2
theorem one_ne [NeZero P] (h : isP P) : (1 : Fin P) ≠ 0 := by
  intro h1
  have h2 := congrArg Fin.val h1
  rw [f1_val h.1] at h2
  simp at h2
theorem fi_uniq [NeZero P] (h : isP P) {a b : Fin P} (e : a * b = 1) : b = fi a := by
  have ha : a ≠ 0 := by
    intro q
    rw [q] at e
    exact one_ne h (by grind)
  have := fi_mul h ha
  grind
/-- two is not 0 -/
theorem two_ne [NeZero P] (h : isP P) (hodd : P % 2 = 1) : (2 : Fin P) ≠ 0 := by
  intro e
  have h2 := congrArg Fin.val e
  have h3 : (2 : Fin P).val = 2 := by
    show 2 % P = 2
    exact Nat.mod_eq_of_lt (by have := h.1; omega)
  rw [h3] at h2
  simp at h2
theorem sq_one [NeZero P] (h : isP P) {a : Fin P} (e : a * a = 1) : a = 1 ∨ a = -1 := by
  have : (a - 1) * (a + 1) = 0 := by grind
  rcases nz_mul h this with q | q
  · left; grind
  · right; grind
theorem sq_eq [NeZero P] (h : isP P) {a b : Fin P} (e : a * a = b * b) : a = b ∨ a = -b := by
  have : (a - b) * (a + b) = 0 := by grind
  rcases nz_mul h this with q | q
  · left; grind
  · right; grind
end FIELD
