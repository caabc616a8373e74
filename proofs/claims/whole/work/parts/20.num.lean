theorem wb_tb (n : Nat) : (lN n).toBitVec = BitVec.ofNat 64 n := rfl
theorem wb_inj {a b : Int64} (h : a.toBitVec = b.toBitVec) : a = b := Int64.toBitVec_inj.mp h
theorem wb_tn {n : Nat} (h : n < 2 ^ 64) : (lN n).toBitVec.toNat = n := by rw [wb_tb, BitVec.toNat_ofNat, Nat.mod_eq_of_lt h]
theorem wb_c : ∀ k, k < 64 → ((nI k).toInt64 &&& 63) = lN k := by decide +kernel
theorem wb_sm : ∀ k, k < 64 → (BitVec.ofNat 64 k).smod 64 = BitVec.ofNat 64 k := by decide +kernel
theorem wb_pw {a b : Nat} (h : a ≤ b) : 2 ^ b = 2 ^ a * 2 ^ (b - a) := by rw [← Nat.pow_add]; congr 1; omega
theorem wb_lt2 {a b : Nat} (h : a < b) : 2 ^ a < 2 ^ b := Nat.pow_lt_pow_right (by decide) h
theorem wb_shl (n : Nat) {k : Nat} (hk : k < 64) : lN n <<< ((nI k).toInt64 &&& 63) = lN (n * 2 ^ k) := by
  rw [wb_c k hk]
  apply wb_inj
  rw [Int64.toBitVec_shiftLeft, wb_tb, wb_tb, wb_tb, wb_sm k hk]
  apply BitVec.eq_of_toNat_eq
  rw [BitVec.shiftLeft_eq', BitVec.toNat_shiftLeft, BitVec.toNat_ofNat, BitVec.toNat_ofNat, BitVec.toNat_ofNat, Nat.mod_eq_of_lt (show k < 2 ^ 64 by omega), Nat.shiftLeft_eq, Nat.mul_mod, Nat.mod_mod, ← Nat.mul_mod]
theorem wb_and {a b : Nat} (ha : a < 2 ^ 64) (hb : b < 2 ^ 64) : lN a &&& lN b = lN (a &&& b) := by
  apply wb_inj
  rw [Int64.toBitVec_and, wb_tb, wb_tb, wb_tb]
  apply BitVec.eq_of_toNat_eq
  rw [BitVec.toNat_and, BitVec.toNat_ofNat, BitVec.toNat_ofNat, BitVec.toNat_ofNat, Nat.mod_eq_of_lt ha, Nat.mod_eq_of_lt hb, Nat.mod_eq_of_lt (Nat.and_lt_two_pow _ hb)]
theorem wb_mask {n k : Nat} (hn : n < 2 ^ 64) (hk : k < 64) : lN n &&& lN (2 ^ k - 1) = lN (n % 2 ^ k) := by
  rw [wb_and hn (by have := wb_lt2 hk; omega), Nat.and_two_pow_sub_one_eq_mod]
theorem wb_a1 {n : Nat} (hn : n < 2 ^ 64) : lN n &&& 1 = lN (n % 2) := wb_mask (k := 1) hn (by decide)
theorem pf_lI {a : Nat} (h : a < 2 ^ 63) : (lN a).toInt = (a : Int) := lg_ofNat_toInt h
theorem pf_shr {a d : Nat} {D : Int64} (hD : (D.toBitVec.smod 64).toNat = d) (h : a < 2 ^ 62) : lN a >>> D = lN (a / 2 ^ d) := by
  have hd : a / 2 ^ d ≤ a := Nat.div_le_self _ _
  apply Int64.toInt_inj.mp
  have e : (lN a >>> D).toInt = (lN a).toInt >>> d := by
    rw [← hD]
    exact BitVec.toInt_sshiftRight ..
  rw [e, Int.shiftRight_eq_div_pow, pf_lI (by omega), pf_lI (by omega)]
  rfl
/-! NUMBERS: the elements of Fin P as longs -/
def fL {P : Nat} (x : Fin P) : Int64 := lN x.val
section NUM
variable {P : Nat}
theorem fL_lt (x : Fin P) (hB : P < 2 ^ 31) : x.val < 2 ^ 31 := Nat.lt_trans x.isLt hB
theorem fL_eq {a b : Fin P} (hB : P < 2 ^ 31) : fL a = fL b ↔ a = b := by
  unfold fL
  have h1 := fL_lt a hB
  have h2 := fL_lt b hB
  rw [lN_eq h1 h2]
  exact ⟨fun h => Fin.ext h, fun h => h ▸ rfl⟩
theorem lN_0 : lN 0 = 0 := rfl
theorem lN_one : lN 1 = 1 := rfl
theorem fL_z [NeZero P] : fL (0 : Fin P) = 0 := by unfold fL; simp [lN_0]
theorem fL_0 [NeZero P] {a : Fin P} (hB : P < 2 ^ 31) : fL a = 0 ↔ a = 0 := by
  rw [← fL_z (P := P), fL_eq hB]
theorem f1_val [NeZero P] (hP : 2 < P) : (1 : Fin P).val = 1 := by
  show 1 % P = 1
  exact Nat.mod_eq_of_lt (by omega)
theorem fL_o [NeZero P] (hP : 2 < P) : fL (1 : Fin P) = 1 := by unfold fL; rw [f1_val hP]; rfl
theorem fL_1 [NeZero P] {a : Fin P} (hP : 2 < P) (hB : P < 2 ^ 31) : fL a = 1 ↔ a = 1 := by
  rw [← fL_o (P := P) hP, fL_eq hB]
theorem lP_ne (hP : 2 < P) (hB : P < 2 ^ 31) : ¬ lN P = 0 := by
  rw [← lN_0, lN_eq hB (by decide)]
  omega
theorem n_times [NeZero P] (hP : 2 < P) (hB : P < 2 ^ 31) (a b : Fin P) : fL a * fL b - fL a * fL b / lN P * lN P = fL (a * b) := by
  unfold fL
  have h1 := fL_lt a hB
  have h2 := fL_lt b hB
  have h3 : a.val * b.val < 2 ^ 31 * 2 ^ 31 := Nat.mul_lt_mul'' h1 h2
  rw [lN_mul, pk_lRem (by omega) (by omega) (by omega), Fin.val_mul]
theorem n_plus [NeZero P] (hP : 2 < P) (hB : P < 2 ^ 31) (a b : Fin P) : (fL a + fL b) - (fL a + fL b) / lN P * lN P = fL (a + b) := by
  unfold fL
  have h1 := fL_lt a hB
  have h2 := fL_lt b hB
  rw [lN_add, pk_lRem (by omega) (by omega) (by omega), Fin.val_add]
theorem n_minus [NeZero P] (hP : 2 < P) (hB : P < 2 ^ 31) (a b : Fin P) : ((fL a + lN P) - fL b) - ((fL a + lN P) - fL b) / lN P * lN P = fL (a - b) := by
  unfold fL
  have h1 := fL_lt a hB
  have h2 := b.isLt
  rw [lN_add, lN_sub (by omega), pk_lRem (by omega) (by omega) (by omega), Fin.sub_def]
  show lN ((a.val + P - b.val) % P) = lN ((P - b.val + a.val) % P)
  congr 2
  omega
theorem fL_less {a b : Fin P} (hB : P < 2 ^ 31) : fL a < fL b ↔ a.val < b.val := by
  unfold fL
  exact lN_lt (fL_lt a hB) (fL_lt b hB)
theorem n_less [NeZero P] (hP : 2 < P) (hB : P < 2 ^ 31) (a b : Fin P) : (if fL a < fL b then some ((fL a - fL b) + lN P) else some (fL a - fL b)) = some (fL (a - b)) := by
  have h1 := a.isLt
  have h2 := b.isLt
  have e : fL (a - b) = lN ((P - b.val + a.val) % P) := by unfold fL; rw [Fin.sub_def]
  by_cases h : a.val < b.val
  · rw [if_pos ((fL_less hB).mpr h), e]
    congr 1
    have e1 : fL a - fL b + lN P = fL a + lN P - fL b := by
      apply Int64.toBitVec_inj.mp
      simp only [Int64.toBitVec_add, Int64.toBitVec_sub]
      rw [BitVec.sub_eq_add_neg, BitVec.sub_eq_add_neg, BitVec.add_assoc, BitVec.add_assoc, BitVec.add_comm (-(fL b).toBitVec)]
    rw [e1]
    unfold fL
    rw [lN_add, lN_sub (by omega), Nat.mod_eq_of_lt (by omega)]
    congr 1
    omega
  · rw [if_neg (fun q => h ((fL_less hB).mp q)), e]
    congr 1
    unfold fL
    rw [lN_sub (by omega), show P - b.val + a.val = (a.val - b.val) + P by omega, Nat.add_mod_right, Nat.mod_eq_of_lt (by omega)]
theorem fneg_val [NeZero P] (a : Fin P) (h : a ≠ 0) : (-a).val = P - a.val := by
  have h0 : a.val ≠ 0 := fun e => h (Fin.ext (by simpa using e))
  rw [Fin.neg_def]
  have := a.isLt
  show (P - a.val) % P = P - a.val
  exact Nat.mod_eq_of_lt (by omega)
theorem n_neg [NeZero P] (hB : P < 2 ^ 31) (a : Fin P) (h : a ≠ 0) : lN P - fL a = fL (-a) := by
  unfold fL
  rw [fneg_val a h, lN_sub (Nat.le_of_lt a.isLt)]
/-- the reference's and the class's ways to reckon -/
theorem s_times [NeZero P] (hP : 2 < P) (hB : P < 2 ^ 31) (a b : Fin P) : m_times (lN P) (fL a) (fL b) = some (fL (a * b)) := by
  unfold m_times
  rw [if_neg (lP_ne hP hB), n_times hP hB]
theorem s_less [NeZero P] (hP : 2 < P) (hB : P < 2 ^ 31) (a b : Fin P) : m_less (lN P) (fL a) (fL b) = some (fL (a - b)) := by
  unfold m_less
  exact n_less hP hB a b
theorem s_less0 [NeZero P] (hP : 2 < P) (hB : P < 2 ^ 31) (b : Fin P) : m_less (lN P) 0 (fL b) = some (fL (-b)) := by
  have := s_less hP hB 0 b
  rw [fL_z] at this
  rw [this]
  congr 2
theorem t_times [NeZero P] (hP : 2 < P) (hB : P < 2 ^ 31) {hp : cH} {o : Nat} (hF : gJ hp o 0 0 = some (lN P)) (a b : Fin P) : f_X0_times hp o (fL a) (fL b) = some (fL (a * b)) := by
  unfold f_X0_times
  rw [hF, Option.bind_some, if_neg (lP_ne hP hB), n_times hP hB]
theorem t_plus [NeZero P] (hP : 2 < P) (hB : P < 2 ^ 31) {hp : cH} {o : Nat} (hF : gJ hp o 0 0 = some (lN P)) (a b : Fin P) : f_X0_plus hp o (fL a) (fL b) = some (fL (a + b)) := by
  unfold f_X0_plus
  rw [hF, Option.bind_some, if_neg (lP_ne hP hB), n_plus hP hB]
theorem t_minus [NeZero P] (hP : 2 < P) (hB : P < 2 ^ 31) {hp : cH} {o : Nat} (hF : gJ hp o 0 0 = some (lN P)) (a b : Fin P) : f_X0_minus hp o (fL a) (fL b) = some (fL (a - b)) := by
  unfold f_X0_minus
  rw [hF, Option.bind_some, Option.bind_some, if_neg (lP_ne hP hB), n_minus hP hB]
theorem t_neg [NeZero P] (hB : P < 2 ^ 31) {hp : cH} {o : Nat} (hF : gJ hp o 0 0 = some (lN P)) (a : Fin P) : f_X0_negative hp o (fL a) = some (fL (-a)) := by
  unfold f_X0_negative
  by_cases h : a = 0
  · subst h
    rw [if_pos fL_z]
    congr 1
    rw [show (-(0 : Fin P)) = 0 by grind, fL_z]
  · rw [if_neg (fun q => h ((fL_0 hB).mp q)), hF, Option.bind_some, n_neg hB a h]
/-- powers by halving -/
theorem pw_half [NeZero P] (a : Fin P) (k : Nat) : a ^ k = (a * a) ^ (k / 2) * (if k % 2 = 1 then a else 1) := by
  have key : ∀ j : Nat, (a * a) ^ j = a ^ (2 * j) := by
    intro j
    induction j with
    | zero => simp
    | succ j ih => rw [show 2 * (j + 1) = 2 * j + 1 + 1 by omega]; grind
  rw [key]
  by_cases h : k % 2 = 1
  · rw [if_pos h]
    have : k = 2 * (k / 2) + 1 := by omega
    generalize k / 2 = m at *
    subst this
    grind
  · rw [if_neg h]
    have : k = 2 * (k / 2) := by omega
    generalize k / 2 = m at *
    subst this
    grind
theorem n_shr {k : Nat} (h : k < 2 ^ 62) : lN k >>> (((1 : Int32)).toInt64 &&& 63) = lN (k / 2) := by
  have := pf_shr (a := k) (d := 1) (D := ((1 : Int32)).toInt64 &&& 63) (by decide) h
  rwa [show 2 ^ 1 = 2 by rfl] at this
theorem s_power_L [NeZero P] (hP : 2 < P) (hB : P < 2 ^ 31) : ∀ (k : Nat) (x r : Fin P), k < 2 ^ 62 → itX (m_power_L9 (lN P)) (fL x, fL r, lN k) = some (fL (r * x ^ k)) := by
  intro k
  induction k using Nat.strongRecOn with
  | ind k ih =>
    intro x r hk
    by_cases h0 : k = 0
    · subst h0
      rw [itX_stop (r := fL r)]
      · congr 2
        grind
      · unfold m_power_L9
        rw [if_pos (show lN 0 ≤ (0 : Int64) by decide)]
    · have hpos : ¬ lN k ≤ (0 : Int64) := by
        rw [← lN_0, pk_lLE (by omega) (by omega)]
        omega
      have hbit : lN k &&& (1 : Int64) = lN (k % 2) := wb_a1 (by omega)
      have hh := pw_half x k
      by_cases h1 : k % 2 = 1
      · rw [itX_step (s' := (fL (x * x), fL (r * x), lN (k / 2)))]
        · rw [ih (k / 2) (by omega) (x * x) (r * x) (by omega), hh, if_pos h1]
          congr 2
          grind
        · unfold m_power_L9
          dsimp only
          rw [if_neg hpos, hbit, h1, if_pos lN_one, s_times hP hB, Option.bind_some, s_times hP hB, Option.bind_some, n_shr hk]
      · rw [itX_step (s' := (fL (x * x), fL r, lN (k / 2)))]
        · rw [ih (k / 2) (by omega) (x * x) r (by omega), hh, if_neg h1]
          congr 2
          grind
        · unfold m_power_L9
          dsimp only
          rw [if_neg hpos, hbit, show k % 2 = 0 by omega, if_neg (by decide), s_times hP hB, Option.bind_some, n_shr hk]
theorem s_power [NeZero P] (hP : 2 < P) (hB : P < 2 ^ 31) (x : Fin P) {k : Nat} (hk : k < 2 ^ 62) : m_power (lN P) (fL x) (lN k) = some (fL (x ^ k)) := by
  unfold m_power
  have := s_power_L hP hB k x 1 hk
  rw [fL_o hP] at this
  rw [this, Option.bind_some]
  congr 2
  grind
theorem t_power_L [NeZero P] (hP : 2 < P) (hB : P < 2 ^ 31) {hp : cH} {o : Nat} (hF : gJ hp o 0 0 = some (lN P)) : ∀ (k : Nat) (x r : Fin P), k < 2 ^ 62 → itX (fun s => f_X0_power_L9 hp o s.1 s.2.1 s.2.2) (fL r, fL x, lN k) = some (fL (r * x ^ k)) := by
  intro k
  induction k using Nat.strongRecOn with
  | ind k ih =>
    intro x r hk
    by_cases h0 : k = 0
    · subst h0
      rw [itX_stop (r := fL r)]
      · congr 2
        grind
      · unfold f_X0_power_L9
        rw [if_pos (show lN 0 ≤ (0 : Int64) by decide)]
    · have hpos : ¬ lN k ≤ (0 : Int64) := by
        rw [← lN_0, pk_lLE (by omega) (by omega)]
        omega
      have hbit : lN k &&& (1 : Int64) = lN (k % 2) := wb_a1 (by omega)
      have hh := pw_half x k
      by_cases h1 : k % 2 = 1
      · rw [itX_step (s' := (fL (r * x), fL (x * x), lN (k / 2)))]
        · rw [ih (k / 2) (by omega) (x * x) (r * x) (by omega), hh, if_pos h1]
          congr 2
          grind
        · unfold f_X0_power_L9 f_X0_power_L9J37
          dsimp only
          rw [if_neg hpos, hbit, h1, if_pos lN_one, hF, Option.bind_some, if_neg (lP_ne hP hB), Option.bind_some, if_neg (lP_ne hP hB), n_times hP hB, n_times hP hB, n_shr hk]
      · rw [itX_step (s' := (fL r, fL (x * x), lN (k / 2)))]
        · rw [ih (k / 2) (by omega) (x * x) r (by omega), hh, if_neg h1]
          congr 2
          grind
        · unfold f_X0_power_L9 f_X0_power_L9J37
          dsimp only
          rw [if_neg hpos, hbit, show k % 2 = 0 by omega, if_neg (by decide), hF, Option.bind_some, if_neg (lP_ne hP hB), n_times hP hB, n_shr hk]
theorem t_power [NeZero P] (hP : 2 < P) (hB : P < 2 ^ 31) {hp : cH} {o : Nat} (hF : gJ hp o 0 0 = some (lN P)) (x : Fin P) {k : Nat} (hk : k < 2 ^ 62) : f_X0_power hp o (fL x) (lN k) = some (fL (x ^ k)) := by
  unfold f_X0_power
  have := t_power_L hP hB hF k x 1 hk
  rw [fL_o hP] at this
  rw [this, Option.bind_some]
  congr 2
  grind
/-- the reciprocal, as both make it -/
def fi [NeZero P] (x : Fin P) : Fin P := x ^ (P - 2)
theorem s_over [NeZero P] (hP : 2 < P) (hB : P < 2 ^ 31) (x : Fin P) : m_over (lN P) (fL x) = some (fL (fi x)) := by
  unfold m_over
  rw [show lN P - (2 : Int64) = lN (P - 2) from lN_sub (a := P) (b := 2) (by omega), s_power hP hB x (by omega), Option.bind_some]
  rfl
theorem t_recip [NeZero P] (hP : 2 < P) (hB : P < 2 ^ 31) {hp : cH} {o : Nat} (hF : gJ hp o 0 0 = some (lN P)) (hO : isO hp o 0 = true) (x : Fin P) : f_X0_reciprocal hp o (fL x) = some (fL (fi x)) := by
  unfold f_X0_reciprocal
  rw [hF, Option.bind_some, if_pos hO, show lN P - (2 : Int64) = lN (P - 2) from lN_sub (a := P) (b := 2) (by omega), t_power hP hB hF x (by omega), Option.bind_some]
  rfl
end NUM
