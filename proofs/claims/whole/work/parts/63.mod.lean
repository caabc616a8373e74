section MODB
variable {P : Nat}
theorem rem_int (hP : 2 < P) (hB : P < 2 ^ 31) (v : Int64) : (v - v / lN P * lN P).toInt = v.toInt.tmod (P : Int) ∧ (v - v / lN P * lN P).toInt < P ∧ - (P : Int) < (v - v / lN P * lN P).toInt := by
  have hp : (lN P).toInt = (P : Int) := pk_lT (by omega)
  have hlo := Int64.le_toInt v
  have hhi := Int64.toInt_lt v
  have e1 : (v / lN P).toInt = v.toInt.tdiv (P : Int) := by
    rw [Int64.toInt_div_of_ne_right v (lN P) (fun q => by rw [q] at hp; have : (-1 : Int64).toInt = -1 := rfl; omega), hp]
  generalize hV : v.toInt = V at *
  have hb : - (2 ^ 63 : Int) ≤ V.tdiv (P : Int) * (P : Int) ∧ V.tdiv (P : Int) * (P : Int) < 2 ^ 63 ∧ V - V.tdiv (P : Int) * (P : Int) = V.tmod (P : Int) ∧ V.tmod (P : Int) < P ∧ - (P : Int) < V.tmod (P : Int) := by
    have hd : V.tmod (P : Int) = V - (P : Int) * V.tdiv (P : Int) := Int.tmod_def V P
    have hc : V.tdiv (P : Int) * (P : Int) = (P : Int) * V.tdiv (P : Int) := Int.mul_comm _ _
    rcases Int.le_total 0 V with h0 | h0
    · have a1 : V.tmod (P : Int) = V % (P : Int) := Int.tmod_eq_emod_of_nonneg h0
      have a2 := Int.emod_nonneg V (show (P : Int) ≠ 0 by omega)
      have a3 := Int.emod_lt_of_pos V (show (0 : Int) < P by omega)
      have a4 : (P : Int) * V.tdiv (P : Int) ≤ V := by omega
      have a5 : 0 ≤ V.tdiv (P : Int) := Int.tdiv_nonneg h0 (by omega)
      have a6 : 0 ≤ (P : Int) * V.tdiv (P : Int) := Int.mul_nonneg (by omega) a5
      omega
    · have n1 : V.tdiv (P : Int) = - ((-V).tdiv (P : Int)) := by rw [Int.neg_tdiv, Int.neg_neg]
      have hd2 : (-V).tmod (P : Int) = -V - (P : Int) * (-V).tdiv (P : Int) := Int.tmod_def (-V) P
      have a1 : (-V).tmod (P : Int) = (-V) % (P : Int) := Int.tmod_eq_emod_of_nonneg (by omega)
      have a2 := Int.emod_nonneg (-V) (show (P : Int) ≠ 0 by omega)
      have a3 := Int.emod_lt_of_pos (-V) (show (0 : Int) < P by omega)
      have a5 : 0 ≤ (-V).tdiv (P : Int) := Int.tdiv_nonneg (by omega) (by omega)
      have a6 : 0 ≤ (P : Int) * (-V).tdiv (P : Int) := Int.mul_nonneg (by omega) a5
      have a7 : (P : Int) * V.tdiv (P : Int) = - ((P : Int) * (-V).tdiv (P : Int)) := by rw [n1, Int.mul_neg]
      omega
  obtain ⟨b1, b2, b3, b4, b5⟩ := hb
  have e2 : (v / lN P * lN P).toInt = V.tdiv (P : Int) * (P : Int) := by
    rw [Int64.toInt_mul, e1, hp]
    exact Int.bmod_eq_of_le (by omega) (by omega)
  have e3 : (v - v / lN P * lN P).toInt = V.tmod (P : Int) := by
    rw [Int64.toInt_sub, e2, hV, b3]
    exact Int.bmod_eq_of_le (by omega) (by omega)
  rw [e3]
  exact ⟨rfl, b4, b5⟩
theorem mod_both (hP : 2 < P) (hB : P < 2 ^ 31) (v : Int64) : ∃ x : Fin P, m_mod (lN P) v = some (fL x) ∧ f_J9_floorMod_f86c9 v (lN P) = some (fL x) := by
  obtain ⟨e1, e2, e3⟩ := rem_int hP hB v
  have hp : (lN P).toInt = (P : Int) := pk_lT (by omega)
  have hpz : ¬ lN P = 0 := lP_ne hP hB
  generalize hr : v - v / lN P * lN P = r at *
  have z0 : (0 : Int64).toInt = 0 := rfl
  have hxor : ((0 : Int64) ≤ v ^^^ lN P) ↔ 0 ≤ v.toInt := by
    rw [Int64.le_iff_toInt_le, z0]
    have m1 : (v ^^^ lN P).toInt = (v.toBitVec ^^^ (lN P).toBitVec).toInt := by rw [← Int64.toBitVec_xor]; rfl
    have m2 : (v.toBitVec ^^^ (lN P).toBitVec).msb = (v.toBitVec.msb ^^ (lN P).toBitVec.msb) := BitVec.msb_xor
    have m3 : (lN P).toBitVec.msb = false := by
      rw [BitVec.msb_eq_toInt]
      have : (lN P).toBitVec.toInt = (P : Int) := hp
      rw [this]
      simp
    rw [m3, Bool.xor_false, BitVec.msb_eq_toInt, BitVec.msb_eq_toInt] at m2
    have m4 : v.toBitVec.toInt = v.toInt := rfl
    rw [m4, ← m1] at m2
    have m5 : ((v ^^^ lN P).toInt < 0) ↔ (v.toInt < 0) := by
      have := decide_eq_decide.mp m2
      exact this
    omega
  have hneg : r.toInt < 0 → (r + lN P).toInt = r.toInt + P := by
    intro h
    rw [Int64.toInt_add, hp]
    exact Int.bmod_eq_of_le (by omega) (by omega)
  have mk : ∀ (q : Int64) (k : Int), q.toInt = k → 0 ≤ k → k < P → ∃ x : Fin P, q = fL x := by
    intro q k h1 h2 h3
    refine ⟨⟨k.toNat, by omega⟩, ?_⟩
    apply Int64.toInt_inj.mp
    show q.toInt = (lN k.toNat).toInt
    rw [h1, pk_lT (by omega)]
    omega
  by_cases h0 : 0 ≤ r.toInt
  · obtain ⟨x, hx⟩ := mk r _ rfl h0 e2
    refine ⟨x, ?_, ?_⟩
    · unfold m_mod
      rw [if_neg hpz, hr, if_pos (by rw [Int64.le_iff_toInt_le, z0]; exact h0), hx]
    · unfold f_J9_floorMod_f86c9
      rw [if_neg hpz, hr]
      by_cases hv : (0 : Int64) ≤ v ^^^ lN P
      · rw [if_pos hv, hx]
      · rw [if_neg hv]
        have hv2 : v.toInt < 0 := by
          have := mt hxor.mpr hv
          omega
        have hr0 : r.toInt ≤ 0 := by
          rw [e1]
          have n1 : v.toInt.tmod (P : Int) = - ((- v.toInt).tmod (P : Int)) := by rw [Int.neg_tmod, Int.neg_neg]
          have n2 : (- v.toInt).tmod (P : Int) = (- v.toInt) % (P : Int) := Int.tmod_eq_emod_of_nonneg (by omega)
          have n3 := Int.emod_nonneg (- v.toInt) (show (P : Int) ≠ 0 by omega)
          omega
        rw [if_pos (by apply Int64.toInt_inj.mp; rw [z0]; omega), hx]
  · have hn := hneg (by omega)
    obtain ⟨x, hx⟩ := mk (r + lN P) _ hn (by omega) (by omega)
    refine ⟨x, ?_, ?_⟩
    · unfold m_mod
      rw [if_neg hpz, hr, if_neg (by rw [Int64.le_iff_toInt_le, z0]; exact h0), hx]
    · unfold f_J9_floorMod_f86c9
      have hv : ¬ (0 : Int64) ≤ v ^^^ lN P := by
        intro q
        have := hxor.mp q
        have n2 : v.toInt.tmod (P : Int) = v.toInt % (P : Int) := Int.tmod_eq_emod_of_nonneg this
        have n3 := Int.emod_nonneg v.toInt (show (P : Int) ≠ 0 by omega)
        omega
      rw [if_neg hpz, hr, if_neg hv, if_neg (fun q => by rw [q] at h0; exact h0 (by rw [z0]; omega)), hx]
end MODB
