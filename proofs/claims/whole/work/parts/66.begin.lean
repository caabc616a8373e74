section BEGIN
variable {P : Nat}
theorem pV_r {hp : cH} {a ci k : Nat} {fs : List Value} {v : Value} (h : hp a = some (.inr (ci, fs))) (hk : k < fs.length) : ∃ hp', pV hp a ci k v = some hp' ∧ hp' a = some (.inr (ci, fs.set k v)) ∧ ∀ b, b ≠ a → hp' b = hp b := ⟨_, pV_of h hk, by simp [va_up], fun b hb => by simp [va_up, hb]⟩
theorem gR_of {hp : cH} {a ci k v : Nat} {fs : List Value} (h : hp a = some (.inr (ci, fs))) (hk : fs[k]? = some (.ref v)) : gR hp a ci k = some v := by
  unfold gR
  rw [h]
  show (if ci = ci then _ else none) = _
  rw [if_pos rfl, hk]
theorem gI_of {hp : cH} {a ci k : Nat} {v : Int32} {fs : List Value} (h : hp a = some (.inr (ci, fs))) (hk : fs[k]? = some (.int v)) : gI hp a ci k = some v := by
  unfold gI
  rw [h]
  show (if ci = ci then _ else none) = _
  rw [if_pos rfl, hk]
theorem isO_of {hp : cH} {a ci : Nat} {fs : List Value} (h : hp a = some (.inr (ci, fs))) : isO hp a ci = true := by
  unfold isO
  rw [h]
  simp
theorem nw_r (hp : cH) (a : Nat) (x : cV) : (va_up hp a (some x)) a = some x ∧ ∀ b, b ≠ a → (va_up hp a (some x)) b = hp b := ⟨by simp [va_up], fun b hb => by simp [va_up, hb]⟩
theorem fill0 [NeZero P] {hp : cH} {a n : Nat} {f : Nat → Int64} (h : hp a = some (.inl (1, n, .inr (.inl f)))) (hn : n ≤ 64) : ∃ hp', f_J7_fill_d0a16 hp a 0 = some hp' ∧ fa hp' a n (fun _ => (0 : Fin P)) ∧ ∀ b, b ≠ a → hp' b = hp b := by
  have e : hW hp a n f = hp := by
    funext b
    by_cases q : b = a
    · rw [q, hW_a, h]
    · rw [hW_o q]
  have key := eloopP (P := P) (f := fun s => f_J7_fill_d0a16_L6 a 0 (nI n) s.1 s.2) (emb := hW hp a n) (d := f) n (fun _ => 0) ?_ ?_
  · obtain ⟨d', k1, k2⟩ := key
    rw [e] at k1
    have k1' : itX (fun s => f_J7_fill_d0a16_L6 a 0 (nI n) s.1 s.2) (0, hp) = some (hW hp a n d') := k1
    have l : aN hp a = some (nI n) := by
      unfold aN
      rw [h]
      rfl
    refine ⟨hW hp a n d', ?_, fa_hW k2, fun b hb => hW_o hb⟩
    unfold f_J7_fill_d0a16
    simp only [↓ob l, ↓ob k1']
  · intro k d1 hk
    unfold f_J7_fill_d0a16_L6
    rw [if_neg (nI_ge hk (by omega)), ob (sJ_h hk (by omega) 0), show nI k + (1 : Int32) = nI (k + 1) from by rw [show (1 : Int32) = nI 1 from rfl, nI_add], fL_z]
  · intro d1
    unfold f_J7_fill_d0a16_L6
    rw [if_pos (nI_le (Nat.le_refl n) (by omega))]
/-- the object's parts that its constructor makes -/
def c0 (hp : cH) (sz o : Nat) (ad : Nat → Nat) : Prop := (∃ x5 x6 x7 x8 x9 x10 x11 x12 : Value, hp o = some (.inr (5, [.ref (ad 0), .ref (ad 1), .ref (ad 2), .ref (ad 3), .ref (ad 4), x5, x6, x7, x8, x9, x10, x11, x12]))) ∧ o < sz ∧ (∃ y, hp (ad 0) = some (.inr (3, [.ref (ad 10), y]))) ∧ ad 0 < sz ∧ (∃ G, hp (ad 10) = some (.inl (2, 60, .inr (.inr (.inr (.inr G)))))) ∧ ad 10 < sz ∧ (∃ f, hp (ad 1) = some (.inl (1, 16, .inr (.inl f)))) ∧ ad 1 < sz ∧ (∃ f, hp (ad 2) = some (.inl (0, 9, .inl f))) ∧ ad 2 < sz ∧ (∃ f, hp (ad 3) = some (.inl (0, 5, .inl f))) ∧ ad 3 < sz ∧ (∃ f, hp (ad 4) = some (.inl (0, 5, .inl f))) ∧ ad 4 < sz ∧ ad 3 ≠ ad 4
def adn (ad : Nat → Nat) (sz : Nat) : Nat → Nat := fun k => if k = 7 then sz else if k = 8 then sz + 1 else if k = 9 then sz + 1 + 1 else ad k
theorem c_anew [NeZero P] (hP : 2 < P) (hB : P < 2 ^ 31) {hp : cH} {sz o d : Nat} {ad : Nat → Nat} (hd : d = 2 ∨ d = 3) (h : c0 hp sz o ad) : ∃ hp', f_X5_startAnew hp sz o (nI d) (nI P) = some (hp', sz + 1 + 1 + 1) ∧ (∀ im rw S R Gs pA pB, cS P d hp' (sz + 1 + 1 + 1) o (adn ad sz) im rw 0 S R (fun _ => 0) 0 Gs 0 pA pB (-1)) ∧ cF ad o hp sz hp' (sz + 1 + 1 + 1) := by
  obtain ⟨⟨x5, x6, x7, x8, x9, x10, x11, x12, k1⟩, k1', ⟨y, k2⟩, k2', ⟨G, k3⟩, k3', ⟨fh, k4⟩, k4', ⟨fg, k5⟩, k5', ⟨ff, k6⟩, k6', ⟨ft, k7⟩, k7', k8⟩ := h
  have n0 : ad 0 ≠ o := ne_c k2 k1 (by simp)
  have n10 : ad 10 ≠ o := ne_c k3 k1 (by simp)
  have n1 : ad 1 ≠ o := ne_c k4 k1 (by simp)
  have n2 : ad 2 ≠ o := ne_c k5 k1 (by simp)
  have n3 : ad 3 ≠ o := ne_c k6 k1 (by simp)
  have n4 : ad 4 ≠ o := ne_c k7 k1 (by simp)
  have m1 : ad 1 ≠ ad 0 := ne_c k4 k2 (by simp)
  have m2 : ad 2 ≠ ad 0 := ne_c k5 k2 (by simp)
  have m3 : ad 3 ≠ ad 0 := ne_c k6 k2 (by simp)
  have m4 : ad 4 ≠ ad 0 := ne_c k7 k2 (by simp)
  have m10 : ad 10 ≠ ad 0 := ne_c k3 k2 (by simp)
  have o2 : ad 2 ≠ ad 1 := ne_c k5 k4 (by simp)
  have o3 : ad 3 ≠ ad 1 := ne_c k6 k4 (by simp)
  have o4 : ad 4 ≠ ad 1 := ne_c k7 k4 (by simp)
  have o10 : ad 10 ≠ ad 1 := ne_c k3 k4 (by simp)
  obtain ⟨hp1, a1, a2, a3⟩ := pV_r (k := 5) (v := .int (nI d)) k1 (by simp)
  obtain ⟨hp2, b1, b2, b3⟩ := pV_r (k := 6) (v := .int (nI (d - 1))) a2 (by simp)
  obtain ⟨c2, c3⟩ := nw_r hp2 sz (.inr (0, [.long 0]))
  generalize hq3 : va_up hp2 sz (some (.inr (0, [Value.long 0]))) = hp3 at c2 c3
  obtain ⟨hp4, d1, d2, d3⟩ := pV_r (k := 0) (v := .long (lN P)) c2 (by simp)
  have e0 := (d3 o (by omega)).trans ((c3 o (by omega)).trans b2)
  obtain ⟨hp5, e1, e2, e3⟩ := pV_r (k := 7) (v := .ref sz) e0 (by simp)
  obtain ⟨f2, f3⟩ := nw_r hp5 (sz + 1) (.inr (2, [.null, .int 0]))
  generalize hq6 : va_up hp5 (sz + 1) (some (.inr (2, [Value.null, Value.int 0]))) = hp6 at f2 f3
  obtain ⟨hp7, g1, g2, g3⟩ := pV_r (k := 0) (v := .ref sz) f2 (by simp)
  obtain ⟨hp8, h1, h2, h3⟩ := pV_r (k := 1) (v := .int (nI (d + 1))) g2 (by simp)
  have i0 := (h3 o (by omega)).trans ((g3 o (by omega)).trans ((f3 o (by omega)).trans e2))
  obtain ⟨hp9, i1, i2, i3⟩ := pV_r (k := 8) (v := .ref (sz + 1)) i0 (by simp)
  obtain ⟨j2, j3⟩ := nw_r hp9 (sz + 1 + 1) (.inr (4, [.null, .null, .int 0]))
  generalize hq10 : va_up hp9 (sz + 1 + 1) (some (.inr (4, [Value.null, Value.null, Value.int 0]))) = hp10 at j2 j3
  obtain ⟨hp11, l1, l2, l3⟩ := pV_r (k := 0) (v := .ref (sz + 1)) j2 (by simp)
  obtain ⟨hp12, p1, p2, p3⟩ := pV_r (k := 1) (v := .ref sz) l2 (by simp)
  obtain ⟨hp13, q1, q2, q3⟩ := pV_r (k := 2) (v := .int (nI (d + 1))) p2 (by simp)
  have r0 := (q3 o (by omega)).trans ((p3 o (by omega)).trans ((l3 o (by omega)).trans ((j3 o (by omega)).trans i2)))
  obtain ⟨hp14, r1, r2, r3⟩ := pV_r (k := 9) (v := .ref (sz + 1 + 1)) r0 (by simp)
  have old : ∀ b, b < sz → b ≠ o → hp14 b = hp b := fun b hb hbo => by rw [r3 b hbo, q3 b (by omega), p3 b (by omega), l3 b (by omega), j3 b (by omega), i3 b hbo, h3 b (by omega), g3 b (by omega), f3 b (by omega), e3 b hbo, d3 b (by omega), c3 b (by omega), b3 b hbo, a3 b hbo]
  have s0 := (old _ k2' n0).trans k2
  obtain ⟨hp15, s1, s2, s3⟩ := pV_r (k := 1) (v := .int 0) s0 (by simp)
  have t0 : hp15 (ad 1) = some (.inl (1, 16, .inr (.inl fh))) := by rw [s3 _ m1, old _ k4' n1]; exact k4
  obtain ⟨hp16, t1, t2, t3⟩ := fill0 (P := P) t0 (by omega)
  have u0 := (t3 o (Ne.symm n1)).trans ((s3 o (Ne.symm n0)).trans r2)
  obtain ⟨hp17, u1, u2, u3⟩ := pV_r (k := 10) (v := .int 0) u0 (by simp)
  obtain ⟨hp18, v1, v2, v3⟩ := pV_r (k := 11) (v := .int 0) u2 (by simp)
  obtain ⟨hp19, w1, w2, w3⟩ := pV_r (k := 12) (v := .int (-1)) v2 (by simp)
  have new : ∀ b, b ≠ o → b ≠ ad 0 → b ≠ ad 1 → hp19 b = hp14 b := fun b z1 z2 z3 => by rw [w3 b z1, v3 b z1, u3 b z1, t3 b z3, s3 b z2]
  have all : ∀ b, b < sz → b ≠ o → b ≠ ad 0 → b ≠ ad 1 → hp19 b = hp b := fun b z0 z1 z2 z3 => by rw [new b z1 z2 z3, old b z0 z1]
  refine ⟨hp19, ?_, fun im rw S R Gs pA pB => ?_, fun b z0 z1 z2 z3 _ _ _ _ => all b z0 z1 z2 z3, by omega⟩
  · have mx : f_J9_max_7cf53 3 (nI P) = some (nI P) := by
      unfold f_J9_max_7cf53
      by_cases q : (3 : Int32) < nI P
      · rw [if_pos q]
      · have h3 : P = 3 := by
          have z := mt (fun z => nI_lt (a := 3) (b := P) z (by omega)) q
          omega
        rw [if_neg q, h3]
        rfl
    have tl : (nI P).toInt64 = lN P := by
      apply Int64.toInt_inj.mp
      rw [pk_lT (by omega), Int32.toInt_toInt64, nI_toInt hB]
    have sd : nI d - (1 : Int32) = nI (d - 1) := by rw [show (1 : Int32) = nI 1 from rfl, pk_sub (by omega)]
    have sa : nI d + (1 : Int32) = nI (d + 1) := by rw [show (1 : Int32) = nI 1 from rfl, nI_add]
    have y1 : f_X0_init hp3 sz (nI P) = some hp4 := by
      unfold f_X0_init
      rw [ob mx, tl, ob d1]
    have y2 : gR hp6 o 5 7 = some sz := gR_of ((f3 o (by omega)).trans e2) rfl
    have y3 : f_X2_init hp6 (sz + 1) sz (nI (d + 1)) = some hp8 := by
      unfold f_X2_init
      rw [ob g1, ob h1]
    have y4 : gR hp10 o 5 8 = some (sz + 1) := gR_of ((j3 o (by omega)).trans i2) rfl
    have y5 : f_X4_init hp10 (sz + 1 + 1) (sz + 1) = some hp13 := by
      have z1 : gR hp11 (sz + 1) 2 0 = some sz := gR_of ((l3 _ (by omega)).trans ((j3 _ (by omega)).trans ((i3 _ (by omega)).trans h2))) rfl
      have z2 : gI hp12 (sz + 1) 2 1 = some (nI (d + 1)) := gI_of ((p3 _ (by omega)).trans ((l3 _ (by omega)).trans ((j3 _ (by omega)).trans ((i3 _ (by omega)).trans h2)))) rfl
      unfold f_X4_init
      rw [ob l1, ob z1, ob p1, ob z2, ob q1]
    have y6 : gR hp14 o 5 0 = some (ad 0) := gR_of r2 rfl
    have y7 : isO hp14 (ad 0) 3 = true := isO_of s0
    have y8 : f_X3_empty hp14 (ad 0) = some hp15 := by
      unfold f_X3_empty
      rw [ob s1]
    have y9 : gR hp15 o 5 1 = some (ad 1) := gR_of ((s3 o (Ne.symm n0)).trans r2) rfl
    unfold f_X5_startAnew
    rw [ob a1, sd, ob b1, Option.bind_some, hq3, ob y1, ob e1, Option.bind_some, hq6, ob y2, sa, ob y3, ob i1, Option.bind_some, hq10, ob y4, ob y5, ob r1, ob y6, if_pos y7, ob y8, ob y9, ob t1, ob u1, ob v1, ob w1]
  · have ea : ∀ k, k ≠ 7 → k ≠ 8 → k ≠ 9 → adn ad sz k = ad k := fun k z1 z2 z3 => by
      unfold adn
      rw [if_neg z1, if_neg z2, if_neg z3]
    have z7 : adn ad sz 7 = sz := rfl
    have z8 : adn ad sz 8 = sz + 1 := rfl
    have z9 : adn ad sz 9 = sz + 1 + 1 := rfl
    have z0 : adn ad sz 0 = ad 0 := rfl
    have z1 : adn ad sz 1 = ad 1 := rfl
    have z2 : adn ad sz 2 = ad 2 := rfl
    have z3 : adn ad sz 3 = ad 3 := rfl
    have z4 : adn ad sz 4 = ad 4 := rfl
    have z10 : adn ad sz 10 = ad 10 := rfl
    unfold cS
    rw [z7, z8, z9, z0, z1, z2, z3, z4, z10]
    refine ⟨⟨w2, by omega⟩, ⟨?_, by omega⟩, ⟨⟨G, by rw [all _ k3' n10 m10 o10]; exact k3, fun a ha => by omega⟩, by omega⟩, fun a ha => by omega, ⟨fa_of t2 (by rw [w3 _ n1, v3 _ n1, u3 _ n1]), by omega⟩, ⟨⟨⟨fg, by rw [all _ k5' n2 m2 o2]; exact k5, fun k hk => by omega⟩, by omega⟩, ⟨⟨ff, by rw [all _ k6' n3 m3 o3]; exact k6, fun k hk => by omega⟩, by omega⟩, ⟨⟨ft, by rw [all _ k7' n4 m4 o4]; exact k7, fun k hk => by omega⟩, by omega⟩, k8⟩, ⟨⟨?_, ?_, ?_⟩, by omega, by omega, by omega⟩, by omega, by omega, by omega, hd⟩
    · rw [w3 _ n0, v3 _ n0, u3 _ n0, t3 _ (Ne.symm m1)]
      exact s2
    · rw [new _ (by omega) (by omega) (by omega), r3 _ (by omega)]
      exact q2
    · rw [new _ (by omega) (by omega) (by omega), r3 _ (by omega), q3 _ (by omega), p3 _ (by omega), l3 _ (by omega), j3 _ (by omega), i3 _ (by omega)]
      exact h2
    · rw [new _ (by omega) (by omega) (by omega), r3 _ (by omega), q3 _ (by omega), p3 _ (by omega), l3 _ (by omega), j3 _ (by omega), i3 _ (by omega), h3 _ (by omega), g3 _ (by omega), f3 _ (by omega), e3 _ (by omega)]
      exact d2
end BEGIN
