section ORDER2
variable {P : Nat} {d sz o : Nat} {hp : cH} {ad im rw : Nat → Nat} {c : Nat} {S : Nat → Nat} {R : Nat → Nat → Fin P} {H : Nat → Fin P} {g : Nat} {Gs : Nat → Nat} {m : Nat} {pA pB : Nat → Nat} {id : Int32}
theorem or_loop (hp0 : isP P) [NeZero P] (hB : P < 2 ^ 31) (hC : cS P d hp sz o ad im rw c S R H g Gs m pA pB id) {M : Nat → Fin P} (hM : inv (d + 1) (sqM (d + 1) M)) : ∀ n k O q (hp1 : cH) (sz1 rc : Nat), k + n = d + 2 → O ≤ 1000 → lst (d + 1) M k O → vA hp1 sz1 q ((d + 1) * (d + 1)) (mpF (d + 1) M O) → gro hp sz hp1 sz1 → 23 * n ≤ rc → ∃ hp' sz', gro hp sz hp' sz' ∧ (orN (d + 1) M ≤ 1000 → ∃ rc', itX (fun s : Nat × Int32 × Int32 × cH × Nat × Nat => f_X5_order_L22 o s.1 s.2.1 s.2.2.1 s.2.2.2.1 s.2.2.2.2.1 s.2.2.2.2.2) (q, nI O, nI k, hp1, sz1, rc) = some (.inl (nI (orN (d + 1) M), hp', sz', rc'))) ∧ ((¬ orN (d + 1) M ≤ 1000) → itX (fun s : Nat × Int32 × Int32 × cH × Nat × Nat => f_X5_order_L22 o s.1 s.2.1 s.2.2.1 s.2.2.2.1 s.2.2.2.2.1 s.2.2.2.2.2) (q, nI O, nI k, hp1, sz1, rc) = some (.inr (-1, hp', sz'))) := by
  have hP := hp0.1
  have hw := hC.hw
  have hd := hC.hd
  have hw0 : 0 < d + 1 := by omega
  have ad2 : nI d + (2 : Int32) = nI (d + 2) := by rw [show (2 : Int32) = nI 2 from rfl, nI_add]
  intro n
  induction n with
  | zero =>
    intro k O q hp1 sz1 rc e hO hl hq hg hrc
    have ek : k = d + 2 := by omega
    subst ek
    have h1 := hC.gg hg
    have i5 := h1.i5
    have l1 : nI (d + 2) ≤ nI (d + 2) := nI_le (by omega) (by omega)
    have hor := or_lst hw hl hO
    refine ⟨hp1, sz1, hg, fun _ => ⟨rc, ?_⟩, fun q => absurd (by omega) q⟩
    rw [hor]
    apply itX_stop
    (try dsimp only)
    unfold f_X5_order_L22
    simp only [↓ob i5, ad2, l1, ↓reduceIte]
  | succ n ih =>
    intro k O q hp1 sz1 rc e hO hl hq hg hrc
    have h1 := hC.gg hg
    have i5 := h1.i5
    have r8 := h1.r8
    have he := h1.e
    have l1 : ¬ nI (d + 2) ≤ nI k := nI_ge (by omega) (by omega)
    obtain ⟨hp2, a1, a2, a3⟩ := e_framePoint hP hB he hw (show k ≤ d + 1 by omega)
    have h2 := h1.gg a3
    have he2 := h2.e
    have hO1 := hl.1
    have O0 : (nI O = (0 : Int32)) = False := n_ne (b := 0) (by omega) (by omega) (by omega)
    have hdiv : (1000 : Int32) / nI O = nI (1000 / O) := pk_div (a := 1000) (by omega) (by omega) (by omega)
    have hdl : 1000 / O ≤ 1000 := Nat.div_le_self 1000 O
    obtain ⟨hp3, sz3, b1, b2⟩ := e_times hP hB he2 hw (hq.g a3) a2 hdl
    have h3 := h2.gg b2
    have r83 := h3.r8
    have he3 := h3.e
    obtain ⟨s1, s2⟩ := lst_1 hp0 hw0 hM (show k ≤ d + 1 by omega) hl hO
    have rc1 : 1 ≤ rc := by omega
    have rc2 : 2 ≤ rc - 1 := by omega
    have rc3 : 20 ≤ rc - 1 - 2 := by omega
    by_cases ht : tbN (d + 1) (mpF (d + 1) M O) (fpF (d + 1) k) (1000 / O) ≤ 1000 / O
    · rw [if_pos ht] at b1
      obtain ⟨t1, t2, t3⟩ := s1 ht
      generalize tbN (d + 1) (mpF (d + 1) M O) (fpF (d + 1) k) (1000 / O) = T at *
      have T0 : (nI T = (0 : Int32)) = False := n_ne (b := 0) (by omega) (by omega) (by omega)
      obtain ⟨r, hp4, sz4, c1, c2, c3⟩ := e_power hP hB he3 hw ((hq.g a3).g b2) t2 (by omega)
      have c4 : vA hp4 sz4 r ((d + 1) * (d + 1)) (mpF (d + 1) M (O * T)) := c2.congr (mp_mp hw0 M O T)
      obtain ⟨hp5, sz5, f1, f2, f3⟩ := ih (k + 1) (O * T) r hp4 sz4 (rc - 1 - 2 - 20) (by omega) t3 t1 c4 (((hg.tr a3).tr b2).tr c3) (by omega)
      have ad1 : nI k + (1 : Int32) = nI (k + 1) := by rw [show (1 : Int32) = nI 1 from rfl, nI_add]
      have go : f_X5_order_L22 o q (nI O) (nI k) hp1 sz1 rc = some (.inl (r, nI (O * T), nI (k + 1), hp4, sz4, rc - 1 - 2 - 20)) := by
        unfold f_X5_order_L22
        simp only [↓ob i5, ad2, l1, ↓ob r8, he.o2, rc1, ↓ob a1, O0, he2.o2, rc2, hdiv, ↓ob b1, T0, ↓ob r83, he3.o2, rc3, ↓ob c1, pk_mul, ad1, ↓reduceIte]
      refine ⟨hp5, sz5, f1, fun w => ?_, fun w => ?_⟩
      · obtain ⟨rc', g1⟩ := f2 w
        exact ⟨rc', by rw [itX_step (s' := (r, nI (O * T), nI (k + 1), hp4, sz4, rc - 1 - 2 - 20)) go, g1]⟩
      · rw [itX_step (s' := (r, nI (O * T), nI (k + 1), hp4, sz4, rc - 1 - 2 - 20)) go, f3 w]
    · rw [if_neg ht] at b1
      have hno := s2 ht
      have hor := or_no hw (M := M) (fun e h1 h2 he => hno e h1 h2 (fun i hi => he i (by omega)))
      refine ⟨hp3, sz3, (hg.tr a3).tr b2, fun w => absurd w hor, fun _ => ?_⟩
      apply itX_stop
      (try dsimp only)
      unfold f_X5_order_L22
      simp only [↓ob i5, ad2, l1, ↓ob r8, he.o2, rc1, ↓ob a1, O0, he2.o2, rc2, hdiv, ↓ob b1, n00, ↓reduceIte]
theorem st_order (hp0 : isP P) (ho : P % 2 = 1) [NeZero P] (hB : P < 2 ^ 31) (hI : shf d c S R) (hC : cS P d hp sz o ad im rw c S R H g Gs m pA pB id) {sorts : Nat → Int32} {rows : Nat → Int64} (hS : sK sorts S c) (hK : rK c rows R) (draft one : Nat → Int64) (x1 : Int32) : ∃ v hp' sz' d' o', f_X5_order hp sz o x1 = some (v, hp', sz') ∧ gro hp sz hp' sz' ∧ m_order (nI d) (lN P) (nI c) sorts rows draft one x1 = some (v, d', o') := by
  have hP := hp0.1
  have hle := hC.le
  have hd := hC.hd
  have hw := hC.hw
  have l0 := hC.r0
  have h5 : ∀ a, a < c → S a < 5 := fun a ha => hC.s5 ha
  rcases sortX h5 hle hS x1 (show 3 < 5 by omega) with ⟨a, ha, rfl, e, i1⟩ | ⟨q, i1⟩
  · have w1 : f_X3_row hp (ad 0) (nI a) 3 = some (some (rw a)) := hC.row (t := 3) ha e
    have i1' : m_is (nI c) sorts (nI a) 3 = some (nI 1) := i1
    have va := hC.v ha
    rw [e] at va
    have ka := (hI.1 a ha).2.2.2.2.1 e
    have va1 : vA hp sz (rw a) ((d + 1) * (d + 1)) (mpF (d + 1) (R a) 1) := vA.congr (show vA hp sz (rw a) ((d + 1) * (d + 1)) (R a) from va) (fun m hm => (mp_1 (R a) m hm).symm)
    obtain ⟨hp1, sz1, a1, a2, a3⟩ := or_loop hp0 hB hC ka (d + 2) 0 1 (rw a) hp sz 115 (by omega) (by omega) ⟨Nat.le_refl 1, fun i hi => by omega, fun e h1 h2 => by omega⟩ va1 gro.rf (by omega)
    obtain ⟨d0, z1, z2⟩ := s_clear (P := P) draft
    have hws : (d + 1) * (d + 1) ≤ 16 := by rcases hd with rfl | rfl <;> decide
    have key := loop1 (P := P) (f := m_order_L18 (nI d)) (d := d0) (N := d + 1) (fun k => k * (d + 1) + k) (fun i j hi hj e2 => (ij_inj hw i i j j hi hi hj hj e2).1) (fun _ => 1) ?_ ?_
    · obtain ⟨d1, k1, k2, k3⟩ := key
      have k1' : itX (m_order_L18 (nI d)) (0, d0) = some d1 := k1
      have hid : vo d1 ((d + 1) * (d + 1)) (mpF (d + 1) (R a) 0) := by
        intro l hl
        have q1 : l / (d + 1) < d + 1 := Nat.div_lt_of_lt_mul hl
        have q3 := Nat.mod_lt l (show 0 < d + 1 by omega)
        have q4 : l / (d + 1) * (d + 1) + l % (d + 1) = l := by rw [Nat.mul_comm]; exact Nat.div_add_mod l (d + 1)
        show _ = fL (idF (d + 1) l)
        unfold idF
        by_cases c1 : l / (d + 1) = l % (d + 1)
        · rw [if_pos c1]
          have := k2 (l / (d + 1)) q1
          rw [← this]
          congr 1
          conv => lhs; rw [← q4]
          rw [← c1]
        · rw [if_neg c1, k3 l (fun i hi e2 => c1 (by
            have h6 := ij_inj hw _ _ _ _ q1 q3 hi hi (q4.trans e2)
            omega))]
          exact z2 l (by omega)
      obtain ⟨dr', o', b1⟩ := s_orderL hP hB (dr := draft) (one := one) hK ha hd 1000 1 d1 one (by omega) (by omega) hid
      have hor : sr (fun k => sclB (d + 1) (mpF (d + 1) (R a) k)) 1000 1 = orN (d + 1) (R a) := rfl
      rw [hor] at b1
      have b1' : itX (m_order_L48 (nI d) (lN P) rows (nI a)) (1, d1, one) = _ := b1
      by_cases ho2 : orN (d + 1) (R a) ≤ 1000
      · rw [if_pos ho2] at b1'
        obtain ⟨rc', c1⟩ := a2 ho2
        have c1' : itX (fun s : Nat × Int32 × Int32 × cH × Nat × Nat => f_X5_order_L22 o s.1 s.2.1 s.2.2.1 s.2.2.2.1 s.2.2.2.2.1 s.2.2.2.2.2) (rw a, 1, 0, hp, sz, 115) = _ := c1
        refine ⟨nI (orN (d + 1) (R a)), hp1, sz1, dr', o', ?_, a1, ?_⟩
        · unfold f_X5_order
          simp only [↓ob l0, hC.o3, ↓ob w1, ↓Option.elim_some, ↓ob c1', ↓reduceIte]
        · unfold m_order
          simp only [↓ob i1', n10, ↓ob z1, ↓ob k1', ↓ob b1', ↓reduceIte]
      · rw [if_neg ho2] at b1'
        have c1 := a3 ho2
        have c1' : itX (fun s : Nat × Int32 × Int32 × cH × Nat × Nat => f_X5_order_L22 o s.1 s.2.1 s.2.2.1 s.2.2.2.1 s.2.2.2.2.1 s.2.2.2.2.2) (rw a, 1, 0, hp, sz, 115) = _ := c1
        refine ⟨-1, hp1, sz1, dr', o', ?_, a1, ?_⟩
        · unfold f_X5_order
          simp only [↓ob l0, hC.o3, ↓ob w1, ↓Option.elim_some, ↓ob c1', ↓reduceIte]
        · unfold m_order
          simp only [↓ob i1', n10, ↓ob z1, ↓ob k1', ↓ob b1', ↓reduceIte]
    · intro k d1 hk _ _
      refine ⟨vp_updL d1 (k * (d + 1) + k) (fL (1 : Fin P)), ?_, pk_uLs, fun m hm => pk_uLn hm⟩
      unfold m_order_L18
      rcases hd with rfl | rfl <;> simp (disch := omega) only [↓Option.bind_some, ↓Option.elim_some, ↓Option.elim_none, Option.bind_some, Option.elim_some, Option.elim_none, Option.some.injEq, Sum.inl.injEq, Sum.inr.injEq, ↓reduceIte, m_side, lit_nI, lz_I, nI_add, pk_mul, pk_sub, nI_ge, nI_le, nI_lt, nI_nlt, gi_t, nI_clamp, nI_eq, pk_rem, Nat.zero_add, Nat.reduceAdd, Nat.reduceMul, Nat.reduceSub, Nat.reduceMod, Nat.reduceEqDiff, reduceCtorEq, Nat.one_ne_zero, Nat.zero_ne_one, lo64 (P := P) hP]
    · intro d1
      unfold m_order_L18
      simp (disch := omega) only [↓Option.bind_some, ↓Option.elim_some, ↓Option.elim_none, Option.bind_some, Option.elim_some, Option.elim_none, Option.some.injEq, Sum.inl.injEq, Sum.inr.injEq, ↓reduceIte, m_side, lit_nI, lz_I, nI_add, pk_mul, pk_sub, nI_ge, nI_le, nI_lt, nI_nlt, gi_t, nI_clamp, nI_eq, pk_rem, Nat.zero_add, Nat.reduceAdd, Nat.reduceMul, Nat.reduceSub, Nat.reduceMod, Nat.reduceEqDiff, reduceCtorEq, Nat.one_ne_zero, Nat.zero_ne_one]
  · have w1 : f_X3_row hp (ad 0) x1 3 = some none := hC.rowQ (t := 3) (by omega) q
    have i1' : m_is (nI c) sorts x1 3 = some (nI 0) := i1
    refine ⟨-2, hp, sz, draft, one, ?_, gro.rf, ?_⟩
    · unfold f_X5_order
      simp only [↓ob l0, hC.o3, ↓ob w1, ↓Option.elim_none, ↓reduceIte]
    · unfold m_order
      simp only [↓ob i1', n00, ↓reduceIte]
end ORDER2
