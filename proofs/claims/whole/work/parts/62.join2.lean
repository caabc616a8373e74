section JOIN2
variable {P : Nat} {d sz o : Nat} {hp : cH} {ad im rw : Nat → Nat} {c : Nat} {S : Nat → Nat} {R : Nat → Nat → Fin P} {H : Nat → Fin P} {g : Nat} {Gs : Nat → Nat} {m : Nat} {pA pB : Nat → Nat} {id : Int32}
theorem bw_cg [NeZero P] {L M : Nat → Fin P} (h : ∀ k, k < 6 → M k = L k) (hn : ldV L 6 < 6) {r m : Nat} (hm : m < 4) : bwF 4 M r m = bwF 4 L r m := by
  have e : ldV M 6 = ldV L 6 := ld_cg h
  have hk := wIJ_w (w := 4) (k := ldV L 6) (Or.inr rfl) hn
  have sk : ∀ i, i < 4 → skF 4 M i m = skF 4 L i m := by
    intro i hi
    have up : ∀ x y, x < y → y < 4 → skF 4 M x y = skF 4 L x y := fun x y q1 q2 => by
      rw [skF_up M q1, skF_up L q1]
      exact h _ (wIJ (w := 4) (Or.inr rfl) q1 q2).2.2
    rcases Nat.lt_trichotomy i m with q | q | q
    · exact up i m q hm
    · subst q
      rw [sk_dg, sk_dg]
    · rw [sk_ng, up m i q hi, ← sk_ng]
  show (if r = 0 then (- fi (M (ldV M 6))) * skF 4 M (wJ 4 (ldV M 6)) m else fi (M (ldV M 6)) * skF 4 M (wI 4 (ldV M 6)) m) = (if r = 0 then (- fi (L (ldV L 6))) * skF 4 L (wJ 4 (ldV L 6)) m else fi (L (ldV L 6)) * skF 4 L (wI 4 (ldV L 6)) m)
  rw [e, h _ hn, sk _ (by omega), sk _ (by omega)]
theorem sp_cg [NeZero P] {A x y : Nat → Fin P} (h : ∀ k, k < 4 → x k = y k) (i : Nat) : sp4 A x i = sp4 A y i := by
  have h0 := h 0 (by omega)
  have h1 := h 1 (by omega)
  have h2 := h 2 (by omega)
  have h3 := h 3 (by omega)
  match i with
  | 0 => simp only [sp4, h1, h2, h3]
  | 1 => simp only [sp4, h0, h2, h3]
  | 2 => simp only [sp4, h0, h1, h3]
  | 3 => simp only [sp4, h0, h1, h2]
  | n + 4 => rfl
theorem sx_cg [NeZero P] {w : Nat} {A x y : Nat → Fin P} (h : ∀ k, k < w → x k = y k) (i : Nat) : sxF w A x i = sxF w A y i := by
  unfold sxF
  refine sF_congr w (fun k hk => ?_)
  (try dsimp only)
  rw [h k hk]
/-- a line's own points are on it -/
theorem on_self [NeZero P] {A : Nat → Fin P} (hpl : plu A) (r : Nat) {i : Nat} (hi : i < 4) : sp4 A (bwF 4 A r) i = 0 := by
  have gen : ∀ (f : Fin P) (j : Nat), j < 4 → ∀ i, i < 4 → sp4 A (fun m => f * skF 4 A j m) i = 0 := by
    intro f j hj i hi
    unfold plu at hpl
    rcases (show j = 0 ∨ j = 1 ∨ j = 2 ∨ j = 3 by omega) with rfl | rfl | rfl | rfl <;> rcases (show i = 0 ∨ i = 1 ∨ i = 2 ∨ i = 3 by omega) with rfl | rfl | rfl | rfl <;> simp [sp4, skF, swi] <;> grind
  have hk : ldV A 6 ≤ 6 := ldV_le A 6
  have w1 : wI 4 (ldV A 6) < 4 := by unfold wI; split; omega; split <;> omega
  by_cases e : r = 0
  · by_cases hj : wJ 4 (ldV A 6) < 4
    · have := gen (- fi (A (ldV A 6))) _ hj i hi
      rw [e]
      exact this
    · have hz : ∀ m, m < 4 → skF 4 A (wJ 4 (ldV A 6)) m = 0 ∨ True := fun _ _ => Or.inr trivial
      have h6 : ¬ ldV A 6 < 6 := fun q => hj (wIJ_w (w := 4) (Or.inr rfl) q).2.1
      have hall := ldV_eq.mp (show ldV A 6 = 6 by omega)
      have a0 := hall 0 (by omega)
      have a1 := hall 1 (by omega)
      have a2 := hall 2 (by omega)
      have a3 := hall 3 (by omega)
      have a4 := hall 4 (by omega)
      have a5 := hall 5 (by omega)
      rcases (show i = 0 ∨ i = 1 ∨ i = 2 ∨ i = 3 by omega) with rfl | rfl | rfl | rfl <;> simp [sp4, a0, a1, a2, a3, a4, a5] <;> grind
  · have := gen (fi (A (ldV A 6))) _ w1 i hi
    have e2 : bwF 4 A r = fun m => fi (A (ldV A 6)) * skF 4 A (wI 4 (ldV A 6)) m := by
      funext m
      unfold bwF
      rw [if_neg e]
      rfl
    rw [e2]
    exact this
/-- the plane of two lines, as the class finds it -/
theorem pl_eq [NeZero P] {A B : Nat → Fin P} (hn : ldV B 6 < 6) : ptF (flF 6 A) (flF 6 B) = if crF 6 A B = 0 then (if ldV (sp4 A (bwF 4 B 0)) 4 < 4 then some (sxF 4 (flF 6 A) (bwF 4 (flF 6 (flF 6 B)) 0)) else if ldV (sp4 A (bwF 4 B 1)) 4 < 4 then some (sxF 4 (flF 6 A) (bwF 4 (flF 6 (flF 6 B)) 1)) else none) else none := by
  have e : ∀ r, ldV (sxF 4 (flF 6 A) (bwF 4 (flF 6 (flF 6 B)) r)) 4 = ldV (sp4 A (bwF 4 B r)) 4 := fun r => ld_cg (fun j hj => by
    rw [sx_sp A _ hj]
    exact sp_cg (fun k hk => bw_cg (fun k hk => fl_fl B hk) hn hk) j)
  unfold ptF
  rw [cr_fl, e 0, e 1]
theorem pl_v [NeZero P] {A B : Nat → Fin P} (hn : ldV B 6 < 6) (r : Nat) {j : Nat} (hj : j < 4) : sxF 4 (flF 6 A) (bwF 4 (flF 6 (flF 6 B)) r) j = sp4 A (bwF 4 B r) j := by
  rw [sx_sp A _ hj]
  exact sp_cg (fun k hk => bw_cg (fun k hk => fl_fl B hk) hn hk) j
theorem cr_self [NeZero P] {A : Nat → Fin P} (hpl : plu A) : crF 6 A A = 0 := by
  rw [cr_is]
  unfold plu at hpl
  grind
theorem ld_z [NeZero P] {x : Nat → Fin P} {n : Nat} (h : ∀ j, j < n → x j = 0) : ¬ ldV x n < n := by
  have := ldV_eq.mpr h
  omega
/-- the reference's plane of two lines that cross -/
theorem r_joined (hp0 : isP P) [NeZero P] (hB : P < 2 ^ 31) {sorts : Nat → Int32} {rows : Nat → Int64} (hS : sK sorts S c) (hK : rK c rows R) {a b : Nat} (ha : a < c) (hb : b < c) (hpl : plu (R b)) (hnb : nrm 6 (R b)) (hnz : ldV (sp4 (R a) (bwF 4 (R b) 0)) 4 < 4 ∨ ldV (sp4 (R a) (bwF 4 (R b) 1)) 4 < 4) (draft frame one two : Nat → Int64) : ∃ s' r' d' f' o' t', m_joined (nI 3) (lN P) (nI c) sorts rows draft frame one two (nI a) (nI b) = some ((kpF (wd 3 2) 2 (some (if ldV (sp4 (R a) (bwF 4 (R b) 0)) 4 < 4 then sp4 (R a) (bwF 4 (R b) 0) else sp4 (R a) (bwF 4 (R b) 1))) c S R).1, nI (kpF (wd 3 2) 2 (some (if ldV (sp4 (R a) (bwF 4 (R b) 0)) 4 < 4 then sp4 (R a) (bwF 4 (R b) 0) else sp4 (R a) (bwF 4 (R b) 1))) c S R).2.1, s', r', d', f', o', t') ∧ RO s' r' (kpF (wd 3 2) 2 (some (if ldV (sp4 (R a) (bwF 4 (R b) 0)) 4 < 4 then sp4 (R a) (bwF 4 (R b) 0) else sp4 (R a) (bwF 4 (R b) 1))) c S R) := by
  have hP := hp0.1
  obtain ⟨f1, o1, t1, a1, a2, a3⟩ := s_base hP hB (fr := frame) (one := one) (two := two) hK hb (Or.inr rfl)
  have hbb := ba_bw hp0 (d := 3) (Or.inr rfl) (L := R b) (fun _ => hpl) hnb.1
  have o2 : vo o1 4 (bwF 4 (R b) 0) := vo_congr a2 (fun j hj => (hbb j hj).1)
  have t2 : vo t1 4 (bwF 4 (R b) 1) := vo_congr a3 (fun j hj => (hbb j hj).2)
  obtain ⟨d1, b1, b2⟩ := s_spanned hP hB (draft := draft) hK ha o2
  have hn := s_isNothing hP hB (t := 2) (Or.inr rfl) (by omega) (show vo d1 (wd 3 2) _ from b2)
  by_cases e : ldV (sp4 (R a) (bwF 4 (R b) 0)) 4 < 4
  · rw [if_pos e]
    rw [if_neg (show ¬ ldV (sp4 (R a) (bwF 4 (R b) 0)) (wd 3 2) = wd 3 2 from by show ¬ ldV (sp4 (R a) (bwF 4 (R b) 0)) 4 = 4; omega)] at hn
    obtain ⟨s', r', d', c1, c2⟩ := r_made hp0 hB hK hS (Or.inr rfl) (show 2 < 5 by omega) (show vo d1 (wd 3 2) _ from b2) e
    refine ⟨s', r', d', f1, o1, t1, ?_, c2⟩
    have hn' : m_isNothing (nI 3) d1 2 = some 0 := hn
    have c1' : m_made (nI 3) (lN P) (nI c) sorts rows d1 2 = _ := c1
    unfold m_joined
    simp only [↓ob a1, ↓ob b1, ↓ob hn', ↓ob c1', ↓reduceIte]
  · rw [if_neg e]
    have hle := ldV_le (sp4 (R a) (bwF 4 (R b) 0)) 4
    rw [if_pos (show ldV (sp4 (R a) (bwF 4 (R b) 0)) (wd 3 2) = wd 3 2 from by show ldV (sp4 (R a) (bwF 4 (R b) 0)) 4 = 4; omega)] at hn
    have e2 : ldV (sp4 (R a) (bwF 4 (R b) 1)) 4 < 4 := by omega
    have key := loopP (f := m_joined_L20 t1) (d := o1) 4 (bwF 4 (R b) 1) ?_ ?_
    · obtain ⟨o3, k1, k2, -⟩ := key
      obtain ⟨d2, g1, g2⟩ := s_spanned hP hB (draft := d1) hK ha k2
      obtain ⟨s', r', d', c1, c2⟩ := r_made hp0 hB hK hS (Or.inr rfl) (show 2 < 5 by omega) (show vo d2 (wd 3 2) _ from g2) e2
      refine ⟨s', r', d', f1, o3, t1, ?_, c2⟩
      have hn' : m_isNothing (nI 3) d1 2 = some 1 := hn
      have c1' : m_made (nI 3) (lN P) (nI c) sorts rows d2 2 = _ := c1
      have k1' : itX (m_joined_L20 t1) (0, o1) = some o3 := k1
      have z1 : ((1 : Int32) = 0) = False := by simp
      unfold m_joined
      simp only [↓ob a1, ↓ob b1, ↓ob hn', z1, ↓ob k1', ↓ob g1, ↓ob c1', ↓reduceIte]
    · intro k d2 hk _
      unfold m_joined_L20
      simp (disch := omega) only [↓Option.bind_some, ↓Option.elim_some, ↓Option.elim_none, Option.bind_some, Option.elim_some, Option.elim_none, Option.some.injEq, Sum.inl.injEq, Sum.inr.injEq, ↓reduceIte, m_side, lit_nI, lz_I, nI_add, pk_mul, pk_sub, nI_ge, nI_le, nI_lt, nI_nlt, gi_t, nI_clamp, nI_eq, pk_rem, Nat.zero_add, Nat.reduceAdd, Nat.reduceMul, Nat.reduceSub, Nat.reduceMod, Nat.reduceEqDiff, reduceCtorEq, Nat.one_ne_zero, Nat.zero_ne_one, t2 k hk]
    · intro d2
      unfold m_joined_L20
      simp (disch := omega) only [↓Option.bind_some, ↓Option.elim_some, ↓Option.elim_none, Option.bind_some, Option.elim_some, Option.elim_none, Option.some.injEq, Sum.inl.injEq, Sum.inr.injEq, ↓reduceIte, m_side, lit_nI, lz_I, nI_add, pk_mul, pk_sub, nI_ge, nI_le, nI_lt, nI_nlt, gi_t, nI_clamp, nI_eq, pk_rem, Nat.zero_add, Nat.reduceAdd, Nat.reduceMul, Nat.reduceSub, Nat.reduceMod, Nat.reduceEqDiff, reduceCtorEq, Nat.one_ne_zero, Nat.zero_ne_one]
/-- join: class and reference -/
theorem st_join (hp0 : isP P) (ho : P % 2 = 1) [NeZero P] (hB : P < 2 ^ 31) (hI : shf d c S R) (hC : cS P d hp sz o ad im rw c S R H g Gs m pA pB id) {sorts : Nat → Int32} {rows : Nat → Int64} (hS : sK sorts S c) (hK : rK c rows R) (draft frame one two : Nat → Int64) (x1 x2 : Int32) : ∃ K, ext d c S R K ∧ CO P d hp sz o ad K H g Gs m pA pB id (f_X5_join hp sz o x1 x2) ∧ ∃ s' r' d' f' o' t', m_join (nI d) (lN P) (nI c) sorts rows draft frame one two x1 x2 = some (K.1, nI K.2.1, s', r', d', f', o', t') ∧ RO s' r' K := by
  have hP := hp0.1
  have hle := hC.le
  have hd := hC.hd
  have hw := hC.hw
  have he := hC.e
  have l0 := hC.r0
  have r9 := hC.r9
  have i5 := hC.i5
  have isx : ∀ i : Int32, (i < 0 ∨ nI c ≤ i) → ∀ t, m_is (nI c) sorts i t = some (nI 0) := fun i hi t => r_isX hi t
  rcases ix_cl c hle x1 with ⟨a, ha, rfl⟩ | hx1
  · rcases ix_cl c hle x2 with ⟨b, hb, rfl⟩ | hx2
    · have sa := hC.s5 ha
      have sb := hC.s5 hb
      have ia0 := r_is (t := 0) hS hle ha (by omega)
      have ia1 := r_is (t := 1) hS hle ha (by omega)
      have ib0 := r_is (t := 0) hS hle hb (by omega)
      have ib1 := r_is (t := 1) hS hle hb (by omega)
      have o01 : ∀ (p : Prop) [Decidable p], (if p then 1 else 0) = 0 ∨ (if p then 1 else 0) = 1 := fun p _ => by by_cases q : p; rw [if_pos q]; exact Or.inr rfl; rw [if_neg q]; exact Or.inl rfl
      have xa : ∀ x, (if S x = 0 then 1 else 0) = 0 ∨ (if S x = 1 then 1 else 0) = 0 := fun x => by
        by_cases q : S x = 0
        · rw [if_neg (show ¬ S x = 1 by omega)]
          exact Or.inr rfl
        · rw [if_neg q]
          exact Or.inl rfl
      have eq1 : ∀ (p : Prop) [Decidable p], ((if p then 1 else 0) = 1) ↔ p := fun p _ => by by_cases q : p <;> simp [q]
      have va := hC.v ha
      have vb := hC.v hb
      have na := (hI.1 a ha).1
      have nb := (hI.1 b hb).1
      have ka := (hI.1 a ha).2
      have kb := (hI.1 b hb).2
      have ta := hC.t ha
      have tb := hC.t hb
      have ra := hC.r ha
      have rb := hC.r hb
      have lw := hC.lower ha hb
      have hg := hC.higher ha hb
      by_cases h00 : S a = 0 ∧ S b = 0
      · obtain ⟨s0, t0⟩ := h00
        rw [s0] at va na ta ia0 ia1 lw hg
        rw [t0] at vb nb tb ib0 ib1 lw hg
        rw [if_neg (by omega)] at lw hg
        obtain ⟨q, hp1, sz1, a1, a2, a3⟩ := e_lineThrough hP hB he hw va vb
        have h1 := hC.gg a3
        rw [← wd1 hd] at a2
        have hcl := CO.kp (res := f_X5_join hp sz o (nI a) (nI b)) hp0 hB hC a3 (show 1 < 5 by omega) (r := some q) (y := some (lnF (d + 1) (R a) (R b))) ⟨q, rfl, a2⟩ (fun v hv => by
          rcases v with ⟨v1, v2, v3⟩
          have hv' : f_X5_keep hp1 sz1 o 1 (some q) = some (v1, v2, v3) := hv
          have z0 : nI 0 = (0 : Int32) := rfl
          unfold f_X5_join
          simp only [↓ob l0, hC.o3, ↓ob lw, ↓ob hg, ↓Option.elim_some, ↓ob ta, ↓ob tb, z0, ↓ob r9, ↓ob ra, ↓ob rb, he.o4, ↓ob a1, h1.o5, ↓ob hv', ↓reduceIte])
        refine ⟨_, ext_kp hp0 hI hle (fun _ => ⟨by omega, by omega, fun _ e3 => ?_, by omega, by omega⟩), hcl, ?_⟩
        · subst e3
          exact plu_wg (R a) (R b)
        · obtain ⟨o1, c1, c2⟩ := s_takeOne (one := one) hK ha (show d < 8 by omega)
          obtain ⟨o2, c3, c4⟩ := s_takeTwo (one := two) hK hb (show d < 8 by omega)
          have hth : ∃ dr, m_through (nI d) (lN P) draft o1 o2 = some dr ∧ vo dr (wd d 1) (lnF (d + 1) (R a) (R b)) := by
            rcases hd with rfl | rfl
            · obtain ⟨dr, e1, e2⟩ := s_through2 hP hB (draft := draft) c2 c4
              exact ⟨dr, e1, vo_congr e2 (fun k hk => (ln_cr (R a) (R b) hk).symm)⟩
            · obtain ⟨dr, e1, e2⟩ := s_through3 hP hB (draft := draft) c2 c4
              exact ⟨dr, e1, vo_congr e2 (fun k hk => (ln_wg (R a) (R b) hk).symm)⟩
          obtain ⟨dr, e1, e2⟩ := hth
          have ia0' : m_is (nI c) sorts (nI a) 0 = some (nI 1) := ia0
          have ib0' : m_is (nI c) sorts (nI b) 0 = some (nI 1) := ib0
          by_cases hab : a = b
          · subst hab
            rw [kp_0 (fun j _ => ln_same (R a) j)]
            refine ⟨sorts, rows, dr, frame, o1, o2, ?_, hS, hK⟩
            unfold m_join
            simp only [↓ob ia0', n10, ↓ob c1, ↓ob c3, ↓ob e1, ↓reduceIte]
          · have hne : ¬ ∀ j, j < d + 1 → R a j = R b j := fun q => hab (hI.2 a b ha hb (by rw [s0, t0]) (by rw [s0]; exact q))
            have hnz := ln_nz hp0 hw na nb hne
            rw [← wd1 hd] at hnz
            obtain ⟨s', r', d', f1, f2⟩ := r_made hp0 hB hK hS hd (show 1 < 5 by omega) e2 hnz
            refine ⟨s', r', d', frame, o1, o2, ?_, f2⟩
            have hne2 : (nI a = nI b) = False := n_ne hab (by omega) (by omega)
            have f1' : m_made (nI d) (lN P) (nI c) sorts rows dr 1 = _ := f1
            unfold m_join
            simp only [↓ob ia0', ↓ob ib0', n10, ↓ob c1, ↓ob c3, ↓ob e1, hne2, ↓ob f1', ↓reduceIte]
      · by_cases hbad : d = 2 ∨ ¬ ((S a = 0 ∨ S a = 1) ∧ (S b = 0 ∨ S b = 1))
        · refine ⟨(-2, c, S, R), ext_id hI hle _, CO.same hC gro.rf (c_joinB hp0 ho hB hI hC hS hK ha hb h00 ?_), sorts, rows, draft, frame, one, two, r_joinB hd ia0 ia1 ib0 ib1 (o01 _) (o01 _) (o01 _) (o01 _) (xa a) (xa b) ?_ ?_, hS, hK⟩
          · rcases hbad with q | q
            · exact Or.inl q
            · refine Or.inr (fun q2 => q ?_)
              by_cases c1 : S b < S a
              · rw [if_pos c1] at q2
                omega
              · rw [if_neg c1] at q2
                omega
          · rw [eq1, eq1]
            exact h00
          · rw [eq1, eq1, eq1, eq1]
            exact hbad
        · have hd3 : d = 3 := by omega
          subst hd3
          have hS01 : (S a = 0 ∨ S a = 1) ∧ (S b = 0 ∨ S b = 1) := Classical.byContradiction (fun q => hbad (Or.inr q))
          have d2 : (nI 3 = (2 : Int32)) = False := by simp; decide
          have d33 : (nI 3 = (3 : Int32)) = True := by simp; decide
          by_cases h11 : S a = 1 ∧ S b = 1
          · obtain ⟨s1, t1⟩ := h11
            rw [s1] at va na ta ka lw hg
            rw [t1] at vb nb tb kb lw hg
            rw [if_neg (by omega)] at lw hg
            have ia0' : m_is (nI c) sorts (nI a) 0 = some (nI 0) := r_isF (t := 0) hS hle ha (by omega) (by omega)
            have ia1' : m_is (nI c) sorts (nI a) 1 = some (nI 1) := r_isT (t := 1) hS hle ha s1 (by omega)
            have ib1' : m_is (nI c) sorts (nI b) 1 = some (nI 1) := r_isT (t := 1) hS hle hb t1 (by omega)
            have nb6 : nrm 6 (R b) := nb
            have na6 : nrm 6 (R a) := na
            have pla : plu (R a) := ka.2.2.1 rfl rfl
            have plb : plu (R b) := kb.2.2.1 rfl rfl
            obtain ⟨q, hp1, sz1, a1, a2, a3⟩ := e_planeOfLines hP hB he (A := R a) (B := R b) va vb (by rw [ld_cg (fun j hj => fl_fl (R b) hj)]; exact nb6.1)
            have h1 := hC.gg a3
            have hcl := CO.kp (res := f_X5_join hp sz o (nI a) (nI b)) hp0 hB hC a3 (show 2 < 5 by omega) (r := q) (y := ptF (flF 6 (R a)) (flF 6 (R b))) a2 (fun v hv => by
              rcases v with ⟨v1, v2, v3⟩
              have hv' : f_X5_keep hp1 sz1 o 2 q = some (v1, v2, v3) := hv
              unfold f_X5_join f_X5_join_J70
              simp only [↓ob l0, hC.o3, ↓ob lw, ↓ob hg, ↓Option.elim_some, ↓ob ta, ↓ob tb, n10, n11, ↓ob i5, d2, ↓ob r9, ↓ob ra, ↓ob rb, he.o4, Nat.reduceLeDiff, Nat.reduceSub, ↓ob a1, h1.o5, ↓ob hv', ↓reduceIte])
            rw [pl_eq nb6.1] at hcl
            by_cases hab : a = b
            · subst hab
              have hz : ∀ r, ¬ ldV (sp4 (R a) (bwF 4 (R a) r)) 4 < 4 := fun r => ld_z (fun j hj => on_self pla r hj)
              rw [if_pos (cr_self pla), if_neg (hz 0), if_neg (hz 1)] at hcl
              refine ⟨(-1, c, S, R), ext_id hI hle _, hcl, sorts, rows, draft, frame, one, two, ?_, hS, hK⟩
              unfold m_join m_join_J47
              simp only [↓ob ia0', ↓ob ia1', n00, n10, d33, ↓reduceIte]
            · have hne2 : (nI a = nI b) = False := n_ne hab (by omega) (by omega)
              have hcr := s_isCrossed hP hB hK ha hb
              rw [← cr_is] at hcr
              by_cases hc0 : crF 6 (R a) (R b) = 0
              · rw [if_pos hc0] at hcl hcr
                have hnz : ldV (sp4 (R a) (bwF 4 (R b) 0)) 4 < 4 ∨ ldV (sp4 (R a) (bwF 4 (R b) 1)) 4 < 4 := by
                  refine Classical.byContradiction (fun q => hab (hI.2 a b ha hb (by rw [s1, t1]) ?_))
                  rw [s1]
                  have hl0 := ldV_le (sp4 (R a) (bwF 4 (R b) 0)) 4
                  have hl1 := ldV_le (sp4 (R a) (bwF 4 (R b) 1)) 4
                  exact two_eq hp0 na6 nb6 plb (ldV_eq.mp (by omega)) (ldV_eq.mp (by omega))
                have e1 : (if ldV (sp4 (R a) (bwF 4 (R b) 0)) 4 < 4 then some (sxF 4 (flF 6 (R a)) (bwF 4 (flF 6 (flF 6 (R b))) 0)) else if ldV (sp4 (R a) (bwF 4 (R b) 1)) 4 < 4 then some (sxF 4 (flF 6 (R a)) (bwF 4 (flF 6 (flF 6 (R b))) 1)) else none) = some (if ldV (sp4 (R a) (bwF 4 (R b) 0)) 4 < 4 then sxF 4 (flF 6 (R a)) (bwF 4 (flF 6 (flF 6 (R b))) 0) else sxF 4 (flF 6 (R a)) (bwF 4 (flF 6 (flF 6 (R b))) 1)) := by
                  by_cases q : ldV (sp4 (R a) (bwF 4 (R b) 0)) 4 < 4
                  · rw [if_pos q, if_pos q]
                  · rw [if_neg q, if_neg q, if_pos (by omega)]
                rw [e1, kp_cg (x := if ldV (sp4 (R a) (bwF 4 (R b) 0)) 4 < 4 then sp4 (R a) (bwF 4 (R b) 0) else sp4 (R a) (bwF 4 (R b) 1)) hp0 (fun j hj => by
                  by_cases q : ldV (sp4 (R a) (bwF 4 (R b) 0)) 4 < 4
                  · rw [if_pos q, if_pos q]
                    exact pl_v nb6.1 0 hj
                  · rw [if_neg q, if_neg q]
                    exact pl_v nb6.1 1 hj)] at hcl
                obtain ⟨s', r', d', f', o', t', g1, g2⟩ := r_joined hp0 hB hS hK ha hb plb nb6 hnz draft frame one two
                refine ⟨_, ext_kp hp0 hI hle (fun _ => ⟨by omega, by omega, by omega, by omega, by omega⟩), hcl, s', r', d', f', o', t', ?_, g2⟩
                have z1 : ((1 : Int32) = 0) = False := by simp
                unfold m_join m_join_J47
                simp only [↓ob ia0', ↓ob ia1', ↓ob ib1', n00, n10, d33, hne2, ↓ob hcr, z1, ↓ob g1, ↓reduceIte]
              · rw [if_neg hc0] at hcl hcr
                refine ⟨(-1, c, S, R), ext_id hI hle _, hcl, sorts, rows, draft, frame, one, two, ?_, hS, hK⟩
                unfold m_join m_join_J47
                simp only [↓ob ia0', ↓ob ia1', ↓ob ib1', n00, n10, d33, hne2, ↓ob hcr, ↓reduceIte]
          · have gen : ∀ x y, x < c → y < c → S x = 0 → S y = 1 → f_X3_lower hp (ad 0) (nI a) (nI b) = some (some (im x)) → f_X3_higher hp (ad 0) (nI a) (nI b) = some (some (im y)) → CO P 3 hp sz o ad (kpF (wd 3 2) 2 (some (sp4 (R y) (R x))) c S R) H g Gs m pA pB id (f_X5_join hp sz o (nI a) (nI b)) := by
              intro x y hx hy sx sy lw hg
              have vx := hC.v hx
              have vy := hC.v hy
              have tx := hC.t hx
              have ty := hC.t hy
              have rx := hC.r hx
              have ry := hC.r hy
              rw [sx] at vx tx
              rw [sy] at vy ty
              obtain ⟨q, hp1, sz1, a1, a2, a3⟩ := e_planeThrough hP hB he hw (L := R y) (x := R x) vy vx
              have h1 := hC.gg a3
              have hcl := CO.kp (res := f_X5_join hp sz o (nI a) (nI b)) hp0 hB hC a3 (show 2 < 5 by omega) (r := some q) (y := some (sxF 4 (flF 6 (R y)) (R x))) ⟨q, rfl, a2⟩ (fun v hv => by
                rcases v with ⟨v1, v2, v3⟩
                have hv' : f_X5_keep hp1 sz1 o 2 (some q) = some (v1, v2, v3) := hv
                unfold f_X5_join f_X5_join_J70
                simp only [↓ob l0, hC.o3, ↓ob lw, ↓ob hg, ↓Option.elim_some, ↓ob tx, ↓ob ty, n00, n10, n11, ↓ob i5, d2, ↓ob r9, ↓ob rx, ↓ob ry, he.o4, Nat.reduceLeDiff, Nat.reduceSub, ↓ob a1, h1.o5, ↓ob hv', ↓reduceIte])
              rw [kp_cg (W := wd 3 2) (y := sxF 4 (flF 6 (R y)) (R x)) (x := sp4 (R y) (R x)) hp0 (fun j hj => sx_sp (R y) (R x) hj)] at hcl
              exact hcl
            by_cases s0 : S a = 0
            · have t1 : S b = 1 := by omega
              rw [s0, t1, if_neg (by omega)] at lw hg
              have hcl := gen a b ha hb s0 t1 lw hg
              have ia0' : m_is (nI c) sorts (nI a) 0 = some (nI 1) := r_isT (t := 0) hS hle ha s0 (by omega)
              have ia1' : m_is (nI c) sorts (nI a) 1 = some (nI 0) := r_isF (t := 1) hS hle ha (by omega) (by omega)
              have ib0' : m_is (nI c) sorts (nI b) 0 = some (nI 0) := r_isF (t := 0) hS hle hb (by omega) (by omega)
              have ib1' : m_is (nI c) sorts (nI b) 1 = some (nI 1) := r_isT (t := 1) hS hle hb t1 (by omega)
              obtain ⟨o1, c1, c2⟩ := s_takeOne (one := one) hK ha (show 3 < 8 by omega)
              obtain ⟨d1, e1, e2⟩ := s_spanned hP hB (draft := draft) hK hb c2
              obtain ⟨s', r', d', g1, g2⟩ := r_madeN hp0 hB hK hS (Or.inr rfl) (show 2 < 5 by omega) (show vo d1 (wd 3 2) _ from e2)
              refine ⟨_, ext_kp hp0 hI hle (fun _ => ⟨by omega, by omega, by omega, by omega, by omega⟩), hcl, s', r', d', frame, o1, two, ?_, g2⟩
              have g1' : m_madeOrNone (nI 3) (lN P) (nI c) sorts rows d1 2 = _ := g1
              unfold m_join m_join_J47 m_join_J98
              simp only [↓ob ia0', ↓ob ia1', ↓ob ib0', ↓ob ib1', n00, n10, d33, d2, ↓ob c1, ↓ob e1, ↓ob g1', ↓reduceIte]
            · have s1 : S a = 1 := by omega
              have t0 : S b = 0 := by omega
              rw [s1, t0, if_pos (by omega)] at lw hg
              have hcl := gen b a hb ha t0 s1 lw hg
              have ia0' : m_is (nI c) sorts (nI a) 0 = some (nI 0) := r_isF (t := 0) hS hle ha (by omega) (by omega)
              have ia1' : m_is (nI c) sorts (nI a) 1 = some (nI 1) := r_isT (t := 1) hS hle ha s1 (by omega)
              have ib0' : m_is (nI c) sorts (nI b) 0 = some (nI 1) := r_isT (t := 0) hS hle hb t0 (by omega)
              have ib1' : m_is (nI c) sorts (nI b) 1 = some (nI 0) := r_isF (t := 1) hS hle hb (by omega) (by omega)
              obtain ⟨o1, c1, c2⟩ := s_takeOne (one := one) hK hb (show 3 < 8 by omega)
              obtain ⟨d1, e1, e2⟩ := s_spanned hP hB (draft := draft) hK ha c2
              obtain ⟨s', r', d', g1, g2⟩ := r_madeN hp0 hB hK hS (Or.inr rfl) (show 2 < 5 by omega) (show vo d1 (wd 3 2) _ from e2)
              refine ⟨_, ext_kp hp0 hI hle (fun _ => ⟨by omega, by omega, by omega, by omega, by omega⟩), hcl, s', r', d', frame, o1, two, ?_, g2⟩
              have g1' : m_madeOrNone (nI 3) (lN P) (nI c) sorts rows d1 2 = _ := g1
              unfold m_join m_join_J47 m_join_J98
              simp only [↓ob ia0', ↓ob ia1', ↓ob ib0', ↓ob ib1', n00, n10, d33, d2, ↓ob c1, ↓ob e1, ↓ob g1', ↓reduceIte]
    · refine ⟨(-2, c, S, R), ext_id hI hle _, CO.same hC gro.rf (c_joinX hp0 ho hB hI hC hS hK (Or.inr hx2)), sorts, rows, draft, frame, one, two, ?_, hS, hK⟩
      have ia0 := r_is (t := 0) hS hle ha (by omega)
      have ia1 := r_is (t := 1) hS hle ha (by omega)
      have ib0 := isx x2 hx2 0
      have ib1 := isx x2 hx2 1
      have o01 : ∀ (p : Prop) [Decidable p], (if p then 1 else 0) = 0 ∨ (if p then 1 else 0) = 1 := fun p _ => by by_cases q : p; rw [if_pos q]; exact Or.inr rfl; rw [if_neg q]; exact Or.inl rfl
      refine r_joinB hd ia0 ia1 ib0 ib1 (o01 _) (o01 _) (Or.inl rfl) (Or.inl rfl) ?_ (Or.inl rfl) (by omega) (by omega)
      by_cases q : S a = 0
      · rw [if_neg (show ¬ S a = 1 by omega)]
        exact Or.inr rfl
      · rw [if_neg q]
        exact Or.inl rfl
  · refine ⟨(-2, c, S, R), ext_id hI hle _, CO.same hC gro.rf (c_joinX hp0 ho hB hI hC hS hK (Or.inl hx1)), sorts, rows, draft, frame, one, two, ?_, hS, hK⟩
    have ia0 := isx x1 hx1 0
    have ia1 := isx x1 hx1 1
    have hb : ∃ b0 b1, m_is (nI c) sorts x2 0 = some (nI b0) ∧ m_is (nI c) sorts x2 1 = some (nI b1) ∧ (b0 = 0 ∨ b0 = 1) ∧ (b1 = 0 ∨ b1 = 1) ∧ (b0 = 0 ∨ b1 = 0) := by
      rcases ix_cl c hle x2 with ⟨b, hb, rfl⟩ | hx2
      · have ib0 := r_is (t := 0) hS hle hb (by omega)
        have ib1 := r_is (t := 1) hS hle hb (by omega)
        refine ⟨_, _, ib0, ib1, ?_⟩
        by_cases q : S b = 0
        · rw [if_neg (show ¬ S b = 1 by omega), if_pos q]
          omega
        · rw [if_neg q]
          by_cases q2 : S b = 1
          · rw [if_pos q2]
            omega
          · rw [if_neg q2]
            omega
      · exact ⟨0, 0, isx x2 hx2 0, isx x2 hx2 1, by omega, by omega, by omega⟩
    obtain ⟨b0, b1, ib0, ib1, h1, h2, h3⟩ := hb
    exact r_joinB hd ia0 ia1 ib0 ib1 (Or.inl rfl) (Or.inl rfl) h1 h2 (Or.inl rfl) h3 (by omega) (by omega)
end JOIN2
