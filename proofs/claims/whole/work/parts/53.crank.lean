section CRANK
variable {P : Nat}
theorem gro.gS {hp hp1 hp2 : cH} {sz sz1 a h : Nat} {g : Nat → Nat} (h1 : gro hp sz hp1 sz1) (e : oth hp1 hp2 (gS a h g)) (ha : sz ≤ a) (hg : ∀ i, i < h → sz ≤ g i) : gro hp sz hp2 sz1 := by
  refine ⟨fun b hb => ?_, h1.2⟩
  rw [e b (fun q => ?_), h1.1 b hb]
  rcases q with q | ⟨i, hi, q⟩
  · exact hb (by rw [q]; exact ha)
  · exact hb (by rw [q]; exact hg i hi)
theorem e_rankOf [NeZero P] (hP : 2 < P) (hB : P < 2 ^ 31) {hp : cH} {w so ro fo sz a m v : Nat} {A : Nat → Nat} {X : Nat → Nat → Fin P} (he : eV P w so ro fo hp sz) (hX : gP hp sz a m v A X) (hm : m ≤ 9) (hm0 : 0 < m) (hv : v ≤ 16) : ∃ hp' sz', f_X2_rankOf hp sz ro a = some (nI (gj m X v).1, hp', sz') ∧ gro hp sz hp' sz' := by
  obtain ⟨hp1, a1, a2, a3⟩ := nR_h (hp := hp) (sz := sz) (n := m) (by omega)
  have key := it_inv (f := fun s : Int32 × cH × Nat × Nat => f_X2_rankOf_L8 a sz s.1 s.2.1 s.2.2.1 s.2.2.2) (fun k s => s.1 = nI k ∧ s.2.2.1 = sz + 1 + k ∧ s.2.2.2 = 9 - k ∧ gro hp sz s.2.1 s.2.2.1 ∧ ∃ G, s.2.1 sz = some (.inl (3, m, .inr (.inr (.inr (.inr G))))) ∧ ∀ i, i < k → G i = some (sz + 1 + i) ∧ fa s.2.1 (sz + 1 + i) v (X i)) m (fun r => gro hp sz r.1 r.2.1 ∧ ∃ G, r.1 sz = some (.inl (3, m, .inr (.inr (.inr (.inr G))))) ∧ ∀ i, i < m → G i = some (sz + 1 + i) ∧ fa r.1 (sz + 1 + i) v (X i)) ?_ ?_ (nI 0, hp1, sz + 1, 9) ⟨rfl, rfl, rfl, a3, _, a2, fun i hi => by omega⟩
  · obtain ⟨⟨hp2, sz2, rc2⟩, k1, k2, G, k3, k4⟩ := key
    dsimp only at k2 k3 k4
    have he2 := he.g k2
    have hX2 := hX.g k2
    have hgq : gq hp2 sz m v X (fun i => sz + 1 + i) := ⟨⟨G, k3, fun i hi => (k4 i hi).1⟩, fun i hi => (k4 i hi).2, fun i j _ _ e => by have e2 : sz + 1 + i = sz + 1 + j := e; omega⟩
    obtain ⟨hp3, g3, b1, b2, b3, b4⟩ := t_elim hP hB he2.R hgq (by omega) (by omega) (Nat.le_refl v)
    have l1 := hX2.len
    have l2 : lR 3 hp2 sz 0 = some (some (sz + 1 + 0)) := gq_ld hgq hm0 (by omega)
    have l3 := aN_fa (k4 0 hm0).2
    refine ⟨hp3, sz2, ?_, k2.gS b3 (Nat.le_refl _) (fun i _ => by omega)⟩
    have hx := hX.len
    have hmz : ¬ nI m = 0 := by
      rw [show (0 : Int32) = nI 0 from rfl, nI_eq (by omega) (by omega)]
      omega
    have k1' : itX (fun s : Int32 × cH × Nat × Nat => f_X2_rankOf_L8 a sz s.1 s.2.1 s.2.2.1 s.2.2.2) (0, hp1, sz + 1, 9) = some (hp2, sz2, rc2) := k1
    unfold f_X2_rankOf
    simp (disch := omega) only [↓Option.bind_some, ↓Option.elim_some, ↓Option.elim_none, Option.bind_some, Option.elim_some, Option.elim_none, Option.some.injEq, Sum.inl.injEq, Sum.inr.injEq, ↓reduceIte, m_side, lit_nI, lz_I, nI_add, pk_mul, pk_sub, nI_ge, nI_le, nI_lt, nI_nlt, gi_t, nI_clamp, nI_eq, pk_rem, Nat.zero_add, Nat.reduceAdd, Nat.reduceMul, Nat.reduceSub, Nat.reduceMod, Nat.reduceEqDiff, reduceCtorEq, Nat.one_ne_zero, Nat.zero_ne_one, ↓ob hx, ↓ob a1, ↓ob k1', ↓ob l1, ↓ob l2, ↓ob l3, ↓ob b1, ↓ob he2.w4, ↓ob he2.r4, ↓ob he2.f4, ↓ob he2.w2, ↓ob he2.f2, ↓ob he2.p0, he2.o4, he2.o2, he2.o0, ↓(fun a b => @ob _ _ _ (he2.tm hP hB a b)), ↓(fun a b => @ob _ _ _ (he2.pl hP hB a b)), ↓(fun a b => @ob _ _ _ (he2.mi hP hB a b)), ↓(fun a => @ob _ _ _ (he2.rc hP hB a)), ↓(fun a => @ob _ _ _ (he2.ng hB a)), (show ¬ m = 0 by omega)]
  · rintro k ⟨k', hp2, sz2, rc2⟩ hk ⟨e1, e2, e3, h1, G, h2, h3⟩
    dsimp only at e1 e2 e3 h1 h2 h3
    subst e1
    subst e2
    subst e3
    have hX2 := hX.g h1
    obtain ⟨hp3, b1, b2, b3⟩ := c_fa (sz := sz + 1 + k) (hX2.at hk).1 (by omega)
    have hsz : hp3 sz = some (.inl (3, m, .inr (.inr (.inr (.inr G))))) := by rw [b3 sz (by show ¬ sz = sz + 1 + k; omega)]; exact h2
    obtain ⟨hp4, c1, c2, c3⟩ := sR_h hsz hk (by omega) (fa_okR b2)
    obtain ⟨aw, aj, -⟩ := aJ_fa b2
    have l1 := hX2.len
    have l2 := hX2.ld hk (by omega)
    refine ⟨(nI (k + 1), hp4, sz + 1 + k + 1, 9 - k - 1), ?_, rfl, by (try dsimp only); omega, by (try dsimp only); omega, ?_, ?_⟩
    · (try dsimp only)
      unfold f_X2_rankOf_L8
      simp (disch := omega) only [↓Option.bind_some, ↓Option.elim_some, ↓Option.elim_none, Option.bind_some, Option.elim_some, Option.elim_none, Option.some.injEq, Sum.inl.injEq, Sum.inr.injEq, ↓reduceIte, m_side, lit_nI, lz_I, nI_add, pk_mul, pk_sub, nI_ge, nI_le, nI_lt, nI_nlt, gi_t, nI_clamp, nI_eq, pk_rem, Nat.zero_add, Nat.reduceAdd, Nat.reduceMul, Nat.reduceSub, Nat.reduceMod, Nat.reduceEqDiff, reduceCtorEq, Nat.one_ne_zero, Nat.zero_ne_one, ↓ob l1, ↓ob l2, ↓ob b1, ↓ob aj, ↓ob c1, (show 1 ≤ 9 - k by omega)]
    · (try dsimp only)
      have g1 : gro hp sz hp3 (sz + 1 + k + 1) := ⟨fun b hb => by rw [b3 b (by show ¬ b = sz + 1 + k; omega), h1.1 b hb], by omega⟩
      exact g1.st c3 (Nat.le_refl _)
    · (try dsimp only)
      refine ⟨_, c2, fun i hi => ?_⟩
      by_cases e : i = k
      · subst e
        exact ⟨by simp [va_up], fa_of b2 (c3 _ (by show ¬ _ = sz; omega))⟩
      · obtain ⟨q1, q2⟩ := h3 i (by omega)
        exact ⟨by simp [va_up, e]; exact q1, fa_of (fa_of q2 (b3 _ (by show ¬ _ = sz + 1 + k; omega))) (c3 _ (by show ¬ _ = sz; omega))⟩
  · rintro ⟨k', hp2, sz2, rc2⟩ ⟨e1, e2, e3, h1, G, h2, h3⟩
    dsimp only at e1 e2 e3 h1 h2 h3
    subst e1
    have hX2 := hX.g h1
    have l1 := hX2.len
    refine ⟨(hp2, sz2, rc2), ?_, h1, G, h2, h3⟩
    (try dsimp only)
    unfold f_X2_rankOf_L8
    simp (disch := omega) only [↓Option.bind_some, ↓Option.elim_some, ↓Option.elim_none, Option.bind_some, Option.elim_some, Option.elim_none, Option.some.injEq, Sum.inl.injEq, Sum.inr.injEq, ↓reduceIte, m_side, lit_nI, lz_I, nI_add, pk_mul, pk_sub, nI_ge, nI_le, nI_lt, nI_nlt, gi_t, nI_clamp, nI_eq, pk_rem, Nat.zero_add, Nat.reduceAdd, Nat.reduceMul, Nat.reduceSub, Nat.reduceMod, Nat.reduceEqDiff, reduceCtorEq, Nat.one_ne_zero, Nat.zero_ne_one, ↓ob l1]
theorem e_conditions [NeZero P] (hP : 2 < P) (hB : P < 2 ^ 31) {hp : cH} {w so ro fo sz a m : Nat} {A : Nat → Nat} {X : Nat → Nat → Fin P} (he : eV P w so ro fo hp sz) (hw : w = 3 ∨ w = 4) (hX : gP hp sz a m w A X) (hm : m ≤ 9) : ∃ d, f_X4_quadricConditions hp sz so a = some (sz, hG hp sz m (stw w w) d, sz + 1 + m) ∧ fok d (cnM w X) m (stw w w) := by
  have hs := stw_le hw (Nat.le_refl w)
  have hXg : ∀ d, gP (hG hp sz m (stw w w) d) (sz + 1 + m) a m w A X := fun d => hX.g gro.ng
  have key := eloopM (P := P) (f := fun s => f_X4_quadricConditions_L22 so a sz s.1 s.2) (emb := hG hp sz m (stw w w)) (d := fun _ => 0) (N := m) (fun r l => l / 20 = r ∧ l % 20 < stw w w) (fun l => cnV w (X (l / 20)) (l % 20)) ?_ ?_
  · obtain ⟨d', k1, k2, -⟩ := key
    refine ⟨d', ?_, fun i j hi hj => ?_⟩
    · have e1 : nI (w * (w + 1)) / nI 2 = nI (stw w w) := by
        rw [pk_div (by rcases hw with rfl | rfl <;> decide) (by decide) (by decide), stw_w hw]
      have l := hX.len
      unfold f_X4_quadricConditions
      simp (disch := omega) only [↓Option.bind_some, ↓Option.elim_some, ↓Option.elim_none, Option.bind_some, Option.elim_some, Option.elim_none, Option.some.injEq, Sum.inl.injEq, Sum.inr.injEq, ↓reduceIte, m_side, lit_nI, lz_I, nI_add, pk_mul, pk_sub, nI_ge, nI_le, nI_lt, nI_nlt, gi_t, nI_clamp, nI_eq, pk_rem, Nat.zero_add, Nat.reduceAdd, Nat.reduceMul, Nat.reduceSub, Nat.reduceMod, Nat.reduceEqDiff, reduceCtorEq, Nat.one_ne_zero, Nat.zero_ne_one, ↓ob l, ↓ob he.w4, ↓ob he.r4, ↓ob he.f4, ↓ob he.w2, ↓ob he.f2, ↓ob he.p0, he.o4, he.o2, he.o0, ↓(fun a b => @ob _ _ _ (he.tm hP hB a b)), ↓(fun a b => @ob _ _ _ (he.pl hP hB a b)), ↓(fun a b => @ob _ _ _ (he.mi hP hB a b)), ↓(fun a => @ob _ _ _ (he.rc hP hB a)), ↓(fun a => @ob _ _ _ (he.ng hB a)), e1, nM_h, k1]
    · have := k2 i (20 * i + j) hi ⟨by omega, by omega⟩
      rw [this, show (20 * i + j) / 20 = i by omega, show (20 * i + j) % 20 = j by omega]
      rfl
  · intro r d1 hr
    have key := epair (f1 := fun s => f_X4_quadricConditions_L34 so a sz (nI r) s.1 s.2.1 s.2.2) (f2 := fun i s => f_X4_quadricConditions_L47 so a sz (nI r) (nI i) s.1 s.2.1 s.2.2) (emb := hG hp sz m (stw w w)) (d := d1) w 0 (by omega) (stw w) rfl (fun i hi => by rw [Nat.sub_zero]; exact stw_s hw hi) (fun c d => (∀ j, j < c → d (20 * r + j) = fL (cnV w (X r) j)) ∧ ∀ l, ¬ (l / 20 = r ∧ l % 20 < stw w w) → d l = d1 l) ⟨fun j hj => by omega, fun _ _ => rfl⟩ ?_ ?_ ?_ ?_
    · obtain ⟨d2, k1, k2, k3⟩ := key
      refine ⟨d2, ?_, fun l hl => ?_, k3⟩
      · (try dsimp only)
        have l := (hXg d1).len
        unfold f_X4_quadricConditions_L22
        simp (disch := omega) only [↓Option.bind_some, ↓Option.elim_some, ↓Option.elim_none, Option.bind_some, Option.elim_some, Option.elim_none, Option.some.injEq, Sum.inl.injEq, Sum.inr.injEq, ↓reduceIte, m_side, lit_nI, lz_I, nI_add, pk_mul, pk_sub, nI_ge, nI_le, nI_lt, nI_nlt, gi_t, nI_clamp, nI_eq, pk_rem, Nat.zero_add, Nat.reduceAdd, Nat.reduceMul, Nat.reduceSub, Nat.reduceMod, Nat.reduceEqDiff, reduceCtorEq, Nat.one_ne_zero, Nat.zero_ne_one, ↓ob l, k1]
      · obtain ⟨q1, q2⟩ := hl
        have := k2 (l % 20) q2
        rw [show 20 * r + l % 20 = l by omega] at this
        rw [this, q1]
    · intro i c d2 hi
      have he2 := he.q m (stw w w) d2
      unfold f_X4_quadricConditions_L34
      simp (disch := omega) only [↓Option.bind_some, ↓Option.elim_some, ↓Option.elim_none, Option.bind_some, Option.elim_some, Option.elim_none, Option.some.injEq, Sum.inl.injEq, Sum.inr.injEq, ↓reduceIte, m_side, lit_nI, lz_I, nI_add, pk_mul, pk_sub, nI_ge, nI_le, nI_lt, nI_nlt, gi_t, nI_clamp, nI_eq, pk_rem, Nat.zero_add, Nat.reduceAdd, Nat.reduceMul, Nat.reduceSub, Nat.reduceMod, Nat.reduceEqDiff, reduceCtorEq, Nat.one_ne_zero, Nat.zero_ne_one, ↓ob he2.w4, ↓ob he2.r4, ↓ob he2.f4, ↓ob he2.w2, ↓ob he2.f2, ↓ob he2.p0, he2.o4, he2.o2, he2.o0, ↓(fun a b => @ob _ _ _ (he2.tm hP hB a b)), ↓(fun a b => @ob _ _ _ (he2.pl hP hB a b)), ↓(fun a b => @ob _ _ _ (he2.mi hP hB a b)), ↓(fun a => @ob _ _ _ (he2.rc hP hB a)), ↓(fun a => @ob _ _ _ (he2.ng hB a)), Nat.add_zero]
    · intro i j d2 hij hj hv
      have he2 := he.q m (stw w w) d2
      rw [Nat.sub_zero] at hv ⊢
      have hp2 := pIJ hw (show i ≤ j by omega) hj
      have l1 := (hXg d2).ld hr (by omega)
      have l2 := ((hXg d2).at hr).ld (show i < w by omega) (by omega)
      have l3 := ((hXg d2).at hr).ld hj (by omega)
      have l4 := lR_h (hp := hp) (a := sz) (N := m) (k := stw w w) (d := d2) hr (by omega)
      refine ⟨vp_updL d2 (20 * r + (stw w i + (j - i))) (fL (cnV w (X r) (stw w i + (j - i)))), ?_, fun k hk => ?_, fun l hl => ?_⟩
      · have e2 : cnV w (X r) (stw w i + (j - i)) = if i = j then X r i * X r j else X r i * X r j + X r i * X r j := by
          unfold cnV
          rw [hp2.1, hp2.2.1]
        rw [e2]
        unfold f_X4_quadricConditions_L47
        by_cases e : i = j
        · rw [if_pos e]
          subst e
          simp (disch := omega) only [↓Option.bind_some, ↓Option.elim_some, ↓Option.elim_none, Option.bind_some, Option.elim_some, Option.elim_none, Option.some.injEq, Sum.inl.injEq, Sum.inr.injEq, ↓reduceIte, m_side, lit_nI, lz_I, nI_add, pk_mul, pk_sub, nI_ge, nI_le, nI_lt, nI_nlt, gi_t, nI_clamp, nI_eq, pk_rem, Nat.zero_add, Nat.reduceAdd, Nat.reduceMul, Nat.reduceSub, Nat.reduceMod, Nat.reduceEqDiff, reduceCtorEq, Nat.one_ne_zero, Nat.zero_ne_one, ↓ob l1, ↓ob l2, ↓ob l4, ↓ob he2.w4, ↓ob he2.r4, ↓ob he2.f4, ↓ob he2.w2, ↓ob he2.f2, ↓ob he2.p0, he2.o4, he2.o2, he2.o0, ↓(fun a b => @ob _ _ _ (he2.tm hP hB a b)), ↓(fun a b => @ob _ _ _ (he2.pl hP hB a b)), ↓(fun a b => @ob _ _ _ (he2.mi hP hB a b)), ↓(fun a => @ob _ _ _ (he2.rc hP hB a)), ↓(fun a => @ob _ _ _ (he2.ng hB a)), sJ_g]
        · rw [if_neg e]
          simp (disch := omega) only [↓Option.bind_some, ↓Option.elim_some, ↓Option.elim_none, Option.bind_some, Option.elim_some, Option.elim_none, Option.some.injEq, Sum.inl.injEq, Sum.inr.injEq, ↓reduceIte, m_side, lit_nI, lz_I, nI_add, pk_mul, pk_sub, nI_ge, nI_le, nI_lt, nI_nlt, gi_t, nI_clamp, nI_eq, pk_rem, Nat.zero_add, Nat.reduceAdd, Nat.reduceMul, Nat.reduceSub, Nat.reduceMod, Nat.reduceEqDiff, reduceCtorEq, Nat.one_ne_zero, Nat.zero_ne_one, ↓ob l1, ↓ob l2, ↓ob l3, ↓ob l4, ↓ob he2.w4, ↓ob he2.r4, ↓ob he2.f4, ↓ob he2.w2, ↓ob he2.f2, ↓ob he2.p0, he2.o4, he2.o2, he2.o0, ↓(fun a b => @ob _ _ _ (he2.tm hP hB a b)), ↓(fun a b => @ob _ _ _ (he2.pl hP hB a b)), ↓(fun a b => @ob _ _ _ (he2.mi hP hB a b)), ↓(fun a => @ob _ _ _ (he2.rc hP hB a)), ↓(fun a => @ob _ _ _ (he2.ng hB a)), sJ_g, e]
      · (try dsimp only)
        by_cases e : k = stw w i + (j - i)
        · rw [e, pk_uLs]
        · rw [pk_uLn (by omega)]
          exact hv.1 k (by omega)
      · rw [pk_uLn (by omega)]
        exact hv.2 l hl
    · intro i c d2 hi
      have he2 := he.q m (stw w w) d2
      unfold f_X4_quadricConditions_L47
      simp (disch := omega) only [↓Option.bind_some, ↓Option.elim_some, ↓Option.elim_none, Option.bind_some, Option.elim_some, Option.elim_none, Option.some.injEq, Sum.inl.injEq, Sum.inr.injEq, ↓reduceIte, m_side, lit_nI, lz_I, nI_add, pk_mul, pk_sub, nI_ge, nI_le, nI_lt, nI_nlt, gi_t, nI_clamp, nI_eq, pk_rem, Nat.zero_add, Nat.reduceAdd, Nat.reduceMul, Nat.reduceSub, Nat.reduceMod, Nat.reduceEqDiff, reduceCtorEq, Nat.one_ne_zero, Nat.zero_ne_one, ↓ob he2.w4, ↓ob he2.r4, ↓ob he2.f4, ↓ob he2.w2, ↓ob he2.f2, ↓ob he2.p0, he2.o4, he2.o2, he2.o0, ↓(fun a b => @ob _ _ _ (he2.tm hP hB a b)), ↓(fun a b => @ob _ _ _ (he2.pl hP hB a b)), ↓(fun a b => @ob _ _ _ (he2.mi hP hB a b)), ↓(fun a => @ob _ _ _ (he2.rc hP hB a)), ↓(fun a => @ob _ _ _ (he2.ng hB a))]
    · intro c d2
      have he2 := he.q m (stw w w) d2
      unfold f_X4_quadricConditions_L34
      simp (disch := omega) only [↓Option.bind_some, ↓Option.elim_some, ↓Option.elim_none, Option.bind_some, Option.elim_some, Option.elim_none, Option.some.injEq, Sum.inl.injEq, Sum.inr.injEq, ↓reduceIte, m_side, lit_nI, lz_I, nI_add, pk_mul, pk_sub, nI_ge, nI_le, nI_lt, nI_nlt, gi_t, nI_clamp, nI_eq, pk_rem, Nat.zero_add, Nat.reduceAdd, Nat.reduceMul, Nat.reduceSub, Nat.reduceMod, Nat.reduceEqDiff, reduceCtorEq, Nat.one_ne_zero, Nat.zero_ne_one, ↓ob he2.w4, ↓ob he2.r4, ↓ob he2.f4, ↓ob he2.w2, ↓ob he2.f2, ↓ob he2.p0, he2.o4, he2.o2, he2.o0, ↓(fun a b => @ob _ _ _ (he2.tm hP hB a b)), ↓(fun a b => @ob _ _ _ (he2.pl hP hB a b)), ↓(fun a b => @ob _ _ _ (he2.mi hP hB a b)), ↓(fun a => @ob _ _ _ (he2.rc hP hB a)), ↓(fun a => @ob _ _ _ (he2.ng hB a))]
  · intro d1
    have l := (hXg d1).len
    unfold f_X4_quadricConditions_L22
    simp (disch := omega) only [↓Option.bind_some, ↓Option.elim_some, ↓Option.elim_none, Option.bind_some, Option.elim_some, Option.elim_none, Option.some.injEq, Sum.inl.injEq, Sum.inr.injEq, ↓reduceIte, m_side, lit_nI, lz_I, nI_add, pk_mul, pk_sub, nI_ge, nI_le, nI_lt, nI_nlt, gi_t, nI_clamp, nI_eq, pk_rem, Nat.zero_add, Nat.reduceAdd, Nat.reduceMul, Nat.reduceSub, Nat.reduceMod, Nat.reduceEqDiff, reduceCtorEq, Nat.one_ne_zero, Nat.zero_ne_one, ↓ob l]
theorem hG_gP {hp : cH} {sz m k : Nat} {d : Nat → Int64} {M : Mx P} (h : fok d M m k) : gP (hG hp sz m k d) (sz + 1 + m) sz m k (fun i => sz + 1 + i) M := by
  have hq := gq_h (hp := hp) (a := sz) h
  exact ⟨hq.1, by omega, fun i hi => ⟨hq.2.1 i hi, by show sz + 1 + i < sz + 1 + m; omega⟩⟩
/-- the class's way to the column that is free -/
def frl [NeZero P] (G : Mx P) (N m : Nat) : Nat := sr (fun k => decide (ldV (G k) N ≠ k)) m 0
def soV [NeZero P] (G : Mx P) (f : Nat) : Nat → Fin P := fun c => if c = f then 1 else if c < f then - G c f else - G (c - 1) f
theorem e_solution [NeZero P] (hP : 2 < P) (hB : P < 2 ^ 31) {hp : cH} {w so ro fo sz m N : Nat} {d : Nat → Int64} {M : Mx P} (he : eV P w so ro fo hp sz) (hM : fok d M m N) (hm : m ≤ 9) (hN : N ≤ 16) (hN0 : 0 < N) : ∃ r hp' sz', f_X2_onlySolution (hG hp sz m N d) (sz + 1 + m) ro sz (nI N) = some (r, hp', sz') ∧ gro hp sz hp' sz' ∧ (¬ (gj m M N).1 = N - 1 → r = none) ∧ ((gj m M N).1 = N - 1 → ∃ b, r = some b ∧ vA hp' sz' b N (soV (gj m M N).2 (frl (gj m M N).2 N (N - 1)))) := by
  obtain ⟨hp1, g1, a1, a2, a3, a4⟩ := e_elim hP hB he hM hm hN (Nat.le_refl N)
  have he0 := he.q m N d
  have he1 := he.g a4
  have hle := gj_le m M N
  generalize hGG : (gj m M N).2 = G at *
  by_cases hf : (gj m M N).1 = N - 1
  · have hsr := sr_le (fun k => decide (ldV (G k) N ≠ k)) (N - 1) 0
    generalize hF : frl G N (N - 1) = F
    have hF2 : F ≤ N - 1 := by rw [← hF]; unfold frl; omega
    have hfree : ∀ n k, k + n = N - 1 → itX (f_X2_onlySolution_L16 hp1 sz (nI N)) (nI k) = some (nI (sr (fun k => decide (ldV (G k) N ≠ k)) n k)) := by
      intro n
      induction n with
      | zero =>
        intro k hk
        apply itX_stop
        unfold f_X2_onlySolution_L16 sr
        simp (disch := omega) only [↓Option.bind_some, ↓Option.elim_some, ↓Option.elim_none, Option.bind_some, Option.elim_some, Option.elim_none, Option.some.injEq, Sum.inl.injEq, Sum.inr.injEq, ↓reduceIte, m_side, lit_nI, lz_I, nI_add, pk_mul, pk_sub, nI_ge, nI_le, nI_lt, nI_nlt, gi_t, nI_clamp, nI_eq, pk_rem, Nat.zero_add, Nat.reduceAdd, Nat.reduceMul, Nat.reduceSub, Nat.reduceMod, Nat.reduceEqDiff, reduceCtorEq, Nat.one_ne_zero, Nat.zero_ne_one, (show nI N - nI 1 ≤ nI k ↔ True by rw [pk_sub (by omega)]; exact iff_true_intro (nI_le (by omega) (by omega)))]
      | succ n ih =>
        intro k hk
        have l1 := gq_ld a2 (show k < m by omega) (by omega)
        have l2 := t_lead hB (gq_fa a2 (show k < m by omega)) (by omega)
        have hll := ldV_le (G k) N
        unfold sr
        by_cases e : ldV (G k) N ≠ k
        · rw [if_pos (by simpa using e)]
          apply itX_stop
          unfold f_X2_onlySolution_L16
          simp (disch := omega) only [↓Option.bind_some, ↓Option.elim_some, ↓Option.elim_none, Option.bind_some, Option.elim_some, Option.elim_none, Option.some.injEq, Sum.inl.injEq, Sum.inr.injEq, ↓reduceIte, m_side, lit_nI, lz_I, nI_add, pk_mul, pk_sub, nI_ge, nI_le, nI_lt, nI_nlt, gi_t, nI_clamp, nI_eq, pk_rem, Nat.zero_add, Nat.reduceAdd, Nat.reduceMul, Nat.reduceSub, Nat.reduceMod, Nat.reduceEqDiff, reduceCtorEq, Nat.one_ne_zero, Nat.zero_ne_one, ↓ob l1, ↓ob l2, e]
        · rw [if_neg (by simpa using e), itX_step (s' := nI (k + 1)), ih (k + 1) (by omega)]
          have e2 : ldV (G k) N = k := Decidable.not_not.mp e
          unfold f_X2_onlySolution_L16
          simp (disch := omega) only [↓Option.bind_some, ↓Option.elim_some, ↓Option.elim_none, Option.bind_some, Option.elim_some, Option.elim_none, Option.some.injEq, Sum.inl.injEq, Sum.inr.injEq, ↓reduceIte, m_side, lit_nI, lz_I, nI_add, pk_mul, pk_sub, nI_ge, nI_le, nI_lt, nI_nlt, gi_t, nI_clamp, nI_eq, pk_rem, Nat.zero_add, Nat.reduceAdd, Nat.reduceMul, Nat.reduceSub, Nat.reduceMod, Nat.reduceEqDiff, reduceCtorEq, Nat.one_ne_zero, Nat.zero_ne_one, ↓ob l1, ↓ob l2, e2]
    have h0 := hfree (N - 1) 0 (by omega)
    have h0 : itX (f_X2_onlySolution_L16 hp1 sz (nI N)) (nI 0) = some (nI F) := by rw [h0, ← hF]; rfl
    have hgr : ∀ (r : Nat) (d2 : Nat → Int64), r < m → lR 3 (hW hp1 (sz + 1 + m) N d2) sz (nI r) = some (some (g1 r)) ∧ lJ (hW hp1 (sz + 1 + m) N d2) (g1 r) (nI F) = some (fL (G r F)) := by
      intro r d2 hr
      have hgj := a3 r hr
      refine ⟨?_, ?_⟩
      · have := gq_ld a2 hr (by omega)
        unfold lR aR at this ⊢
        rw [hW_o (by omega)]
        exact this
      · exact l_fa (fa_of (gq_fa a2 hr) (hW_o (by omega))) (by omega) (by omega)
    have key := eloop1 (P := P) (f := fun s => f_X2_onlySolution_L52 ro sz (nI N) (nI F) (sz + 1 + m) s.1 s.2) (emb := hW hp1 (sz + 1 + m) N) (d := vp_updL (fun _ => 0) F (fL (1 : Fin P))) (N := N - 1) (fun r => if r < F then r else r + 1) (fun i j _ _ e => by
      by_cases c1 : i < F
      · by_cases c2 : j < F
        · rw [if_pos c1, if_pos c2] at e
          exact e
        · rw [if_pos c1, if_neg c2] at e
          omega
      · by_cases c2 : j < F
        · rw [if_neg c1, if_pos c2] at e
          omega
        · rw [if_neg c1, if_neg c2] at e
          omega) (fun r => - G r F) ?_ ?_
    · obtain ⟨d2, k1, k2, k3⟩ := key
      refine ⟨some (sz + 1 + m), hW hp1 (sz + 1 + m) N d2, sz + 1 + m + 1, ?_, a4.tr gro.nw, fun z => absurd hf z, fun _ => ⟨_, rfl, vA_hW (fun c hc => ?_)⟩⟩
      · have n1 := nJ_h (hp := hp1) (sz := sz + 1 + m) (n := N) (by omega)
        have s1 : sJ (hW hp1 (sz + 1 + m) N (fun _ => 0)) (sz + 1 + m) (nI F) 1 = some (hW hp1 (sz + 1 + m) N (vp_updL (fun _ => 0) F (fL (1 : Fin P)))) := by rw [sJ_h (by omega) (by omega), fL_o hP]
        have hre : nI (N - 1) = nI N - 1 := by rw [show (1 : Int32) = nI 1 from rfl, pk_sub (by omega)]
        have a1' : f_X2_eliminate (hG hp sz m N d) ro sz (nI N) = some (nI N - 1, hp1) := by rw [a1, hf, hre]
        have h0' : itX (f_X2_onlySolution_L16 hp1 sz (nI N)) 0 = some (nI F) := h0
        have k1' : itX (fun s => f_X2_onlySolution_L52 ro sz (nI N) (nI F) (sz + 1 + m) s.1 s.2) (0, hW hp1 (sz + 1 + m) N (vp_updL (fun _ => 0) F (fL (1 : Fin P)))) = some (hW hp1 (sz + 1 + m) N d2) := k1
        unfold f_X2_onlySolution f_X2_onlySolution_J39
        simp only [he0.o2, ↓ob a1', ↓ob h0', ↓ob n1, ↓ob s1, ↓ob k1', ↓reduceIte, Nat.le_refl]
      · unfold soV
        by_cases c1 : c = F
        · subst c1
          rw [if_pos rfl, k3 _ (fun i hi => ?_), pk_uLs]
          by_cases q : i < c
          · rw [if_pos q]
            omega
          · rw [if_neg q]
            omega
        · rw [if_neg c1]
          by_cases c2 : c < F
          · rw [if_pos c2]
            have := k2 c (by omega)
            rw [if_pos c2] at this
            exact this
          · rw [if_neg c2]
            have := k2 (c - 1) (by omega)
            rw [if_neg (by omega), show c - 1 + 1 = c by omega] at this
            exact this
    · intro r d2 hr _ _
      obtain ⟨q1, q2⟩ := hgr r d2 (by omega)
      refine ⟨vp_updL d2 (if r < F then r else r + 1) (fL (- G r F)), ?_, pk_uLs, fun l hl => pk_uLn hl⟩
      have he2 := he1.h N d2
      unfold f_X2_onlySolution_L52
      by_cases c1 : r < F
      · rw [if_pos c1]
        simp (disch := omega) only [↓Option.bind_some, ↓Option.elim_some, ↓Option.elim_none, Option.bind_some, Option.elim_some, Option.elim_none, Option.some.injEq, Sum.inl.injEq, Sum.inr.injEq, ↓reduceIte, m_side, lit_nI, lz_I, nI_add, pk_mul, pk_sub, nI_ge, nI_le, nI_lt, nI_nlt, gi_t, nI_clamp, nI_eq, pk_rem, Nat.zero_add, Nat.reduceAdd, Nat.reduceMul, Nat.reduceSub, Nat.reduceMod, Nat.reduceEqDiff, reduceCtorEq, Nat.one_ne_zero, Nat.zero_ne_one, ↓ob q1, ↓ob q2, ↓ob he2.w4, ↓ob he2.r4, ↓ob he2.f4, ↓ob he2.w2, ↓ob he2.f2, ↓ob he2.p0, he2.o4, he2.o2, he2.o0, ↓(fun a b => @ob _ _ _ (he2.tm hP hB a b)), ↓(fun a b => @ob _ _ _ (he2.pl hP hB a b)), ↓(fun a b => @ob _ _ _ (he2.mi hP hB a b)), ↓(fun a => @ob _ _ _ (he2.rc hP hB a)), ↓(fun a => @ob _ _ _ (he2.ng hB a)), sJ_h]
      · rw [if_neg c1]
        simp (disch := omega) only [↓Option.bind_some, ↓Option.elim_some, ↓Option.elim_none, Option.bind_some, Option.elim_some, Option.elim_none, Option.some.injEq, Sum.inl.injEq, Sum.inr.injEq, ↓reduceIte, m_side, lit_nI, lz_I, nI_add, pk_mul, pk_sub, nI_ge, nI_le, nI_lt, nI_nlt, gi_t, nI_clamp, nI_eq, pk_rem, Nat.zero_add, Nat.reduceAdd, Nat.reduceMul, Nat.reduceSub, Nat.reduceMod, Nat.reduceEqDiff, reduceCtorEq, Nat.one_ne_zero, Nat.zero_ne_one, ↓ob q1, ↓ob q2, ↓ob he2.w4, ↓ob he2.r4, ↓ob he2.f4, ↓ob he2.w2, ↓ob he2.f2, ↓ob he2.p0, he2.o4, he2.o2, he2.o0, ↓(fun a b => @ob _ _ _ (he2.tm hP hB a b)), ↓(fun a b => @ob _ _ _ (he2.pl hP hB a b)), ↓(fun a b => @ob _ _ _ (he2.mi hP hB a b)), ↓(fun a => @ob _ _ _ (he2.rc hP hB a)), ↓(fun a => @ob _ _ _ (he2.ng hB a)), sJ_h]
    · intro d2
      unfold f_X2_onlySolution_L52
      simp (disch := omega) only [↓Option.bind_some, ↓Option.elim_some, ↓Option.elim_none, Option.bind_some, Option.elim_some, Option.elim_none, Option.some.injEq, Sum.inl.injEq, Sum.inr.injEq, ↓reduceIte, m_side, lit_nI, lz_I, nI_add, pk_mul, pk_sub, nI_ge, nI_le, nI_lt, nI_nlt, gi_t, nI_clamp, nI_eq, pk_rem, Nat.zero_add, Nat.reduceAdd, Nat.reduceMul, Nat.reduceSub, Nat.reduceMod, Nat.reduceEqDiff, reduceCtorEq, Nat.one_ne_zero, Nat.zero_ne_one, (show nI N - nI 1 ≤ nI (N - 1) ↔ True by rw [pk_sub (by omega)]; exact iff_true_intro (nI_le (by omega) (by omega)))]
  · refine ⟨none, hp1, _, ?_, a4, fun _ => rfl, fun z => absurd z hf⟩
    have hne : ¬ nI (gj m M N).1 = nI N - 1 := by
      rw [show (1 : Int32) = nI 1 from rfl, pk_sub (by omega), nI_eq (by omega) (by omega)]
      exact hf
    unfold f_X2_onlySolution
    simp only [he0.o2, ↓ob a1, ↓reduceIte, hne]
end CRANK
