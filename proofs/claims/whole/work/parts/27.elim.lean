/-! THE CLASS'S ELIMINATION is gj -/
section ELIM
variable {P : Nat}
theorem oth.trans {hp hp1 hp2 : cH} {S : Nat → Prop} (h1 : oth hp hp1 S) (h2 : oth hp1 hp2 S) : oth hp hp2 S := fun b hb => by rw [h2 b hb, h1 b hb]
theorem oth.wk {hp hp1 : cH} {S T : Nat → Prop} (h1 : oth hp hp1 S) (h : ∀ b, S b → T b) : oth hp hp1 T := fun b hb => h1 b (fun q => hb (h b q))
theorem oth.rf {hp : cH} {S : Nat → Prop} : oth hp hp S := fun _ _ => rfl
/-- a row times a number -/
theorem t_scale [NeZero P] (hP : 2 < P) (hB : P < 2 ^ 31) {hp : cH} {w ro fo a n : Nat} {x : Nat → Fin P} (he : eR P w ro fo hp) (h : fa hp a n x) (hn : n ≤ 64) (f : Fin P) : ∃ hp', f_X2_scale hp ro a (fL f) = some hp' ∧ fa hp' a n (fun j => x j * f) ∧ oth hp hp' (fun b => b = a) := by
  unfold f_X2_scale
  have key := it_inv (f := fun s : Int32 × cH => f_X2_scale_L3 ro a (fL f) s.1 s.2) (fun k s => s.1 = nI k ∧ fa s.2 a n (fun j => if j < k then x j * f else x j) ∧ oth hp s.2 (fun b => b = a)) n (fun hp' => fa hp' a n (fun j => x j * f) ∧ oth hp hp' (fun b => b = a)) ?_ ?_ (0, hp) ⟨nI_0.symm, fa_congr h (fun j _ => by (try dsimp only); rw [if_neg (by omega)]), oth.rf⟩
  · obtain ⟨hp', h1, h2, h3⟩ := key
    exact ⟨hp', by rw [h1, Option.bind_some], h2, h3⟩
  · rintro k ⟨k', hp1⟩ hk ⟨e1, h1, h2⟩
    dsimp only at e1 h1 h2
    subst e1
    have he1 : eR P w ro fo hp1 := he.arr (fun b (hb : b = a) => by rw [hb]; exact h.arr) h2
    have hl := l_fa h1 hk (by omega)
    rw [if_neg (by omega)] at hl
    obtain ⟨hp2, g1, g2, g3⟩ := s_fa h1 hk (by omega) (x k * f)
    refine ⟨(nI (k + 1), hp2), ?_, rfl, fa_congr g2 (fun j _ => ?_), h2.trans g3⟩
    · unfold f_X2_scale_L3
      try dsimp only
      rw [aN_fa h1, Option.bind_some, if_neg (nI_ge hk (by omega)), he1.fo, Option.bind_some, hl, Option.bind_some, if_pos he1.of, t_times hP hB he1.p, Option.bind_some, g1, Option.bind_some, nI_1]
    · try dsimp only
      by_cases e : j = k
      · rw [if_pos e, if_pos (by omega), e]
      · rw [if_neg e]
        by_cases e2 : j < k
        · rw [if_pos e2, if_pos (by omega)]
        · rw [if_neg e2, if_neg (by omega)]
  · rintro ⟨k', hp1⟩ ⟨e1, h1, h2⟩
    dsimp only at e1 h1 h2
    subst e1
    refine ⟨hp1, ?_, fa_congr h1 (fun j hj => by (try dsimp only); rw [if_pos hj]), h2⟩
    unfold f_X2_scale_L3
    try dsimp only
    rw [aN_fa h1, Option.bind_some, if_pos (nI_le (Nat.le_refl _) (by omega))]
theorem t_line [NeZero P] (hP : 2 < P) (hB : P < 2 ^ 31) {hp : cH} {w0 ro fo a h w r q : Nat} {M : Mx P} {g : Nat → Nat} (he : eR P w0 ro fo hp) (H : gq hp a h w M g) (hh : h ≤ 64) (hw : w ≤ 64) (hr : r < h) (hq : q < h) (hqr : q ≠ r) (f : Fin P) : ∃ hp', itX (fun s => f_X2_clearColumn_L37 ro a (nI r) (nI q) (fL f) s.1 s.2) (0, hp) = some hp' ∧ gq hp' a h w (fun i j => if i = q then M q j - f * M r j else M i j) g ∧ oth hp hp' (gS a h g) := by
  refine it_inv (f := fun s : Int32 × cH => f_X2_clearColumn_L37 ro a (nI r) (nI q) (fL f) s.1 s.2) (fun k s => s.1 = nI k ∧ gq s.2 a h w (fun i j => if i = q ∧ j < k then M q j - f * M r j else M i j) g ∧ oth hp s.2 (gS a h g)) w (fun hp' => gq hp' a h w (fun i j => if i = q then M q j - f * M r j else M i j) g ∧ oth hp hp' (gS a h g)) ?_ ?_ (0, hp) ⟨nI_0.symm, gq_congr H (fun i j _ _ => by (try dsimp only); rw [if_neg (by omega)]), oth.rf⟩
  · rintro k ⟨k', hp1⟩ hk ⟨e1, h1, h2⟩
    dsimp only at e1 h1 h2
    subst e1
    have he1 : eR P w0 ro fo hp1 := he.arr (gq_arr H) h2
    have lq := l_fa (h1.2.1 q hq) hk (by omega)
    have lr := l_fa (h1.2.1 r hr) hk (by omega)
    dsimp only at lq lr
    rw [if_neg (by omega)] at lq lr
    obtain ⟨hp2, g1, g2, g3⟩ := s_fa (h1.2.1 q hq) hk (by omega) (M q k - f * M r k)
    refine ⟨(nI (k + 1), hp2), ?_, rfl, gq_congr (gq_put h1 hq g2 g3) (fun i j _ _ => ?_), h2.trans (g3.wk (fun b hb => Or.inr ⟨q, hq, hb⟩))⟩
    · unfold f_X2_clearColumn_L37
      try dsimp only
      rw [gq_ld h1 hq (by omega), Option.bind_some, Option.bind_some, aN_fa (h1.2.1 q hq), Option.bind_some, if_neg (nI_ge hk (by omega)), he1.fo, Option.bind_some, gq_ld h1 hr (by omega), Option.bind_some, Option.bind_some, lr, Option.bind_some, if_pos he1.of, t_times hP hB he1.p, Option.bind_some, Option.bind_some, Option.bind_some, Option.bind_some, Option.bind_some, lq, Option.bind_some, if_pos he1.of, t_minus hP hB he1.p, Option.bind_some, Option.bind_some, g1, Option.bind_some, nI_1]
    · try dsimp only
      by_cases c1 : i = q
      · rw [if_pos c1]
        by_cases c2 : j = k
        · rw [if_pos c2, if_pos (by omega), c2]
        · rw [if_neg c2]
          by_cases c3 : j < k
          · rw [if_pos ⟨rfl, c3⟩, if_pos (by omega)]
          · rw [if_neg (by omega), if_neg (by omega), c1]
      · rw [if_neg c1, if_neg (by omega), if_neg (by omega)]
  · rintro ⟨k', hp1⟩ ⟨e1, h1, h2⟩
    dsimp only at e1 h1 h2
    subst e1
    refine ⟨hp1, ?_, gq_congr h1 (fun i j _ hj => ?_), h2⟩
    · unfold f_X2_clearColumn_L37
      try dsimp only
      rw [gq_ld h1 hq (by omega), Option.bind_some, Option.bind_some, aN_fa (h1.2.1 q hq), Option.bind_some, if_pos (nI_le (Nat.le_refl _) (by omega))]
    · try dsimp only
      by_cases c1 : i = q
      · rw [if_pos ⟨c1, hj⟩, if_pos c1]
      · rw [if_neg (by omega), if_neg c1]
theorem t_clr [NeZero P] (hP : 2 < P) (hB : P < 2 ^ 31) {hp : cH} {w0 ro fo a h w r c : Nat} {M : Mx P} {g : Nat → Nat} (he : eR P w0 ro fo hp) (H : gq hp a h w M g) (hh : h ≤ 64) (hw : w ≤ 64) (hr : r < h) (hc : c < w) : ∃ hp', f_X2_clearColumn hp ro a (nI r) (nI c) = some hp' ∧ gq hp' a h w (clr M r c) g ∧ oth hp hp' (gS a h g) := by
  unfold f_X2_clearColumn
  have key := it_inv (f := fun s : Int32 × cH => f_X2_clearColumn_L3 ro a (nI r) (nI c) s.1 s.2) (fun k s => s.1 = nI k ∧ gq s.2 a h w (fun i j => if i < k then clr M r c i j else M i j) g ∧ oth hp s.2 (gS a h g)) h (fun hp' => gq hp' a h w (clr M r c) g ∧ oth hp hp' (gS a h g)) ?_ ?_ (0, hp) ⟨nI_0.symm, gq_congr H (fun i j _ _ => by (try dsimp only); rw [if_neg (by omega)]), oth.rf⟩
  · obtain ⟨hp', h1, h2, h3⟩ := key
    exact ⟨hp', by rw [h1, Option.bind_some], h2, h3⟩
  · rintro k ⟨k', hp1⟩ hk ⟨e1, h1, h2⟩
    dsimp only at e1 h1 h2
    subst e1
    have he1 : eR P w0 ro fo hp1 := he.arr (gq_arr H) h2
    have lk := l_fa (h1.2.1 k hk) hc (by omega)
    dsimp only at lk
    rw [if_neg (by omega)] at lk
    have hrow : ∀ j, (if r < k then clr M r c r j else M r j) = M r j := by
      intro j
      by_cases e : r < k
      · rw [if_pos e]
        unfold clr
        rw [if_pos rfl]
      · rw [if_neg e]
    by_cases hkr : k = r
    · refine ⟨(nI (k + 1), hp1), ?_, rfl, gq_congr h1 (fun i j _ _ => ?_), h2⟩
      · unfold f_X2_clearColumn_L3 f_X2_clearColumn_L3J93
        try dsimp only
        rw [gq_len h1, Option.bind_some, if_neg (nI_ge hk (by omega)), gq_ld h1 hk (by omega), Option.bind_some, Option.bind_some, lk, Option.bind_some, if_pos (by rw [hkr]), nI_1]
      · try dsimp only
        by_cases c1 : i < k
        · rw [if_pos c1, if_pos (by omega)]
        · rw [if_neg c1]
          by_cases c2 : i < k + 1
          · rw [if_pos c2]
            have : i = r := by omega
            rw [this]
            unfold clr
            rw [if_pos rfl]
          · rw [if_neg c2]
    · have hne : ¬ nI k = nI r := by
        rw [nI_eq (by omega) (by omega)]
        exact hkr
      by_cases h0 : M k c = 0
      · refine ⟨(nI (k + 1), hp1), ?_, rfl, gq_congr h1 (fun i j _ _ => ?_), h2⟩
        · unfold f_X2_clearColumn_L3 f_X2_clearColumn_L3J93
          try dsimp only
          rw [gq_len h1, Option.bind_some, if_neg (nI_ge hk (by omega)), gq_ld h1 hk (by omega), Option.bind_some, Option.bind_some, lk, Option.bind_some, if_neg hne, if_pos ((fL_0 hB).mpr h0), nI_1]
        · try dsimp only
          by_cases c1 : i < k
          · rw [if_pos c1, if_pos (by omega)]
          · rw [if_neg c1]
            by_cases c2 : i < k + 1
            · rw [if_pos c2]
              have : i = k := by omega
              rw [this]
              unfold clr
              rw [if_neg hkr, h0]
              grind
            · rw [if_neg c2]
      · obtain ⟨hp2, g1, g2, g3⟩ := t_line hP hB he1 h1 hh hw hr hk hkr (M k c)
        refine ⟨(nI (k + 1), hp2), ?_, rfl, gq_congr g2 (fun i j _ _ => ?_), h2.trans g3⟩
        · unfold f_X2_clearColumn_L3 f_X2_clearColumn_L3J93
          try dsimp only
          rw [gq_len h1, Option.bind_some, if_neg (nI_ge hk (by omega)), gq_ld h1 hk (by omega), Option.bind_some, Option.bind_some, lk, Option.bind_some, if_neg hne, if_neg (fun z => h0 ((fL_0 hB).mp z)), g1, Option.bind_some, nI_1]
        · try dsimp only
          by_cases c1 : i = k
          · rw [if_pos c1, hrow j, if_neg (by omega), if_pos (by omega), c1]
            unfold clr
            rw [if_neg hkr]
          · rw [if_neg c1]
            by_cases c2 : i < k
            · rw [if_pos c2, if_pos (by omega)]
            · rw [if_neg c2, if_neg (by omega)]
  · rintro ⟨k', hp1⟩ ⟨e1, h1, h2⟩
    dsimp only at e1 h1 h2
    subst e1
    refine ⟨hp1, ?_, gq_congr h1 (fun i j hi _ => by (try dsimp only); rw [if_pos hi]), h2⟩
    unfold f_X2_clearColumn_L3
    try dsimp only
    rw [gq_len h1, Option.bind_some, if_pos (nI_le (Nat.le_refl _) (by omega))]
theorem t_best [NeZero P] (hB : P < 2 ^ 31) {hp : cH} {a h w c : Nat} {M : Mx P} {g : Nat → Nat} (H : gq hp a h w M g) (hh : h ≤ 64) (hw : w ≤ 64) (hc : c < w) : ∀ n r, r + n = h → itX (f_X2_eliminate_L20 hp a (nI c)) (nI r) = some (nI (fst0 M c n r))
  | 0, r, e => by
    apply itX_stop
    unfold f_X2_eliminate_L20 fst0
    rw [gq_len H, Option.bind_some, if_pos (nI_le (by omega) (by omega))]
  | n + 1, r, e => by
    unfold fst0
    have lr := l_fa (H.2.1 r (by omega)) hc (by omega)
    by_cases h0 : M r c = 0
    · rw [if_pos h0, itX_step (s' := nI (r + 1))]
      · exact t_best hB H hh hw hc n (r + 1) (by omega)
      · unfold f_X2_eliminate_L20
        rw [gq_len H, Option.bind_some, if_neg (nI_ge (by omega) (by omega)), gq_ld H (by omega) (by omega), Option.bind_some, Option.bind_some, lr, Option.bind_some, if_pos ((fL_0 hB).mpr h0), nI_1]
    · rw [if_neg h0]
      apply itX_stop
      unfold f_X2_eliminate_L20
      rw [gq_len H, Option.bind_some, if_neg (nI_ge (by omega) (by omega)), gq_ld H (by omega) (by omega), Option.bind_some, Option.bind_some, lr, Option.bind_some, if_neg (fun q => h0 ((fL_0 hB).mp q))]
/-- the class's eliminate: the grid becomes gj's, its lines in another order -/
theorem t_elim [NeZero P] (hP : 2 < P) (hB : P < 2 ^ 31) {hp : cH} {w0 ro fo a h w u : Nat} {M : Mx P} {g : Nat → Nat} (he : eR P w0 ro fo hp) (H : gq hp a h w M g) (hh : h ≤ 64) (hw : w ≤ 64) (hu : u ≤ w) : ∃ hp' g', f_X2_eliminate hp ro a (nI u) = some (nI (gj h M u).1, hp') ∧ gq hp' a h w (gj h M u).2 g' ∧ oth hp hp' (gS a h g) ∧ ∀ b, gS a h g' b → gS a h g b := by
  have key : ∀ (n c : Nat) (hp1 : cH) (g1 : Nat → Nat), c + n = u → gq hp1 a h w (gj h M c).2 g1 → oth hp hp1 (gS a h g) → (∀ b, gS a h g1 b → gS a h g b) → ∃ hp' g', itX (fun s => f_X2_eliminate_L5 ro a (nI u) s.1 s.2.1 s.2.2) (nI (gj h M c).1, nI c, hp1) = some (nI (gj h M u).1, hp') ∧ gq hp' a h w (gj h M u).2 g' ∧ oth hp hp' (gS a h g) ∧ ∀ b, gS a h g' b → gS a h g b := by
    intro n
    induction n with
    | zero =>
      intro c hp1 g1 e h1 h2 h3
      have : c = u := by omega
      subst this
      refine ⟨hp1, g1, ?_, h1, h2, h3⟩
      apply itX_stop
      unfold f_X2_eliminate_L5
      try dsimp only
      rw [if_pos (nI_le (Nat.le_refl _) (by omega))]
    | succ n ih =>
      intro c hp1 g1 e h1 h2 h3
      have hle := gj_le h M c
      have he1 : eR P w0 ro fo hp1 := he.arr (gq_arr H) h2
      by_cases hfull : (gj h M c).1 = h
      · have hg := gj_full hfull (u - c)
        rw [show c + (u - c) = u by omega] at hg
        refine ⟨hp1, g1, ?_, by rw [hg]; exact h1, h2, h3⟩
        apply itX_stop
        unfold f_X2_eliminate_L5
        try dsimp only
        rw [if_neg (nI_ge (by omega) (by omega)), gq_len h1, Option.bind_some, hg, hfull, if_pos (nI_le (Nat.le_refl _) (by omega))]
      · have hs : gj h M (c + 1) = gst h c (gj h M c) := rfl
        have hbest := t_best hB h1 hh hw (c := c) (by omega) (h - (gj h M c).1) (gj h M c).1 (by omega)
        have hb2 := fst0_le (gj h M c).2 c (h - (gj h M c).1) (gj h M c).1
        generalize hbe : fst0 (gj h M c).2 c (h - (gj h M c).1) (gj h M c).1 = b at *
        generalize hre : (gj h M c).1 = r at *
        generalize hMe : (gj h M c).2 = N at *
        by_cases hp : b < h
        · have hs2 : gj h M (c + 1) = (r + 1, clr (swp N r b c) r c) := by
            rw [hs]
            unfold gst
            rw [hre, hMe, hbe, if_pos hp]
          obtain ⟨hpa, hpb, k1, k2, k3, k4⟩ := gq_swap h1 (r := r) (b := b) (by omega) hp (by omega)
          have k3' : oth hp1 hpb (gS a h g1) := k3.wk (fun q hq => Or.inl hq)
          have heb : eR P w0 ro fo hpb := he1.arr (gq_arr h1) k3'
          have hrow := k4.2.1 r (by omega)
          dsimp only at hrow
          rw [if_pos rfl] at hrow
          have hrow' : fa hpb (g1 b) w (N b) := fa_congr hrow (fun j _ => by (try dsimp only); rw [if_pos rfl])
          have lr := l_fa hrow' (j := c) (by omega) (by omega)
          obtain ⟨hpc, m1, m2, m3⟩ := t_scale hP hB heb hrow' hw (fi (N b c))
          have hgr : (fun i => if i = r then g1 b else if i = b then g1 r else g1 i) r = g1 b := by (try dsimp only); rw [if_pos rfl]
          have m4 := gq_put k4 (r := r) (by omega) (x := fun j => N b j * fi (N b c)) (hp' := hpc) (by rw [if_pos rfl]; exact m2) (by rw [if_pos rfl]; exact m3)
          have hec : eR P w0 ro fo hpc := heb.arr (fun q (hq : q = g1 b) => by rw [hq]; exact hrow'.arr) m3
          have m5 : gq hpc a h w (swp N r b c) (fun i => if i = r then g1 b else if i = b then g1 r else g1 i) := gq_congr m4 (fun i j _ _ => by
            unfold swp
            by_cases c1 : i = r
            · rw [if_pos c1, if_pos c1]
            · rw [if_neg c1, if_neg c1, if_neg c1])
          obtain ⟨hpd, p1, p2, p3⟩ := t_clr hP hB hec m5 hh hw (r := r) (c := c) (by omega) (by omega)
          have hsub : ∀ q, gS a h (fun i => if i = r then g1 b else if i = b then g1 r else g1 i) q → gS a h g1 q := by
            rintro q (hq | ⟨i, hi, hq⟩)
            · exact Or.inl hq
            · right
              dsimp only at hq
              by_cases c1 : i = r
              · rw [if_pos c1] at hq
                exact ⟨b, hp, hq⟩
              · rw [if_neg c1] at hq
                by_cases c2 : i = b
                · rw [if_pos c2] at hq
                  exact ⟨r, by omega, hq⟩
                · rw [if_neg c2] at hq
                  exact ⟨i, hi, hq⟩
          have hall : oth hp1 hpd (gS a h g1) := (k3'.trans (m3.wk (fun q (hq : q = g1 b) => Or.inr ⟨b, hp, hq⟩))).trans (p3.wk hsub)
          obtain ⟨hp', g', q1, q2, q3, q4⟩ := ih (c + 1) hpd _ (by omega) (by rw [hs2]; exact p2) (h2.trans (hall.wk h3)) (fun q hq => h3 q (hsub q hq))
          refine ⟨hp', g', ?_, q2, q3, q4⟩
          rw [itX_step (s' := (nI (gj h M (c + 1)).1, nI (c + 1), hpd)), q1]
          unfold f_X2_eliminate_L5 f_X2_eliminate_L5J45 f_X2_eliminate_L5J102
          try dsimp only
          have hne : ¬ nI b = nI h := by
            rw [nI_eq (by omega) (by omega)]
            omega
          rw [if_neg (nI_ge (by omega) (by omega)), gq_len h1, Option.bind_some, if_neg (nI_ge (by omega) (by omega)), hbest, Option.bind_some, Option.bind_some, if_neg hne, gq_ld h1 hp (by omega), Option.bind_some, gq_ld h1 (i := r) (by omega) (by omega), Option.bind_some, Option.bind_some, k1, Option.bind_some, Option.bind_some, k2, Option.bind_some, heb.fo, Option.bind_some, lr, Option.bind_some, if_pos heb.of, t_recip hP hB heb.p heb.of, Option.bind_some, if_pos heb.o, m1, Option.bind_some, if_pos hec.o, p1, Option.bind_some, hs2, nI_1, nI_1]
        · have hs2 : gj h M (c + 1) = (r, N) := by
            rw [hs]
            unfold gst
            rw [hre, hMe, hbe, if_neg hp, ← hre, ← hMe]
          have hbh : b = h := by omega
          obtain ⟨hp', g', q1, q2, q3, q4⟩ := ih (c + 1) hp1 g1 (by omega) (by rw [hs2]; exact h1) h2 h3
          refine ⟨hp', g', ?_, q2, q3, q4⟩
          rw [itX_step (s' := (nI (gj h M (c + 1)).1, nI (c + 1), hp1)), q1]
          unfold f_X2_eliminate_L5 f_X2_eliminate_L5J45 f_X2_eliminate_L5J102
          try dsimp only
          rw [if_neg (nI_ge (by omega) (by omega)), gq_len h1, Option.bind_some, if_neg (nI_ge (by omega) (by omega)), hbest, Option.bind_some, Option.bind_some, if_pos (by rw [hbh]), hs2, nI_1]
  obtain ⟨hp', g', h1, h2, h3, h4⟩ := key u 0 hp g (by omega) H oth.rf (fun _ h => h)
  refine ⟨hp', g', ?_, h2, h3, h4⟩
  unfold f_X2_eliminate
  rw [show ((0 : Int32), (0 : Int32), hp) = (nI (gj h M 0).1, nI 0, hp) from rfl, h1, Option.bind_some]
end ELIM
