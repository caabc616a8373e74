/-! ELIMINATION: one function on squares of numbers; the reference's reduce is it -/
theorem it_inv {σ ρ : Type} {f : σ → Option (σ ⊕ ρ)} (I : Nat → σ → Prop) (N : Nat) (Q : ρ → Prop) (step : ∀ i s, i < N → I i s → ∃ s', f s = some (.inl s') ∧ I (i + 1) s') (stop : ∀ s, I N s → ∃ r, f s = some (.inr r) ∧ Q r) : ∀ s, I 0 s → ∃ r, itX f s = some r ∧ Q r := by
  have key : ∀ k, k ≤ N → ∀ s, I (N - k) s → ∃ r, itX f s = some r ∧ Q r := by
    intro k
    induction k with
    | zero =>
      intro _ s hs
      obtain ⟨r, h1, h2⟩ := stop s hs
      exact ⟨r, itX_stop h1, h2⟩
    | succ k ih =>
      intro hk s hs
      obtain ⟨s', h1, h2⟩ := step (N - (k + 1)) s (by omega) hs
      rw [show N - (k + 1) + 1 = N - k by omega] at h2
      obtain ⟨r, h3, h4⟩ := ih (by omega) s' h2
      exact ⟨r, by rw [itX_step h1]; exact h3, h4⟩
  intro s hs
  exact key N (Nat.le_refl N) s (by rw [Nat.sub_self]; exact hs)
section GJ
variable {P : Nat}
/-- a square, or any rectangle, of numbers -/
abbrev Mx (P : Nat) : Type := Nat → Nat → Fin P
/-- the first of n lines from r on that has not 0 in column c -/
def fst0 [NeZero P] (M : Mx P) (c : Nat) : Nat → Nat → Nat
  | 0, r => r
  | n + 1, r => if M r c = 0 then fst0 M c n (r + 1) else r
/-- line b up to line r, 1 in column c; line r down to b -/
def swp [NeZero P] (M : Mx P) (r b c : Nat) : Mx P := fun i k => if i = r then M b k * fi (M b c) else if i = b then M r k else M i k
/-- column c cleared by line r -/
def clr [NeZero P] (M : Mx P) (r c : Nat) : Mx P := fun q k => if q = r then M r k else M q k - M q c * M r k
def gst [NeZero P] (h c : Nat) (s : Nat × Mx P) : Nat × Mx P := if fst0 s.2 c (h - s.1) s.1 < h then (s.1 + 1, clr (swp s.2 s.1 (fst0 s.2 c (h - s.1) s.1) c) s.1 c) else s
def gj [NeZero P] (h : Nat) (M : Mx P) : Nat → Nat × Mx P
  | 0 => (0, M)
  | c + 1 => gst h c (gj h M c)
theorem fst0_le [NeZero P] (M : Mx P) (c : Nat) : ∀ n r, r ≤ fst0 M c n r ∧ fst0 M c n r ≤ r + n
  | 0, r => ⟨Nat.le_refl _, Nat.le_refl _⟩
  | n + 1, r => by
    unfold fst0
    by_cases h : M r c = 0
    · rw [if_pos h]
      have := fst0_le M c n (r + 1)
      omega
    · rw [if_neg h]
      omega
theorem fst0_nz [NeZero P] (M : Mx P) (c : Nat) : ∀ n r, fst0 M c n r < r + n → M (fst0 M c n r) c ≠ 0
  | 0, r, h => by
    unfold fst0 at h
    omega
  | n + 1, r, h => by
    unfold fst0 at h ⊢
    by_cases e : M r c = 0
    · rw [if_pos e] at h ⊢
      exact fst0_nz M c n (r + 1) (by omega)
    · rw [if_neg e]
      exact e
theorem fst0_z [NeZero P] (M : Mx P) (c : Nat) : ∀ n r i, r ≤ i → i < fst0 M c n r → M i c = 0
  | 0, r, i, h1, h2 => by
    unfold fst0 at h2
    omega
  | n + 1, r, i, h1, h2 => by
    unfold fst0 at h2
    by_cases e : M r c = 0
    · rw [if_pos e] at h2
      by_cases hi : i = r
      · rw [hi]
        exact e
      · exact fst0_z M c n (r + 1) i (by omega) h2
    · rw [if_neg e] at h2
      omega
theorem gj_le [NeZero P] (h : Nat) (M : Mx P) : ∀ c, (gj h M c).1 ≤ h ∧ (gj h M c).1 ≤ c
  | 0 => ⟨Nat.zero_le _, Nat.le_refl _⟩
  | c + 1 => by
    have ih := gj_le h M c
    have hs : gj h M (c + 1) = gst h c (gj h M c) := rfl
    rw [hs]
    unfold gst
    split
    · rename_i e
      have := (fst0_le (gj h M c).2 c (h - (gj h M c).1) (gj h M c).1).1
      dsimp only
      omega
    · exact ⟨ih.1, by omega⟩
theorem gst_full [NeZero P] {h c : Nat} {s : Nat × Mx P} (hs : h ≤ s.1) : gst h c s = s := by
  unfold gst
  rw [if_neg]
  have := (fst0_le s.2 c (h - s.1) s.1).1
  omega
theorem gj_full [NeZero P] {h : Nat} {M : Mx P} {c : Nat} (hc : (gj h M c).1 = h) : ∀ d, gj h M (c + d) = gj h M c
  | 0 => rfl
  | d + 1 => by
    show gst h (c + d) (gj h M (c + d)) = _
    rw [gj_full hc d]
    exact gst_full (by rw [hc]; exact Nat.le_refl _)
/-- the frame holds a rectangle -/
def fok (fr : Nat → Int64) (M : Mx P) (h w : Nat) : Prop := ∀ i j, i < h → j < w → fr (20 * i + j) = fL (M i j)
theorem fok_congr {fr : Nat → Int64} {M N : Mx P} {h w : Nat} (hf : fok fr M h w) (e : ∀ i j, i < h → j < w → M i j = N i j) : fok fr N h w := fun i j hi hj => by rw [hf i j hi hj, e i j hi hj]
theorem fok_set {fr : Nat → Int64} {M : Mx P} {h w a b : Nat} (hf : fok fr M h w) (hw : w ≤ 20) (hb : b < w) (x : Fin P) : fok (vp_updL fr (20 * a + b) (fL x)) (fun i j => if i = a ∧ j = b then x else M i j) h w := by
  intro i j hi hj
  dsimp only
  by_cases e : i = a ∧ j = b
  · rw [if_pos e, e.1, e.2, pk_uLs]
  · rw [if_neg e, pk_uLn (by omega)]
    exact hf i j hi hj
theorem ix20 (i j : Nat) : (20 : Int32) * nI i + nI j = nI (20 * i + j) := by
  rw [show (20 : Int32) = nI 20 from rfl, pk_mul, nI_add]
theorem gi_nI {k N : Nat} (h : k < N) (hN : N < 2 ^ 31) : gi (nI k) N := ⟨nI_pos (by omega), by rw [nI_clamp (by omega)]; exact h⟩
theorem s_at (fr : Nat → Int64) {i j : Nat} (hi : i < 16) (hj : j < 20) : m_at fr (nI i) (nI j) = some (fr (20 * i + j)) := by
  unfold m_at
  rw [ix20, if_pos (gi_nI (by omega) (by decide)), nI_clamp (by omega)]
theorem s_set (fr : Nat → Int64) {i j : Nat} (hi : i < 16) (hj : j < 20) (v : Int64) : m_set fr (nI i) (nI j) v = some (vp_updL fr (20 * i + j) v) := by
  unfold m_set
  rw [ix20, if_pos (gi_nI (by omega) (by decide)), nI_clamp (by omega)]
theorem s_best [NeZero P] (hB : P < 2 ^ 31) {fr : Nat → Int64} {M : Mx P} {h w c : Nat} (hf : fok fr M h w) (hh : h ≤ 16) (hw : w ≤ 20) (hc : c < w) : ∀ n r, r + n = h → itX (m_reduce_L22 fr (nI h) (nI c)) (nI r) = some (nI (fst0 M c n r))
  | 0, r, e => by
    apply itX_stop
    unfold m_reduce_L22 fst0
    rw [if_pos (nI_le (by omega) (by omega))]
  | n + 1, r, e => by
    unfold fst0
    by_cases h0 : M r c = 0
    · rw [if_pos h0, itX_step (s' := nI (r + 1))]
      · exact s_best hB hf hh hw hc n (r + 1) (by omega)
      · unfold m_reduce_L22
        rw [if_neg (nI_ge (by omega) (by omega)), s_at fr (by omega) (by omega), Option.bind_some, hf r c (by omega) hc, if_pos ((fL_0 hB).mpr h0), nI_1]
    · rw [if_neg h0]
      apply itX_stop
      unfold m_reduce_L22
      rw [if_neg (nI_ge (by omega) (by omega)), s_at fr (by omega) (by omega), Option.bind_some, hf r c (by omega) hc, if_neg (fun q => h0 ((fL_0 hB).mp q))]
theorem s_swp [NeZero P] (hP : 2 < P) (hB : P < 2 ^ 31) {fr : Nat → Int64} {M : Mx P} {h w r b c : Nat} (hf : fok fr M h w) (hh : h ≤ 16) (hw : w ≤ 20) (hr : r < h) (hb : b < h) : ∃ fr', itX (m_reduce_L70 (lN P) (nI w) (nI r) (nI b) (fL (fi (M b c)))) (0, fr) = some fr' ∧ fok fr' (swp M r b c) h w := by
  refine it_inv (fun k s => s.1 = nI k ∧ fok s.2 (fun i j => if j < k then swp M r b c i j else M i j) h w) w (fun fr' => fok fr' (swp M r b c) h w) ?_ ?_ (0, fr) ⟨nI_0.symm, fok_congr hf (fun i j _ _ => by simp)⟩
  · rintro k ⟨k', fr1⟩ hk ⟨e1, h1⟩
    dsimp only at e1 h1
    subst e1
    have a1 : fr1 (20 * b + k) = fL (M b k) := by
      rw [h1 b k hb hk]
      dsimp only
      rw [if_neg (by omega)]
    have a2 : fr1 (20 * r + k) = fL (M r k) := by
      rw [h1 r k hr hk]
      dsimp only
      rw [if_neg (by omega)]
    refine ⟨(nI (k + 1), vp_updL (vp_updL fr1 (20 * b + k) (fL (M r k))) (20 * r + k) (fL (M b k * fi (M b c)))), ?_, rfl, ?_⟩
    · unfold m_reduce_L70
      dsimp only
      rw [if_neg (nI_ge (by omega) (by omega)), s_at _ (by omega) (by omega), Option.bind_some, s_at _ (by omega) (by omega), Option.bind_some, s_set _ (by omega) (by omega), Option.bind_some, a1, a2, s_times hP hB, Option.bind_some, s_set _ (by omega) (by omega), Option.bind_some, nI_1]
    · refine fok_congr (fok_set (a := r) (b := k) (fok_set (a := b) (b := k) h1 hw hk (M r k)) hw hk (M b k * fi (M b c))) ?_
      intro i j hi hj
      try dsimp only
      by_cases e1 : i = r ∧ j = k
      · rw [if_pos e1, if_pos (by omega)]
        unfold swp
        rw [if_pos e1.1, e1.2]
      · rw [if_neg e1]
        by_cases e2 : i = b ∧ j = k
        · rw [if_pos e2, if_pos (by omega)]
          unfold swp
          rw [if_neg (fun q => e1 ⟨q, e2.2⟩), if_pos e2.1, e2.2]
        · rw [if_neg e2]
          by_cases e3 : j < k
          · rw [if_pos e3, if_pos (by omega)]
          · rw [if_neg e3]
            by_cases e4 : j < k + 1
            · rw [if_pos e4]
              have : j = k := by omega
              subst this
              unfold swp
              rw [if_neg (fun q => e1 ⟨q, rfl⟩), if_neg (fun q => e2 ⟨q, rfl⟩)]
            · rw [if_neg e4]
  · rintro ⟨k', fr1⟩ ⟨e1, h1⟩
    dsimp only at e1 h1
    subst e1
    refine ⟨fr1, ?_, fok_congr h1 (fun i j _ hj => by rw [if_pos hj])⟩
    unfold m_reduce_L70
    dsimp only
    rw [if_pos (nI_le (Nat.le_refl _) (by omega))]
/-- one line less a multiple of line r -/
theorem s_line [NeZero P] (hP : 2 < P) (hB : P < 2 ^ 31) {fr : Nat → Int64} {M : Mx P} {h w r q : Nat} (hf : fok fr M h w) (hh : h ≤ 16) (hw : w ≤ 20) (hr : r < h) (hq : q < h) (hqr : q ≠ r) (f : Fin P) : ∃ fr', itX (m_reduce_L157 (lN P) (nI w) (nI r) (nI q) (fL f)) (0, fr) = some fr' ∧ fok fr' (fun i j => if i = q then M q j - f * M r j else M i j) h w := by
  by_cases h0 : f = 0
  · refine ⟨fr, ?_, fok_congr hf (fun i j _ _ => by
      by_cases e : i = q
      · rw [if_pos e, e, h0]
        grind
      · rw [if_neg e])⟩
    apply itX_stop
    unfold m_reduce_L157
    dsimp only
    by_cases hz : nI w ≤ 0
    · rw [if_pos hz]
    · rw [if_neg hz, if_pos ((fL_0 hB).mpr h0)]
  · refine it_inv (fun k s => s.1 = nI k ∧ fok s.2 (fun i j => if i = q ∧ j < k then M q j - f * M r j else M i j) h w) w (fun fr' => fok fr' (fun i j => if i = q then M q j - f * M r j else M i j) h w) ?_ ?_ (0, fr) ⟨nI_0.symm, fok_congr hf (fun i j _ _ => by simp)⟩
    · rintro k ⟨k', fr1⟩ hk ⟨e1, h1⟩
      dsimp only at e1 h1
      subst e1
      have a1 : fr1 (20 * q + k) = fL (M q k) := by
        rw [h1 q k hq hk]
        dsimp only
        rw [if_neg (by omega)]
      have a2 : fr1 (20 * r + k) = fL (M r k) := by
        rw [h1 r k hr hk]
        dsimp only
        rw [if_neg (by omega)]
      refine ⟨(nI (k + 1), vp_updL fr1 (20 * q + k) (fL (M q k - f * M r k))), ?_, rfl, ?_⟩
      · unfold m_reduce_L157
        dsimp only
        rw [if_neg (nI_ge (by omega) (by omega)), if_neg (fun z => h0 ((fL_0 hB).mp z)), s_at _ (by omega) (by omega), Option.bind_some, s_at _ (by omega) (by omega), Option.bind_some, a1, a2, s_times hP hB, Option.bind_some, s_less hP hB, Option.bind_some, s_set _ (by omega) (by omega), Option.bind_some, nI_1]
      · refine fok_congr (fok_set (a := q) (b := k) h1 hw hk (M q k - f * M r k)) ?_
        intro i j hi hj
        try dsimp only
        by_cases e1 : i = q ∧ j = k
        · rw [if_pos e1, if_pos (by omega), e1.2]
        · rw [if_neg e1]
          by_cases e2 : i = q ∧ j < k
          · rw [if_pos e2, if_pos (by omega)]
          · rw [if_neg e2, if_neg (by omega)]
    · rintro ⟨k', fr1⟩ ⟨e1, h1⟩
      dsimp only at e1 h1
      subst e1
      refine ⟨fr1, ?_, fok_congr h1 (fun i j _ hj => by
        by_cases e : i = q
        · rw [if_pos ⟨e, hj⟩, if_pos e]
        · rw [if_neg (fun z => e z.1), if_neg e])⟩
      unfold m_reduce_L157
      dsimp only
      rw [if_pos (nI_le (Nat.le_refl _) (by omega))]
theorem s_clr [NeZero P] (hP : 2 < P) (hB : P < 2 ^ 31) {fr : Nat → Int64} {M : Mx P} {h w r c : Nat} (hf : fok fr M h w) (hh : h ≤ 16) (hw : w ≤ 20) (hr : r < h) (hc : c < w) : ∃ fr', itX (m_reduce_L127 (lN P) (nI h) (nI w) (nI r) (nI c)) (0, fr) = some fr' ∧ fok fr' (clr M r c) h w := by
  refine it_inv (fun k s => s.1 = nI k ∧ fok s.2 (fun i j => if i < k then clr M r c i j else M i j) h w) h (fun fr' => fok fr' (clr M r c) h w) ?_ ?_ (0, fr) ⟨nI_0.symm, fok_congr hf (fun i j _ _ => by simp)⟩
  · rintro k ⟨k', fr1⟩ hk ⟨e1, h1⟩
    dsimp only at e1 h1
    subst e1
    by_cases hkr : k = r
    · subst hkr
      refine ⟨(nI (k + 1), fr1), ?_, rfl, fok_congr h1 (fun i j _ _ => by
        try dsimp only
        by_cases e : i < k
        · rw [if_pos e, if_pos (by omega)]
        · rw [if_neg e]
          by_cases e2 : i < k + 1
          · rw [if_pos e2]
            have : i = k := by omega
            subst this
            unfold clr
            rw [if_pos rfl]
          · rw [if_neg e2])⟩
      unfold m_reduce_L127 m_reduce_L127J210
      dsimp only
      have hst : itX (m_reduce_L157 (lN P) (nI w) (nI k) (nI k) 0) (0, fr1) = some fr1 := by
        apply itX_stop
        unfold m_reduce_L157
        dsimp only
        by_cases hz : nI w ≤ 0
        · rw [if_pos hz]
        · rw [if_neg hz, if_pos rfl]
      rw [if_neg (nI_ge (by omega) (by omega)), if_pos rfl, hst, Option.bind_some, nI_1]
    · have a0 : fr1 (20 * k + c) = fL (M k c) := by
        rw [h1 k c hk hc]
        dsimp only
        rw [if_neg (by omega)]
      have hrow : ∀ j, (fun i j => if i < k then clr M r c i j else M i j) r j = M r j := by
        intro j
        dsimp only
        by_cases e : r < k
        · rw [if_pos e]
          unfold clr
          rw [if_pos rfl]
        · rw [if_neg e]
      obtain ⟨fr2, g1, g2⟩ := s_line hP hB h1 hh hw hr hk hkr (M k c)
      refine ⟨(nI (k + 1), fr2), ?_, rfl, fok_congr g2 (fun i j _ _ => by
        by_cases e : i = k
        · subst e
          have hr2 : (if r < i then clr M r c r j else M r j) = M r j := hrow j
          rw [if_pos rfl, hr2, if_neg (by omega), if_pos (by omega)]
          unfold clr
          rw [if_neg hkr]
        · rw [if_neg e]
          by_cases e2 : i < k
          · rw [if_pos e2, if_pos (by omega)]
          · rw [if_neg e2, if_neg (by omega)])⟩
      unfold m_reduce_L127 m_reduce_L127J210
      dsimp only
      have hne : ¬ nI k = nI r := by
        rw [nI_eq (by omega) (by omega)]
        exact hkr
      rw [if_neg (nI_ge (by omega) (by omega)), if_neg hne, s_at _ (by omega) (by omega), Option.bind_some, a0, g1, Option.bind_some, nI_1]
  · rintro ⟨k', fr1⟩ ⟨e1, h1⟩
    dsimp only at e1 h1
    subst e1
    refine ⟨fr1, ?_, fok_congr h1 (fun i j hi _ => by rw [if_pos hi])⟩
    unfold m_reduce_L127
    dsimp only
    rw [if_pos (nI_le (Nat.le_refl _) (by omega))]
/-- the reference's reduce -/
theorem s_reduce [NeZero P] (hP : 2 < P) (hB : P < 2 ^ 31) {fr : Nat → Int64} {M : Mx P} {h w u : Nat} (hf : fok fr M h w) (hh : h ≤ 16) (hw : w ≤ 20) (hu : u ≤ w) : ∃ fr', m_reduce (lN P) fr (nI h) (nI w) (nI u) = some (nI (gj h M u).1, fr') ∧ fok fr' (gj h M u).2 h w := by
  have key : ∀ (n c : Nat) (fr1 : Nat → Int64), c + n = u → fok fr1 (gj h M c).2 h w → ∃ fr', itX (m_reduce_L6 (lN P) (nI h) (nI w) (nI u)) (nI (gj h M c).1, nI c, fr1) = some (nI (gj h M u).1, fr') ∧ fok fr' (gj h M u).2 h w := by
    intro n
    induction n with
    | zero =>
      intro c fr1 e h1
      have : c = u := by omega
      subst this
      refine ⟨fr1, ?_, h1⟩
      apply itX_stop
      unfold m_reduce_L6
      dsimp only
      rw [if_pos (nI_le (Nat.le_refl _) (by omega))]
    | succ n ih =>
      intro c fr1 e h1
      have hle := gj_le h M c
      by_cases hfull : (gj h M c).1 = h
      · have hg := gj_full hfull (u - c)
        rw [show c + (u - c) = u by omega] at hg
        refine ⟨fr1, ?_, by rw [hg]; exact h1⟩
        apply itX_stop
        unfold m_reduce_L6
        dsimp only
        rw [if_neg (nI_ge (by omega) (by omega)), hg, hfull, if_pos (nI_le (Nat.le_refl _) (by omega))]
      · have hs : gj h M (c + 1) = gst h c (gj h M c) := rfl
        have hbest := s_best hB h1 hh hw (c := c) (by omega) (h - (gj h M c).1) (gj h M c).1 (by omega)
        have hb2 := fst0_le (gj h M c).2 c (h - (gj h M c).1) (gj h M c).1
        by_cases hp : fst0 (gj h M c).2 c (h - (gj h M c).1) (gj h M c).1 < h
        · have hs2 : gj h M (c + 1) = ((gj h M c).1 + 1, clr (swp (gj h M c).2 (gj h M c).1 (fst0 (gj h M c).2 c (h - (gj h M c).1) (gj h M c).1) c) (gj h M c).1 c) := by
            rw [hs]
            unfold gst
            rw [if_pos hp]
          obtain ⟨fr2, g1, g2⟩ := s_swp hP hB (c := c) h1 hh hw (r := (gj h M c).1) (b := fst0 (gj h M c).2 c (h - (gj h M c).1) (gj h M c).1) (by omega) hp
          obtain ⟨fr3, g3, g4⟩ := s_clr hP hB (c := c) g2 hh hw (r := (gj h M c).1) (by omega) (by omega)
          obtain ⟨fr', g5, g6⟩ := ih (c + 1) fr3 (by omega) (by rw [hs2]; exact g4)
          refine ⟨fr', ?_, g6⟩
          rw [itX_step (s' := (nI (gj h M (c + 1)).1, nI (c + 1), fr3)), g5]
          unfold m_reduce_L6 m_reduce_L6J47 m_reduce_L6J219
          dsimp only
          rw [if_neg (nI_ge (by omega) (by omega)), if_neg (nI_ge (by omega) (by omega)), hbest, Option.bind_some, if_neg (nI_ge (by omega) (by omega)), s_at _ (by omega) (by omega), Option.bind_some, h1 _ c hp (by omega), s_over hP hB, Option.bind_some, g1, Option.bind_some, g3, Option.bind_some, hs2, nI_1, nI_1]
        · have hs2 : gj h M (c + 1) = gj h M c := by
            rw [hs]
            unfold gst
            rw [if_neg hp]
          obtain ⟨fr', g5, g6⟩ := ih (c + 1) fr1 (by omega) (by rw [hs2]; exact h1)
          refine ⟨fr', ?_, g6⟩
          rw [itX_step (s' := (nI (gj h M (c + 1)).1, nI (c + 1), fr1)), g5]
          unfold m_reduce_L6 m_reduce_L6J47 m_reduce_L6J219
          dsimp only
          rw [if_neg (nI_ge (by omega) (by omega)), if_neg (nI_ge (by omega) (by omega)), hbest, Option.bind_some, if_pos (nI_le (by omega) (by omega)), hs2, nI_1]
  obtain ⟨fr', h1, h2⟩ := key u 0 fr (by omega) hf
  refine ⟨fr', ?_, h2⟩
  unfold m_reduce
  rw [show ((0 : Int32), (0 : Int32), fr) = (nI (gj h M 0).1, nI 0, fr) from rfl, h1, Option.bind_some]
end GJ
