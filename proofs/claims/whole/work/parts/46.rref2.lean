section RREFB
variable {P : Nat}
theorem sF_app [NeZero P] (f : Nat → Fin P) (m : Nat) : ∀ n, sF f (m + n) = sF f m + sF (fun j => f (m + j)) n
  | 0 => by
    simp only [sF]
    rw [Nat.add_zero]
    grind
  | n + 1 => by
    rw [← Nat.add_assoc]
    simp only [sF]
    rw [sF_app f m n]
    grind
/-- what all lines send to 0, all their sums send to 0 -/
theorem ker_sp [NeZero P] {h W : Nat} {M : Mx P} {x y : Nat → Fin P} (hx : ∀ i, i < h → sF (fun j => M i j * x j) W = 0) (hy : inSp h M y) : sF (fun j => y j * x j) W = 0 := by
  obtain ⟨c, hc⟩ := hy
  have e : sF (fun j => y j * x j) W = sF (fun i => sF (fun j => c i * (M i j * x j)) W) h := by
    rw [sF_swap]
    refine sF_congr W (fun j _ => ?_)
    rw [hc j]
    unfold cmb
    rw [← sF_mulr]
    exact sF_congr h (fun k _ => by grind)
  rw [e]
  refine sF_0 (fun i hi => ?_)
  rw [sF_mul, hx i hi]
  grind
theorem ker_gj [NeZero P] (hp : isP P) {h u W : Nat} {M : Mx P} {x : Nat → Fin P} : (∀ i, i < h → sF (fun j => (gj h M u).2 i j * x j) W = 0) ↔ ∀ i, i < h → sF (fun j => M i j * x j) W = 0 := ⟨fun q i hi => ker_sp q ((gj_eq hp h M u).2 i hi), fun q i hi => ker_sp q ((gj_eq hp h M u).1 i hi)⟩
/-- as many steps as lines and columns: the square of ones -/
theorem inc_id {w : Nat} {pv : Nat → Nat} (h1 : ∀ k, k < w → pv k < w) (h2 : ∀ k l, k < l → l < w → pv k < pv l) : ∀ k, k < w → pv k = k := by
  have lo : ∀ k, k < w → k ≤ pv k := by
    intro k
    induction k with
    | zero => intro _; omega
    | succ k ih =>
      intro hk
      have := ih (by omega)
      have := h2 k (k + 1) (by omega) hk
      omega
  have hi : ∀ m k, k + m + 1 = w → pv k ≤ k := by
    intro m
    induction m with
    | zero =>
      intro k e
      have := h1 k (by omega)
      omega
    | succ m ih =>
      intro k e
      have a := ih (k + 1) (by omega)
      have b := h2 k (k + 1) (by omega) (by omega)
      omega
  intro k hk
  have a := lo k hk
  have b := hi (w - k - 1) k (by omega)
  omega
theorem full_1 [NeZero P] (hp : isP P) {w : Nat} {M : Mx P} (hf : (gj w M w).1 = w) {i j : Nat} (hi : i < w) (hj : j < w) : (gj w M w).2 i j = if i = j then 1 else 0 := by
  obtain ⟨pv, h0, h1, h2, h3, h4, h5⟩ := gj_stp hp w M w
  rw [hf] at h0 h1 h2 h3 h4 h5
  have hid := inc_id h1 h2
  have := h3 j i hj hi
  rw [hid j hj] at this
  exact this
/-- no row but that of zeros goes to zeros -/
def inv [NeZero P] (w : Nat) (M : Mx P) : Prop := ∀ x : Nat → Fin P, (∀ i, i < w → sF (fun j => M i j * x j) w = 0) → ∀ i, i < w → x i = 0
theorem full_iff [NeZero P] (hp : isP P) {w : Nat} {M : Mx P} : (gj w M w).1 = w ↔ inv w M := by
  constructor
  · intro hf x hx i hi
    have := (ker_gj hp (u := w)).mpr hx i hi
    rw [sF_one (k := i) hi (fun j hj hji => by rw [full_1 hp hf hi hj, if_neg (fun q => hji q.symm)]; grind), full_1 hp hf hi hi, if_pos rfl] at this
    grind
  · intro hv
    obtain ⟨pv, h0, h1, h2, h3, h4, h5⟩ := gj_stp hp w M w
    generalize hr : (gj w M w).1 = r at *
    rcases Nat.lt_or_ge r w with q | q
    · exfalso
      have hex : ∃ c, c < w ∧ ∀ k, k < r → pv k ≠ c := by
        by_cases hall : ∀ k, k < r → pv k = k
        · exact ⟨r, q, fun k hk => by rw [hall k hk]; omega⟩
        · have : ∃ k, k < r ∧ pv k ≠ k ∧ ∀ l, l < k → pv l = l := by
            have gen : ∀ n, n ≤ r → (∀ l, l < n → pv l = l) ∨ ∃ k, k < n ∧ pv k ≠ k ∧ ∀ l, l < k → pv l = l := by
              intro n
              induction n with
              | zero => intro _; exact Or.inl (fun l hl => by omega)
              | succ n ih =>
                intro hn
                rcases ih (by omega) with a | ⟨k, a, b, c⟩
                · by_cases e : pv n = n
                  · refine Or.inl (fun l hl => ?_)
                    by_cases e2 : l = n
                    · rw [e2]; exact e
                    · exact a l (by omega)
                  · exact Or.inr ⟨n, by omega, e, a⟩
                · exact Or.inr ⟨k, by omega, b, c⟩
            rcases gen r (Nat.le_refl r) with a | a
            · exact absurd a hall
            · exact a
          obtain ⟨k, k1, k2, k3⟩ := this
          have hkl : k < pv k := by
            rcases Nat.lt_or_ge k (pv k) with z | z
            · exact z
            · exfalso
              have hne : pv k < k := by omega
              have e1 := k3 (pv k) hne
              have e2 := h2 (pv k) k hne k1
              omega
          have hpw := h1 k k1
          refine ⟨k, by omega, fun l hl => ?_⟩
          rcases Nat.lt_trichotomy l k with z | z | z
          · rw [k3 l z]; omega
          · rw [z]; omega
          · have := h2 k l z hl
            omega
      obtain ⟨c, c1, c2⟩ := hex
      have hinj : ∀ k l, k < r → l < r → pv k = pv l → k = l := by
        intro k l hk hl e
        rcases Nat.lt_trichotomy k l with z | z | z
        · have := h2 k l z hl; omega
        · exact z
        · have := h2 l k z hk; omega
      have hx := hv (fun j => if j = c then 1 else sF (fun k => if pv k = j then - (gj w M w).2 k c else 0) r) ?_ c c1
      · rw [if_pos rfl] at hx
        exact one_ne hp hx
      · refine (ker_gj hp (u := w)).mp (fun i hi => ?_)
        have e1 : ∀ j, j < w → (gj w M w).2 i j * (if j = c then 1 else sF (fun k => if pv k = j then - (gj w M w).2 k c else 0) r) = (if j = c then (gj w M w).2 i c else 0) + sF (fun k => if pv k = j then - ((gj w M w).2 i (pv k) * (gj w M w).2 k c) else 0) r := by
          intro j hj
          by_cases e : j = c
          · rw [if_pos e, if_pos e, sF_0 (fun k hk => by rw [if_neg (fun z => c2 k hk (z.trans e))]), e]
            grind
          · rw [if_neg e, if_neg e, ← sF_mul]
            have : sF (fun k => (gj w M w).2 i j * (if pv k = j then - (gj w M w).2 k c else 0)) r = sF (fun k => if pv k = j then - ((gj w M w).2 i (pv k) * (gj w M w).2 k c) else 0) r := by
              refine sF_congr r (fun k hk => ?_)
              by_cases z : pv k = j
              · rw [if_pos z, if_pos z, z]
                grind
              · rw [if_neg z, if_neg z]
                grind
            rw [this]
            grind
        rw [sF_congr w e1, sF_add, sF_one (k := c) c1 (fun j _ hj => by rw [if_neg hj]), if_pos rfl, sF_swap]
        have e2 : ∀ k, k < r → sF (fun j => if pv k = j then - ((gj w M w).2 i (pv k) * (gj w M w).2 k c) else 0) w = - ((gj w M w).2 i (pv k) * (gj w M w).2 k c) := by
          intro k hk
          rw [sF_one (k := pv k) (h1 k hk) (fun j _ hj => by rw [if_neg (fun z => hj z.symm)]), if_pos rfl]
        rw [sF_congr r e2]
        rcases Nat.lt_or_ge i r with z | z
        · rw [sF_one (k := i) z (fun k hk hki => by rw [h3 k i hk hi, if_neg (fun y => hki y.symm)]; grind), h3 i i z hi, if_pos rfl]
          grind
        · rw [sF_0 (fun k hk => by rw [h3 k i hk hi, if_neg (by omega)]; grind), h5 i c z hi c1]
          grind
    · omega
/-- the inverse -/
theorem ag_sum [NeZero P] {w i : Nat} {Q x : Nat → Fin P} (hi : i < w) : sF (fun j => agM w Q i j * x j) (w + w) = sF (fun j => Q (i * w + j) * x j) w + x (w + i) := by
  rw [sF_app]
  congr 1
  · exact sF_congr w (fun j hj => by unfold agM; rw [if_pos hj])
  · rw [sF_one (k := i) hi (fun j hj hji => by unfold agM; rw [if_neg (by omega), if_neg (by omega)]; grind)]
    unfold agM
    rw [if_neg (by omega), if_pos rfl]
    grind
theorem ivF_at [NeZero P] {w i k : Nat} {Q : Nat → Fin P} (hk : k < w) : ivF w Q (i * w + k) = (gj w (agM w Q) w).2 i (w + k) := by
  unfold ivF
  rw [show (i * w + k) / w = i by rw [Nat.mul_comm, Nat.mul_add_div (by omega), Nat.div_eq_of_lt hk, Nat.add_zero], show (i * w + k) % w = k by rw [Nat.mul_comm, Nat.mul_add_mod]; exact Nat.mod_eq_of_lt hk]
theorem ag_sumG [NeZero P] (hp : isP P) {w i : Nat} {Q x : Nat → Fin P} (hf : (gj w (agM w Q) w).1 = w) (hi : i < w) : sF (fun j => (gj w (agM w Q) w).2 i j * x j) (w + w) = x i + sF (fun k => ivF w Q (i * w + k) * x (w + k)) w := by
  rw [sF_app]
  congr 1
  · rw [sF_one (k := i) hi (fun j hj hji => by rw [full_1 hp hf hi hj, if_neg (fun q => hji q.symm)]; grind), full_1 hp hf hi hi, if_pos rfl]
    grind
  · exact sF_congr w (fun k hk => by rw [ivF_at hk])
theorem iv_l [NeZero P] (hp : isP P) {w i : Nat} {Q x : Nat → Fin P} (hf : (gj w (agM w Q) w).1 = w) (hi : i < w) : imV w (ivF w Q) (imV w Q x) i = x i := by
  have key := (ker_gj hp (h := w) (u := w) (W := w + w) (M := agM w Q) (x := fun j => if j < w then x j else - imV w Q x (j - w))).mpr ?_ i hi
  · rw [ag_sumG hp hf hi, if_pos hi] at key
    have e : sF (fun k => ivF w Q (i * w + k) * (if w + k < w then x (w + k) else - imV w Q x (w + k - w))) w = - imV w (ivF w Q) (imV w Q x) i := by
      have : imV w (ivF w Q) (imV w Q x) i = sF (fun k => ivF w Q (i * w + k) * imV w Q x k) w := rfl
      rw [this, ← sF_neg]
      refine sF_congr w (fun k hk => ?_)
      rw [if_neg (by omega), show w + k - w = k by omega]
      grind
    rw [e] at key
    grind
  · intro k hk
    rw [ag_sum hk, if_neg (by omega), show w + k - w = k by omega]
    have : sF (fun j => Q (k * w + j) * (if j < w then x j else - imV w Q x (j - w))) w = imV w Q x k := by
      unfold imV
      exact sF_congr w (fun j hj => by rw [if_pos hj])
    rw [this]
    grind
theorem iv_r [NeZero P] (hp : isP P) {w i : Nat} {Q z : Nat → Fin P} (hf : (gj w (agM w Q) w).1 = w) (hi : i < w) : imV w Q (imV w (ivF w Q) z) i = z i := by
  have key := (ker_gj hp (h := w) (u := w) (W := w + w) (M := agM w Q) (x := fun j => if j < w then imV w (ivF w Q) z j else - z (j - w))).mp ?_ i hi
  · rw [ag_sum hi, if_neg (by omega), show w + i - w = i by omega] at key
    have : sF (fun j => Q (i * w + j) * (if j < w then imV w (ivF w Q) z j else - z (j - w))) w = imV w Q (imV w (ivF w Q) z) i := by
      have : imV w Q (imV w (ivF w Q) z) i = sF (fun j => Q (i * w + j) * imV w (ivF w Q) z j) w := rfl
      rw [this]
      exact sF_congr w (fun j hj => by rw [if_pos hj])
    rw [this] at key
    grind
  · intro k hk
    rw [ag_sumG hp hf hk, if_pos hk]
    have e : sF (fun l => ivF w Q (k * w + l) * (if w + l < w then imV w (ivF w Q) z (w + l) else - z (w + l - w))) w = - imV w (ivF w Q) z k := by
      have : imV w (ivF w Q) z k = sF (fun l => ivF w Q (k * w + l) * z l) w := rfl
      rw [this, ← sF_neg]
      refine sF_congr w (fun l hl => ?_)
      rw [if_neg (by omega), show w + l - w = l by omega]
      grind
    rw [e]
    grind
/-- only the columns that are brought into steps count -/
theorem fst0_congr [NeZero P] {M N : Mx P} {c h : Nat} : ∀ n r, r + n ≤ h → (∀ i, i < h → M i c = N i c) → fst0 M c n r = fst0 N c n r
  | 0, r, _, _ => rfl
  | n + 1, r, hn, e => by
    unfold fst0
    rw [e r (by omega), fst0_congr n (r + 1) (by omega) e]
theorem gj_cols [NeZero P] {h u : Nat} {M N : Mx P} (e : ∀ i j, i < h → j < u → M i j = N i j) : ∀ c, c ≤ u → (gj h M c).1 = (gj h N c).1 ∧ ∀ i j, i < h → j < u → (gj h M c).2 i j = (gj h N c).2 i j
  | 0, _ => ⟨rfl, e⟩
  | c + 1, hc => by
    obtain ⟨h1, h2⟩ := gj_cols e c (by omega)
    have hle := (gj_le h N c).1
    have hs1 : gj h M (c + 1) = gst h c (gj h M c) := rfl
    have hs2 : gj h N (c + 1) = gst h c (gj h N c) := rfl
    rw [hs1, hs2]
    generalize gj h M c = s at *
    generalize gj h N c = t at *
    obtain ⟨r, G⟩ := s
    obtain ⟨r', F⟩ := t
    dsimp only at h1 h2 hle
    subst h1
    have ef : fst0 G c (h - r) r = fst0 F c (h - r) r := fst0_congr (h - r) r (by omega) (fun i hi => h2 i c hi (by omega))
    unfold gst
    (try dsimp only)
    rw [ef]
    by_cases q : fst0 F c (h - r) r < h
    · rw [if_pos q, if_pos q]
      have hl := (fst0_le F c (h - r) r).1
      generalize fst0 F c (h - r) r = b at *
      have hsw : ∀ i j, i < h → j < u → swp G r b c i j = swp F r b c i j := by
        intro i j hi hj
        unfold swp
        rw [h2 b j q hj, h2 b c q (by omega), h2 r j (by omega) hj, h2 i j hi hj]
      refine ⟨rfl, fun i j hi hj => ?_⟩
      (try dsimp only)
      unfold clr
      rw [hsw r j (by omega) hj, hsw i j hi hj, hsw i c hi (by omega)]
    · rw [if_neg q, if_neg q]
      exact ⟨rfl, h2⟩
theorem inv_ag [NeZero P] {w : Nat} {Q : Nat → Fin P} : inv w (agM w Q) ↔ inv w (sqM w Q) := by
  have e : ∀ (x : Nat → Fin P) i, sF (fun j => agM w Q i j * x j) w = sF (fun j => sqM w Q i j * x j) w := fun x i => sF_congr w (fun j hj => by unfold agM sqM; rw [if_pos hj])
  unfold inv
  constructor
  · intro h x hx
    exact h x (fun i hi => by rw [e]; exact hx i hi)
  · intro h x hx
    exact h x (fun i hi => by rw [← e]; exact hx i hi)
/-- ranks of grids with the same sums -/
theorem rk_step [NeZero P] (hp : isP P) {h c : Nat} {M : Mx P} : (gj h M (c + 1)).1 = (gj h M c).1 + (if fst0 (gj h M c).2 c (h - (gj h M c).1) (gj h M c).1 < h then 1 else 0) ∧ (fst0 (gj h M c).2 c (h - (gj h M c).1) (gj h M c).1 < h ↔ ∃ y, inSp h M y ∧ (∀ j, j < c → y j = 0) ∧ y c ≠ 0) := by
  obtain ⟨pv, h0, h1, h2, h3, h4, h5⟩ := gj_stp hp h M c
  have hsp : ∀ y, inSp h (gj h M c).2 y ↔ inSp h M y := fun y => gj_sp hp
  have hs : gj h M (c + 1) = gst h c (gj h M c) := rfl
  rw [hs]
  generalize gj h M c = s at *
  obtain ⟨r, G⟩ := s
  dsimp only at h0 h1 h2 h3 h4 h5 hsp ⊢
  constructor
  · unfold gst
    (try dsimp only)
    split <;> rfl
  · have hl := fst0_le G c (h - r) r
    constructor
    · intro q
      have hz := fst0_nz G c (h - r) r (by omega)
      exact ⟨G (fst0 G c (h - r) r), (hsp _).mp (sp_row1 q), fun j hj => h5 _ j hl.1 q hj, hz⟩
    · rintro ⟨y, y1, y2, y3⟩
      obtain ⟨e, he⟩ := (hsp y).mpr y1
      rcases Nat.lt_or_ge (fst0 G c (h - r) r) h with q | q
      · exact q
      · exfalso
        have hk : ∀ k, k < r → e k = 0 := by
          intro k hk
          have := y2 (pv k) (h1 k hk)
          rw [he] at this
          unfold cmb at this
          rw [sF_one (k := k) (by omega) (fun i hi hik => by rw [h3 k i hk hi, if_neg hik]; grind), h3 k k hk (by omega), if_pos rfl] at this
          grind
        apply y3
        rw [he]
        unfold cmb
        refine sF_0 (fun i hi => ?_)
        rcases Nat.lt_or_ge i r with z | z
        · rw [hk i z]
          grind
        · rw [fst0_z G c (h - r) r i z (by omega)]
          grind
theorem rk_eq [NeZero P] (hp : isP P) {h k : Nat} {M N : Mx P} (e : ∀ y, inSp h M y ↔ inSp k N y) : ∀ c, (gj h M c).1 = (gj k N c).1
  | 0 => rfl
  | c + 1 => by
    obtain ⟨a1, a2⟩ := rk_step hp (h := h) (c := c) (M := M)
    obtain ⟨b1, b2⟩ := rk_step hp (h := k) (c := c) (M := N)
    have ih := rk_eq hp e c
    rw [a1, b1]
    by_cases q : ∃ y, inSp h M y ∧ (∀ j, j < c → y j = 0) ∧ y c ≠ 0
    · have q2 : ∃ y, inSp k N y ∧ (∀ j, j < c → y j = 0) ∧ y c ≠ 0 := by
        obtain ⟨y, y1, y2⟩ := q
        exact ⟨y, (e y).mp y1, y2⟩
      rw [if_pos (a2.mpr q), if_pos (b2.mpr q2), ih]
    · have q2 : ¬ ∃ y, inSp k N y ∧ (∀ j, j < c → y j = 0) ∧ y c ≠ 0 := by
        rintro ⟨y, y1, y2⟩
        exact q ⟨y, (e y).mpr y1, y2⟩
      rw [if_neg (fun z => q (a2.mp z)), if_neg (fun z => q2 (b2.mp z)), ih]
end RREFB
