section ORDER
variable {P : Nat}
theorem fp_un [NeZero P] {w k : Nat} (hk : k < w) : fpF (P := P) w k = fun i => if i = k then 1 else 0 := by
  funext i
  unfold fpF
  rw [if_pos hk]
theorem fp_nrm [NeZero P] (hp0 : isP P) {w k : Nat} (hw : 0 < w) (hk : k ≤ w) : nrm w (fpF (P := P) w k) := by
  have h1 := one_ne hp0
  by_cases e : k < w
  · have e2 : ldV (fpF (P := P) w k) w = k := ldV_un e (by rw [fp_un e]; simpa using h1) (fun i hi => by rw [fp_un e]; (try dsimp only); rw [if_neg (by omega)])
    exact ⟨by omega, by rw [e2, fp_un e]; simp⟩
  · have e2 : ldV (fpF (P := P) w k) w = 0 := ldV_un hw (by unfold fpF; rw [if_neg e]; exact h1) (fun i hi => by omega)
    exact ⟨by omega, by rw [e2]; unfold fpF; rw [if_neg e]⟩
theorem mul_iff [NeZero P] (hp0 : isP P) {w : Nat} {x y : Nat → Fin P} (hx : nrm w x) : mul w y x ↔ ∃ l, ∀ i, i < w → y i = l * x i := by
  refine ⟨fun q => ⟨_, q.2⟩, fun q => ⟨hx.1, fun i hi => ?_⟩⟩
  obtain ⟨l, hl⟩ := q
  rw [hl _ hx.1, hx.2, hl i hi]
  grind
/-- the e-th power leaves the k-th point of the frame -/
def fe [NeZero P] (w : Nat) (M : Nat → Fin P) (e k : Nat) : Prop := ∃ l, ∀ i, i < w → imV w (mpF w M e) (fpF w k) i = l * fpF w k i
def FF [NeZero P] (w : Nat) (M : Nat → Fin P) (k e : Nat) : Prop := ∀ i, i < k → fe w M e i
theorem im_lin [NeZero P] {w : Nat} (A x y : Nat → Fin P) (s : Fin P) (i : Nat) : imV w A (fun j => y j + s * x j) i = imV w A y i + s * imV w A x i := by
  unfold imV
  rw [← sF_mul, ← sF_add]
  refine sF_congr w (fun j _ => ?_)
  (try dsimp only)
  grind
theorem im_sc [NeZero P] {w : Nat} (A x : Nat → Fin P) (s : Fin P) (i : Nat) : imV w A (fun j => s * x j) i = s * imV w A x i := by
  unfold imV
  rw [← sF_mul]
  refine sF_congr w (fun j _ => ?_)
  (try dsimp only)
  grind
theorem im_mp [NeZero P] {w : Nat} (hw : 0 < w) (M x : Nat → Fin P) (a b : Nat) {i : Nat} (hi : i < w) : imV w (mpF w M (a + b)) x i = imV w (mpF w M a) (imV w (mpF w M b) x) i := by
  rw [im_cgA (fun m hm => (mp_add hw M a b m hm).symm) hi, im_pr]
theorem inv_mp [NeZero P] {w : Nat} {M : Nat → Fin P} (h : inv w (sqM w M)) : ∀ e, inv w (sqM w (mpF w M e))
  | 0 => by
    rw [inv_im]
    intro x hx i hi
    have := hx i hi
    rw [← this]
    exact (im_id x hi).symm
  | e + 1 => inv_pr (inv_mp h e) h
theorem fe_0 [NeZero P] {w : Nat} (M : Nat → Fin P) (k : Nat) : fe w M 0 k := ⟨1, fun i hi => by
  rw [show mpF w M 0 = idF w from rfl, im_id _ hi]
  grind⟩
theorem fe_add [NeZero P] {w : Nat} (hw : 0 < w) {M : Nat → Fin P} {a b k : Nat} (ha : fe w M a k) (hb : fe w M b k) : fe w M (a + b) k := by
  obtain ⟨la, ha⟩ := ha
  obtain ⟨lb, hb⟩ := hb
  refine ⟨lb * la, fun i hi => ?_⟩
  rw [im_mp hw M _ a b hi, im_cg hb, im_sc, ha i hi]
  grind
theorem fe_sub [NeZero P] (hp0 : isP P) {w : Nat} (hw : 0 < w) {M : Nat → Fin P} (h : inv w (sqM w M)) {a b k : Nat} (hk : k ≤ w) (ha : fe w M a k) (hab : fe w M (a + b) k) : fe w M b k := by
  obtain ⟨la, ha⟩ := ha
  obtain ⟨lc, hc⟩ := hab
  have hn := fp_nrm hp0 hw hk
  have hA := inv_im.mp (inv_mp h a)
  have hla : la ≠ 0 := by
    intro e
    have := hA (fpF w k) (fun i hi => by rw [ha i hi, e]; grind) _ hn.1
    rw [hn.2] at this
    exact one_ne hp0 this
  have hf := fi_mul hp0 hla
  have hz := hA (fun j => imV w (mpF w M b) (fpF w k) j + (- (lc * fi la)) * fpF w k j) (fun i hi => by
    rw [im_lin, ← im_mp hw M _ a b hi, hc i hi, ha i hi]
    grind)
  refine ⟨lc * fi la, fun i hi => ?_⟩
  have := hz i hi
  grind
theorem FF_mul [NeZero P] {w : Nat} (hw : 0 < w) {M : Nat → Fin P} {k e : Nat} (h : FF w M k e) : ∀ q, FF w M k (e * q)
  | 0 => fun i _ => by rw [Nat.mul_zero]; exact fe_0 M i
  | q + 1 => fun i hi => by
    rw [Nat.mul_add, Nat.mul_one]
    exact fe_add hw (FF_mul hw h q i hi) (h i hi)
/-- O is the least number of times that brings back the first k points -/
def lst [NeZero P] (w : Nat) (M : Nat → Fin P) (k O : Nat) : Prop := 1 ≤ O ∧ FF w M k O ∧ ∀ e, 1 ≤ e → e < O → ¬ FF w M k e
theorem FF_dvd [NeZero P] (hp0 : isP P) {w : Nat} (hw : 0 < w) {M : Nat → Fin P} (h : inv w (sqM w M)) {k O e : Nat} (hk : k ≤ w + 1) (hO : lst w M k O) (he : FF w M k e) : O * (e / O) = e := by
  have hdm := Nat.div_add_mod e O
  have hlt := Nat.mod_lt e (show 0 < O from hO.1)
  by_cases c : e % O = 0
  · omega
  · exfalso
    refine hO.2.2 (e % O) (by omega) hlt (fun i hi => ?_)
    exact fe_sub hp0 hw h (by omega) (FF_mul hw hO.2.1 (e / O) i hi) (by rw [hdm]; exact he i hi)
theorem md_iff {w i j : Nat} (hw : w = 3 ∨ w = 4) (hi : i < w) (hj : j < w) : (i * w + j) % (w + 1) = 0 ↔ i = j := by
  rcases hw with rfl | rfl <;> omega
theorem scl_at [NeZero P] {w : Nat} (hw : w = 3 ∨ w = 4) {A : Nat → Fin P} : scl w A ↔ ∀ i j, i < w → j < w → A (i * w + j) = if i = j then A 0 else 0 := by
  refine ⟨fun q i j hi hj => ?_, fun q k hk => ?_⟩
  · rw [q _ (row_lt hi hj)]
    by_cases e : i = j
    · rw [if_pos ((md_iff hw hi hj).mpr e), if_pos e]
    · rw [if_neg (fun w2 => e ((md_iff hw hi hj).mp w2)), if_neg e]
  · have q1 : k / w < w := Nat.div_lt_of_lt_mul hk
    have q3 := Nat.mod_lt k (show 0 < w by omega)
    have q4 : k / w * w + k % w = k := by rw [Nat.mul_comm]; exact Nat.div_add_mod k w
    have := q (k / w) (k % w) q1 q3
    have m1 := md_iff hw q1 q3
    rw [q4] at this m1
    rw [this]
    by_cases e : k / w = k % w
    · rw [if_pos e, if_pos (m1.mpr e)]
    · rw [if_neg e, if_neg (fun w2 => e (m1.mp w2))]
theorem FF_scl [NeZero P] {w : Nat} (hw : w = 3 ∨ w = 4) {M : Nat → Fin P} {e : Nat} : FF w M (w + 1) e ↔ scl w (mpF w M e) := by
  have hw0 : 0 < w := by omega
  generalize hA : mpF w M e = A
  have hF : FF w M (w + 1) e ↔ ∀ k, k < w + 1 → ∃ l, ∀ i, i < w → imV w A (fpF w k) i = l * fpF w k i := by
    unfold FF fe
    rw [hA]
  rw [hF, scl_at hw]
  refine ⟨fun q => ?_, fun q k hk => ⟨A 0, fun i hi => ?_⟩⟩
  · have hoff : ∀ i j, i < w → j < w → i ≠ j → A (i * w + j) = 0 := by
      intro i j hi hj hne
      obtain ⟨l, hl⟩ := q j (by omega)
      have := hl i hi
      rw [fp_un hj, im_un hi hj] at this
      rw [this]
      (try dsimp only)
      rw [if_neg hne]
      grind
    obtain ⟨l, hl⟩ := q w (by omega)
    have hdi : ∀ i, i < w → A (i * w + i) = l := by
      intro i hi
      have h1 := hl i hi
      have h2 : ∀ j, fpF (P := P) w w j = 1 := fun j => by unfold fpF; rw [if_neg (Nat.lt_irrefl w)]
      unfold imV at h1
      rw [sF_one hi (fun j hj hne => by (try dsimp only); rw [hoff i j hi hj (Ne.symm hne)]; grind), h2] at h1
      grind
    intro i j hi hj
    by_cases c : i = j
    · subst c
      rw [if_pos rfl, hdi i hi]
      have := hdi 0 hw0
      rw [← this]
      congr 1
      omega
    · rw [if_neg c]
      exact hoff i j hi hj c
  · unfold imV
    rw [sF_one hi (fun j hj hne => by (try dsimp only); rw [q i j hi hj, if_neg (Ne.symm hne)]; grind), q i i hi hi, if_pos rfl]
/-- the images of a point are those under the powers -/
theorem it_mp [NeZero P] {w : Nat} (hw : 0 < w) (Q x : Nat → Fin P) : ∀ t i, i < w → itV w Q x t i = imV w (mpF w Q t) x i
  | 0, i, hi => (im_id x hi).symm
  | t + 1, i, hi => by
    show imV w Q (itV w Q x t) i = _
    rw [show t + 1 = 1 + t by omega, im_mp hw Q x 1 t hi, im_cg (it_mp hw Q x t)]
    exact (im_cgA (mp_1 Q) hi).symm
theorem mp_mp [NeZero P] {w : Nat} (hw : 0 < w) (M : Nat → Fin P) (a : Nat) : ∀ t m, m < w * w → mpF w (mpF w M a) t m = mpF w M (a * t) m
  | 0, m, hm => rfl
  | t + 1, m, hm => by
    show prF w (mpF w (mpF w M a) t) (mpF w M a) m = _
    rw [pr_cg (fun l hl => mp_mp hw M a t l hl) (fun _ _ => rfl) m hm, mp_add hw M (a * t) a m hm, Nat.mul_add, Nat.mul_one]
theorem mul_fe [NeZero P] (hp0 : isP P) {w : Nat} (hw : 0 < w) (M : Nat → Fin P) {O k : Nat} (hk : k ≤ w) (t : Nat) : mul w (itV w (mpF w M O) (fpF w k) t) (fpF w k) ↔ fe w M (O * t) k := by
  rw [mul_iff hp0 (fp_nrm hp0 hw hk)]
  unfold fe
  constructor
  · rintro ⟨l, hl⟩
    refine ⟨l, fun i hi => ?_⟩
    rw [← hl i hi, it_mp hw _ _ t i hi]
    exact (im_cgA (mp_mp hw M O t) hi).symm
  · rintro ⟨l, hl⟩
    refine ⟨l, fun i hi => ?_⟩
    rw [← hl i hi, it_mp hw _ _ t i hi]
    exact im_cgA (mp_mp hw M O t) hi
theorem FF_1 [NeZero P] {w : Nat} {M : Nat → Fin P} {k e : Nat} : FF w M (k + 1) e ↔ FF w M k e ∧ fe w M e k := by
  refine ⟨fun q => ⟨fun i hi => q i (by omega), q k (by omega)⟩, fun q i hi => ?_⟩
  by_cases c : i = k
  · rw [c]
    exact q.2
  · exact q.1 i (by omega)
/-- one point further -/
theorem lst_1 [NeZero P] (hp0 : isP P) {w : Nat} (hw : 0 < w) {M : Nat → Fin P} (h : inv w (sqM w M)) {k O : Nat} (hk : k ≤ w) (hO : lst w M k O) (ho : O ≤ 1000) : (tbN w (mpF w M O) (fpF w k) (1000 / O) ≤ 1000 / O → lst w M (k + 1) (O * tbN w (mpF w M O) (fpF w k) (1000 / O)) ∧ 1 ≤ tbN w (mpF w M O) (fpF w k) (1000 / O) ∧ O * tbN w (mpF w M O) (fpF w k) (1000 / O) ≤ 1000) ∧ ((¬ tbN w (mpF w M O) (fpF w k) (1000 / O) ≤ 1000 / O) → ∀ e, 1 ≤ e → e ≤ 1000 → ¬ FF w M (k + 1) e) := by
  have hO1 := hO.1
  have hle := sr_le (fun t => decide (mul w (itV w (mpF w M O) (fpF w k) t) (fpF w k))) (1000 / O) 1
  have ht := sr_t (fun t => decide (mul w (itV w (mpF w M O) (fpF w k) t) (fpF w k))) (1000 / O) 1
  have hf := sr_f (fun t => decide (mul w (itV w (mpF w M O) (fpF w k) t) (fpF w k))) (1000 / O) 1
  have hT : tbN w (mpF w M O) (fpF w k) (1000 / O) = sr (fun t => decide (mul w (itV w (mpF w M O) (fpF w k) t) (fpF w k))) (1000 / O) 1 := rfl
  rw [← hT] at hle ht hf
  generalize tbN w (mpF w M O) (fpF w k) (1000 / O) = T at hle ht hf
  have key : ∀ e, 1 ≤ e → FF w M (k + 1) e → ∃ q, e = O * q ∧ T ≤ q := by
    intro e h1 he
    have h2 := FF_dvd hp0 hw h (by omega) hO (FF_1.mp he).1
    refine ⟨e / O, h2.symm, ?_⟩
    rcases Nat.lt_or_ge (e / O) T with c | c
    · exfalso
      have h3 : 1 ≤ e / O := by
        rcases Nat.eq_zero_or_pos (e / O) with z | z
        · rw [z, Nat.mul_zero] at h2
          omega
        · exact z
      have h4 := hf (e / O) h3 c
      rw [decide_eq_false_iff_not] at h4
      apply h4
      rw [mul_fe hp0 hw M hk, h2]
      exact (FF_1.mp he).2
    · exact c
  refine ⟨fun q => ?_, fun q e h1 h2 he => ?_⟩
  · have h5 : O * T ≤ 1000 := Nat.le_trans (Nat.mul_le_mul_left O q) (Nat.mul_div_le 1000 O)
    refine ⟨⟨Nat.mul_pos hO1 hle.1, FF_1.mpr ⟨FF_mul hw hO.2.1 T, ?_⟩, fun e h1 h2 he => ?_⟩, hle.1, h5⟩
    · have := ht (by omega)
      rw [decide_eq_true_iff] at this
      exact (mul_fe hp0 hw M hk T).mp this
    · obtain ⟨q2, h6, h7⟩ := key e h1 he
      have := Nat.mul_le_mul_left O h7
      omega
  · obtain ⟨q2, h6, h7⟩ := key e h1 he
    have h8 : q2 ≤ 1000 / O := by
      rw [Nat.le_div_iff_mul_le hO1, Nat.mul_comm]
      omega
    omega
theorem or_lst [NeZero P] {w : Nat} (hw : w = 3 ∨ w = 4) {M : Nat → Fin P} {O : Nat} (hO : lst w M (w + 1) O) (ho : O ≤ 1000) : orN w M = O := by
  have hle := sr_le (fun k => sclB w (mpF w M k)) 1000 1
  have ht := sr_t (fun k => sclB w (mpF w M k)) 1000 1
  have hf := sr_f (fun k => sclB w (mpF w M k)) 1000 1
  have hT : orN w M = sr (fun k => sclB w (mpF w M k)) 1000 1 := rfl
  rw [← hT] at hle ht hf
  rcases Nat.lt_trichotomy (orN w M) O with c | c | c
  · have := ht (by omega)
    exact absurd ((FF_scl hw).mpr (sclB_t.mp this)) (hO.2.2 _ hle.1 c)
  · exact c
  · have := hf O hO.1 c
    have h2 := sclB_t.mpr ((FF_scl hw).mp hO.2.1)
    rw [h2] at this
    cases this
theorem or_no [NeZero P] {w : Nat} (hw : w = 3 ∨ w = 4) {M : Nat → Fin P} (h : ∀ e, 1 ≤ e → e ≤ 1000 → ¬ FF w M (w + 1) e) : ¬ orN w M ≤ 1000 := by
  have hle := sr_le (fun k => sclB w (mpF w M k)) 1000 1
  have ht := sr_t (fun k => sclB w (mpF w M k)) 1000 1
  have hT : orN w M = sr (fun k => sclB w (mpF w M k)) 1000 1 := rfl
  rw [← hT] at hle ht
  intro q
  exact h _ hle.1 q ((FF_scl hw).mpr (sclB_t.mp (ht (by omega))))
end ORDER
