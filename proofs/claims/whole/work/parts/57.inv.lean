section INV
variable {P : Nat}
theorem ldV_un [NeZero P] {x : Nat → Fin P} {n k : Nat} (hk : k < n) (h1 : x k ≠ 0) (h2 : ∀ i, i < k → x i = 0) : ldV x n = k := by
  rcases Nat.lt_trichotomy (ldV x n) k with c | c | c
  · exact absurd (h2 _ c) (ldV_nz (by omega))
  · exact c
  · exact absurd (ldV_z c) h1
theorem ldV_lt [NeZero P] {x : Nat → Fin P} {n k : Nat} (hk : k < n) (h1 : x k ≠ 0) : ldV x n < n := by
  rcases Nat.lt_or_ge (ldV x n) n with c | c
  · exact c
  · have := ldV_le x n
    exact absurd (ldV_eq.mp (by omega) k hk) h1
theorem ld_mul [NeZero P] (hp0 : isP P) {x y : Nat → Fin P} {n : Nat} {l : Fin P} (hl : l ≠ 0) (h : ∀ j, j < n → y j = l * x j) : ldV y n = ldV x n := by
  by_cases c : ldV x n < n
  · refine ldV_un c ?_ (fun i hi => ?_)
    · rw [h _ c]
      exact nz_prod hp0 hl (ldV_nz c)
    · rw [h i (by omega), ldV_z hi]
      grind
  · have := ldV_le x n
    have e : ldV x n = n := by omega
    rw [e]
    exact ldV_eq.mpr (fun j hj => by rw [h j hj, ldV_eq.mp e j hj]; grind)
theorem ld_cg [NeZero P] {x y : Nat → Fin P} {n : Nat} (h : ∀ j, j < n → y j = x j) : ldV y n = ldV x n := by
  by_cases c : ldV x n < n
  · refine ldV_un c ?_ (fun i hi => ?_)
    · rw [h _ c]
      exact ldV_nz c
    · rw [h i (by omega), ldV_z hi]
  · have := ldV_le x n
    have e : ldV x n = n := by omega
    rw [e]
    exact ldV_eq.mpr (fun j hj => by rw [h j hj, ldV_eq.mp e j hj])
theorem fi_pr [NeZero P] (hp0 : isP P) {a b : Fin P} (ha : a ≠ 0) (hb : b ≠ 0) : fi (a * b) = fi a * fi b := by
  refine (fi_uniq hp0 ?_).symm
  have h1 := fi_mul hp0 ha
  have h2 := fi_mul hp0 hb
  grind
theorem nm_mul [NeZero P] (hp0 : isP P) {x y : Nat → Fin P} {n : Nat} {l : Fin P} (hl : l ≠ 0) (h : ∀ j, j < n → y j = l * x j) : ∀ j, j < n → nmV y n j = nmV x n j := by
  intro j hj
  have e := ld_mul hp0 hl h
  unfold nmV
  rw [e]
  by_cases c : ldV x n < n
  · rw [if_pos c, if_pos c, h j hj, h _ c, fi_pr hp0 hl (ldV_nz c)]
    have := fi_mul hp0 hl
    grind
  · have := ldV_le x n
    have e2 := ldV_eq.mp (show ldV x n = n by omega)
    rw [if_neg c, if_neg c, h j hj, e2 j hj]
    grind
theorem plc_cg [NeZero P] {W t c : Nat} {y z : Nat → Fin P} {S : Nat → Nat} {R : Nat → Nat → Fin P} (h : ∀ k, k < W → y k = z k) : plc W t y c S R = plc W t z c S R := by
  have e1 : mtc W t y S R = mtc W t z S R := by
    funext a
    unfold mtc
    congr 1
    apply propext
    exact ⟨fun q => ⟨q.1, fun k hk => by rw [q.2 k hk, h k hk]⟩, fun q => ⟨q.1, fun k hk => by rw [q.2 k hk, h k hk]⟩⟩
  have e2 : (fun b k => if b = c then (if k < W then y k else 0) else R b k) = (fun b k => if b = c then (if k < W then z k else 0) else R b k) := by
    funext b k
    by_cases q : b = c
    · rw [if_pos q, if_pos q]
      by_cases q2 : k < W
      · rw [if_pos q2, if_pos q2, h k q2]
      · rw [if_neg q2, if_neg q2]
    · rw [if_neg q, if_neg q]
  unfold plc
  rw [e1, e2]
theorem kp_mul [NeZero P] (hp0 : isP P) {W t c : Nat} {x y : Nat → Fin P} {S : Nat → Nat} {R : Nat → Nat → Fin P} {l : Fin P} (hl : l ≠ 0) (h : ∀ j, j < W → y j = l * x j) : kpF W t (some y) c S R = kpF W t (some x) c S R := by
  unfold kpF
  (try dsimp only)
  rw [ld_mul hp0 hl h, plc_cg (nm_mul hp0 hl h)]
theorem kp_cg [NeZero P] (hp0 : isP P) {W t c : Nat} {x y : Nat → Fin P} {S : Nat → Nat} {R : Nat → Nat → Fin P} (h : ∀ j, j < W → y j = x j) : kpF W t (some y) c S R = kpF W t (some x) c S R := kp_mul hp0 (one_ne hp0) (fun j hj => by rw [h j hj]; grind)
theorem kp_ng [NeZero P] (hp0 : isP P) {W t c : Nat} {x y : Nat → Fin P} {S : Nat → Nat} {R : Nat → Nat → Fin P} (h : ∀ j, j < W → y j = - x j) : kpF W t (some y) c S R = kpF W t (some x) c S R := kp_mul hp0 (l := -1) (fun q => one_ne hp0 (by grind)) (fun j hj => by rw [h j hj]; grind)
theorem kp_0 [NeZero P] {W t c : Nat} {y : Nat → Fin P} {S : Nat → Nat} {R : Nat → Nat → Fin P} (h : ∀ j, j < W → y j = 0) : kpF W t (some y) c S R = (-1, c, S, R) := by
  unfold kpF
  (try dsimp only)
  rw [if_pos (ldV_eq.mpr h)]
theorem kp_1 [NeZero P] {W t c : Nat} {y : Nat → Fin P} {S : Nat → Nat} {R : Nat → Nat → Fin P} (h : ldV y W < W) : kpF W t (some y) c S R = plc W t (nmV y W) c S R := by
  unfold kpF
  (try dsimp only)
  rw [if_neg (by omega)]
/-- a row that counts as normal -/
def nrm [NeZero P] (W : Nat) (y : Nat → Fin P) : Prop := ldV y W < W ∧ y (ldV y W) = 1
def plu [NeZero P] (y : Nat → Fin P) : Prop := y 0 * y 5 - y 1 * y 4 + y 2 * y 3 = 0
def sym (w : Nat) (Q : Nat → Fin P) : Prop := ∀ i j, i < w → j < w → Q (i * w + j) = Q (j * w + i)
/-- what the document asks of a row of a sort -/
def okx [NeZero P] (d t : Nat) (y : Nat → Fin P) : Prop := t < 5 ∧ (d = 2 → t ≠ 2) ∧ (t = 1 → d = 3 → plu y) ∧ (t = 3 → inv (d + 1) (sqM (d + 1) y)) ∧ (t = 4 → sym (d + 1) y)
theorem okx_mul [NeZero P] (hp0 : isP P) {d t : Nat} {x y : Nat → Fin P} {l : Fin P} (hl : l ≠ 0) (h : ∀ j, j < wd d t → y j = l * x j) (hx : okx d t x) : okx d t y := by
  obtain ⟨h1, h2, h3, h4, h5⟩ := hx
  refine ⟨h1, h2, fun q1 q2 => ?_, fun q1 => ?_, fun q1 => ?_⟩
  · have := h3 q1 q2
    subst q1
    subst q2
    unfold plu at this ⊢
    rw [h 0 (by decide), h 1 (by decide), h 2 (by decide), h 3 (by decide), h 4 (by decide), h 5 (by decide)]
    grind
  · have hi := h4 q1
    subst q1
    intro z hz i hi2
    refine hi z (fun i hi3 => ?_) i hi2
    have hh := hz i hi3
    have e : sF (fun j => sqM (d + 1) y i j * z j) (d + 1) = l * sF (fun j => sqM (d + 1) x i j * z j) (d + 1) := by
      rw [← sF_mul]
      refine sF_congr _ (fun j hj => ?_)
      (try dsimp only)
      unfold sqM
      rw [h _ (by unfold wd; rw [if_pos (Or.inl rfl)]; exact row_lt hi3 hj)]
      grind
    rw [e] at hh
    exact (nz_mul hp0 hh).elim (fun q => absurd q hl) (fun q => q)
  · have hs := h5 q1
    subst q1
    intro i j hi hj
    rw [h _ (by unfold wd; rw [if_pos (Or.inr rfl)]; exact row_lt hi hj), h _ (by unfold wd; rw [if_pos (Or.inr rfl)]; exact row_lt hj hi), hs i j hi hj]
theorem okx_cg [NeZero P] (hp0 : isP P) {d t : Nat} {x y : Nat → Fin P} (h : ∀ j, j < wd d t → y j = x j) (hx : okx d t x) : okx d t y := okx_mul hp0 (one_ne hp0) (fun j hj => by rw [h j hj]; grind) hx
theorem nrm_nm [NeZero P] (hp0 : isP P) {W : Nat} {y : Nat → Fin P} (h : ldV y W < W) : nrm W (nmV y W) := by
  have hf : fi (y (ldV y W)) ≠ 0 := fi_ne hp0 (ldV_nz h)
  have e : ldV (nmV y W) W = ldV y W := ld_mul hp0 hf (fun j hj => by unfold nmV; rw [if_pos h]; grind)
  refine ⟨by rw [e]; exact h, ?_⟩
  rw [e]
  unfold nmV
  rw [if_pos h]
  exact fi_mul hp0 (ldV_nz h)
theorem nm_nrm [NeZero P] (hp0 : isP P) {W : Nat} {y : Nat → Fin P} (h : nrm W y) (j : Nat) : nmV y W j = y j := by
  unfold nmV
  rw [if_pos h.1, h.2, fi_1 hp0]
  grind
/-- the shelf: rows are what they should be, and no two are the same -/
def shf [NeZero P] (d c : Nat) (S : Nat → Nat) (R : Nat → Nat → Fin P) : Prop := (∀ a, a < c → nrm (wd d (S a)) (R a) ∧ okx d (S a) (R a)) ∧ ∀ a b, a < c → b < c → S a = S b → (∀ k, k < wd d (S a) → R a k = R b k) → a = b
def ext [NeZero P] (d c : Nat) (S : Nat → Nat) (R : Nat → Nat → Fin P) (K : Int32 × Nat × (Nat → Nat) × (Nat → Nat → Fin P)) : Prop := shf d K.2.1 K.2.2.1 K.2.2.2 ∧ c ≤ K.2.1 ∧ K.2.1 ≤ 60 ∧ ∀ a, a < c → K.2.2.1 a = S a ∧ ∀ k, K.2.2.2 a k = R a k
theorem ext_id [NeZero P] {d c : Nat} {S : Nat → Nat} {R : Nat → Nat → Fin P} (h : shf d c S R) (hc : c ≤ 60) (v : Int32) : ext d c S R (v, c, S, R) := ⟨h, Nat.le_refl _, hc, fun _ _ => ⟨rfl, fun _ => rfl⟩⟩
theorem nrm_cg [NeZero P] {W : Nat} {x y : Nat → Fin P} (h : ∀ j, j < W → y j = x j) (hx : nrm W x) : nrm W y := by
  have e := ld_cg h
  exact ⟨by rw [e]; exact hx.1, by rw [e, h _ hx.1]; exact hx.2⟩
theorem ext_plc [NeZero P] (hp0 : isP P) {d c t : Nat} {S : Nat → Nat} {R : Nat → Nat → Fin P} {y : Nat → Fin P} (h : shf d c S R) (hc : c ≤ 60) (hn : nrm (wd d t) y) (hx : okx d t y) : ext d c S R (plc (wd d t) t y c S R) := by
  unfold plc
  by_cases hf : sr (mtc (wd d t) t y S R) c 0 < c
  · rw [if_pos hf]
    exact ext_id h hc _
  · rw [if_neg hf]
    by_cases h60 : c = 60
    · rw [if_pos h60]
      exact ext_id h hc _
    · rw [if_neg h60]
      have hno : ∀ a, a < c → ¬ (S a = t ∧ ∀ k, k < wd d t → R a k = y k) := by
        intro a ha q
        have hle := sr_le (mtc (wd d t) t y S R) c 0
        have := sr_f (mtc (wd d t) t y S R) c 0 a (by omega) (by omega)
        unfold mtc at this
        rw [decide_eq_false_iff_not] at this
        exact this q
      refine ⟨⟨fun a ha => ?_, fun a b ha hb hs hk => ?_⟩, by (try dsimp only); omega, by (try dsimp only); omega, fun a ha => ?_⟩
      · dsimp only at ha ⊢
        by_cases e : a = c
        · subst e
          simp only [↓reduceIte]
          exact ⟨nrm_cg (fun j hj => by rw [if_pos hj]) hn, okx_cg hp0 (fun j hj => by rw [if_pos hj]) hx⟩
        · simp only [if_neg e]
          exact h.1 a (by omega)
      · dsimp only at ha hb hs hk ⊢
        by_cases e1 : a = c
        · by_cases e2 : b = c
          · omega
          · exfalso
            subst e1
            simp only [↓reduceIte, if_neg e2] at hs hk
            exact hno b (by omega) ⟨hs.symm, fun k hk2 => by have := hk k hk2; rw [if_pos hk2] at this; exact this.symm⟩
        · by_cases e2 : b = c
          · exfalso
            subst e2
            simp only [↓reduceIte, if_neg e1] at hs hk
            exact hno a (by omega) ⟨hs, fun k hk2 => by rw [← hs] at hk2; have := hk k hk2; rw [if_pos (by rw [← hs]; exact hk2)] at this; exact this⟩
          · simp only [if_neg e1, if_neg e2] at hs hk
            exact h.2 a b (by omega) (by omega) hs hk
      · (try dsimp only)
        rw [if_neg (by omega)]
        exact ⟨rfl, fun k => by rw [if_neg (by omega)]⟩
theorem ext_kp [NeZero P] (hp0 : isP P) {d c t : Nat} {S : Nat → Nat} {R : Nat → Nat → Fin P} {y : Nat → Fin P} (h : shf d c S R) (hc : c ≤ 60) (hx : ldV y (wd d t) < wd d t → okx d t y) : ext d c S R (kpF (wd d t) t (some y) c S R) := by
  by_cases e : ldV y (wd d t) < wd d t
  · rw [kp_1 e]
    refine ext_plc hp0 h hc (nrm_nm hp0 e) (okx_mul hp0 (fi_ne hp0 (ldV_nz e)) (fun j hj => ?_) (hx e))
    unfold nmV
    rw [if_pos e]
    grind
  · have := ldV_le y (wd d t)
    rw [kp_0 (ldV_eq.mp (by omega))]
    exact ext_id h hc _
/-- the class's end of a call that may keep a row -/
def CO (P d : Nat) (hp : cH) (sz o : Nat) (ad : Nat → Nat) (K : Int32 × Nat × (Nat → Nat) × (Nat → Nat → Fin P)) (H : Nat → Fin P) (g : Nat) (Gs : Nat → Nat) (m : Nat) (pA pB : Nat → Nat) (id : Int32) (res : Option (Int32 × cH × Nat)) : Prop := ∃ hp' sz' im' rw', res = some (K.1, hp', sz') ∧ cS P d hp' sz' o ad im' rw' K.2.1 K.2.2.1 K.2.2.2 H g Gs m pA pB id ∧ cF ad o hp sz hp' sz'
/-- the reference's -/
def RO (sorts : Nat → Int32) (rows : Nat → Int64) (K : Int32 × Nat × (Nat → Nat) × (Nat → Nat → Fin P)) : Prop := sK sorts K.2.2.1 K.2.1 ∧ rK K.2.1 rows K.2.2.2
section ENV
variable {d sz o : Nat} {hp : cH} {ad im rw : Nat → Nat} {c : Nat} {S : Nat → Nat} {R : Nat → Nat → Fin P} {H : Nat → Fin P} {g : Nat} {Gs : Nat → Nat} {m : Nat} {pA pB : Nat → Nat} {id : Int32}
theorem CO.same {hp' : cH} {sz' : Nat} {v : Int32} {res : Option (Int32 × cH × Nat)} (h : cS P d hp sz o ad im rw c S R H g Gs m pA pB id) (e : gro hp sz hp' sz') (hr : res = some (v, hp', sz')) : CO P d hp sz o ad (v, c, S, R) H g Gs m pA pB id res := ⟨hp', sz', im, rw, hr, h.gg e, cF.g e⟩
theorem CO.kp (hp0 : isP P) [NeZero P] (hB : P < 2 ^ 31) {hp' : cH} {sz' t : Nat} {r : Option Nat} {y : Option (Nat → Fin P)} {res : Option (Int32 × cH × Nat)} (h : cS P d hp sz o ad im rw c S R H g Gs m pA pB id) (e : gro hp sz hp' sz') (ht : t < 5) (hy : oA hp' sz' r (wd d t) y) (hr : ∀ v, f_X5_keep hp' sz' o (nI t) r = some v → res = some v) : CO P d hp sz o ad (kpF (wd d t) t y c S R) H g Gs m pA pB id res := by
  obtain ⟨hp2, sz2, im2, rw2, a1, a2, a3⟩ := (h.gg e).keep hp0 hB ht hy
  exact ⟨hp2, sz2, im2, rw2, hr _ a1, a2, (cF.g e).tr a3⟩
theorem r_obj {x : Int32} {a : Nat} (hc : c ≤ 60) (ha : a < c) : m_isObject (nI c) (nI a) = some (nI 1) := by
  unfold m_isObject
  rw [if_neg (nI_pos (by omega)), if_neg (nI_ge ha (by omega))]
  rfl
theorem r_objX {i : Int32} (hi : i < 0 ∨ nI c ≤ i) : m_isObject (nI c) i = some (nI 0) := by
  unfold m_isObject
  by_cases h0 : i < 0
  · rw [if_pos h0]
    rfl
  · rw [if_neg h0, if_pos (by rcases hi with q | q; exact absurd q h0; exact q)]
    rfl
theorem r_is {sorts : Nat → Int32} {a t : Nat} (hS : sK sorts S c) (hc : c ≤ 60) (ha : a < c) (ht : t < 5) : m_is (nI c) sorts (nI a) (nI t) = some (nI (if S a = t then 1 else 0)) := by
  have h1 := r_obj (x := 0) hc ha
  have h2 := hS a ha
  have h3 : (nI 1 = (0 : Int32)) = False := by simp; decide
  unfold m_is
  rw [ob h1]
  simp only [h3, ↓reduceIte, if_pos (gi_nI (show a < 60 by omega) (by omega)), nI_clamp (show a < 2 ^ 31 by omega), h2.1]
  by_cases e : S a = t
  · rw [e, if_pos rfl, if_pos rfl]
    rfl
  · have hne : ¬ nI (S a) = nI t := by rw [nI_eq (by omega) (by omega)]; exact e
    rw [if_neg hne, if_neg e]
    rfl
theorem r_isX {sorts : Nat → Int32} {i : Int32} (hi : i < 0 ∨ nI c ≤ i) (t : Int32) : m_is (nI c) sorts i t = some (nI 0) := by
  have h1 := r_objX hi
  unfold m_is
  rw [ob h1]
  rfl
theorem r_made (hp0 : isP P) [NeZero P] (hB : P < 2 ^ 31) {draft rows : Nat → Int64} {sorts : Nat → Int32} {t : Nat} (hr : rK c rows R) (hS : sK sorts S c) (hd : d = 2 ∨ d = 3) (ht : t < 5) {x : Nat → Fin P} (h : vo draft (wd d t) x) (hx : ldV x (wd d t) < wd d t) : ∃ sorts' rows' dr', m_made (nI d) (lN P) (nI c) sorts rows draft (nI t) = some ((kpF (wd d t) t (some x) c S R).1, nI (kpF (wd d t) t (some x) c S R).2.1, sorts', rows', dr') ∧ RO sorts' rows' (kpF (wd d t) t (some x) c S R) := by
  obtain ⟨s', r', d', h1, h2, h3⟩ := s_made hp0.1 hB hr hS hr.1 hd ht h hx
  rw [← kp_1 hx] at h1 h2 h3
  exact ⟨s', r', d', h1, h2, h3⟩
theorem r_madeN (hp0 : isP P) [NeZero P] (hB : P < 2 ^ 31) {draft rows : Nat → Int64} {sorts : Nat → Int32} {t : Nat} (hr : rK c rows R) (hS : sK sorts S c) (hd : d = 2 ∨ d = 3) (ht : t < 5) {x : Nat → Fin P} (h : vo draft (wd d t) x) : ∃ sorts' rows' dr', m_madeOrNone (nI d) (lN P) (nI c) sorts rows draft (nI t) = some ((kpF (wd d t) t (some x) c S R).1, nI (kpF (wd d t) t (some x) c S R).2.1, sorts', rows', dr') ∧ RO sorts' rows' (kpF (wd d t) t (some x) c S R) := by
  by_cases hx : ldV x (wd d t) < wd d t
  · obtain ⟨s', r', d', h1, h2, h3⟩ := s_madeOrNone hp0.1 hB hr hS hr.1 hd ht h hx
    rw [← kp_1 hx] at h1 h2 h3
    exact ⟨s', r', d', h1, h2, h3⟩
  · have hle := ldV_le x (wd d t)
    have e : ldV x (wd d t) = wd d t := by omega
    refine ⟨sorts, rows, draft, ?_, ?_⟩
    · rw [s_madeOrNone0 hp0.1 hB hd ht h e, kp_0 (ldV_eq.mp e)]
    · rw [kp_0 (ldV_eq.mp e)]
      exact ⟨hS, hr⟩
end ENV
end INV
