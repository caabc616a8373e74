/-! THE CLASS'S HEAP with one new array, or one new grid, that a loop fills -/
section EMB
variable {P : Nat} {Hh : Type} {emb : (Nat → Int64) → Hh}
theorem eloop1 {f : Int32 × Hh → Option ((Int32 × Hh) ⊕ Hh)} {d : Nat → Int64} {N : Nat} (ix : Nat → Nat) (inj : ∀ i j, i < N → j < N → ix i = ix j → i = j) (v : Nat → Fin P) (step : ∀ (k : Nat) (d1 : Nat → Int64), k < N → (∀ m, (∀ i, i < k → m ≠ ix i) → d1 m = d m) → (∀ i, i < k → d1 (ix i) = fL (v i)) → ∃ d2, f (nI k, emb d1) = some (.inl (nI (k + 1), emb d2)) ∧ d2 (ix k) = fL (v k) ∧ ∀ m, m ≠ ix k → d2 m = d1 m) (stop : ∀ d1 : Nat → Int64, f (nI N, emb d1) = some (.inr (emb d1))) : ∃ d', itX f (nI 0, emb d) = some (emb d') ∧ (∀ i, i < N → d' (ix i) = fL (v i)) ∧ ∀ m, (∀ i, i < N → m ≠ ix i) → d' m = d m := by
  have key := it_inv (f := f) (fun k z => z.1 = nI k ∧ ∃ d1, z.2 = emb d1 ∧ (∀ i, i < k → d1 (ix i) = fL (v i)) ∧ ∀ m, (∀ i, i < k → m ≠ ix i) → d1 m = d m) N (fun r => ∃ d', r = emb d' ∧ (∀ i, i < N → d' (ix i) = fL (v i)) ∧ ∀ m, (∀ i, i < N → m ≠ ix i) → d' m = d m) ?_ ?_ (nI 0, emb d) ⟨rfl, d, rfl, fun i h1 => by omega, fun m _ => rfl⟩
  · obtain ⟨r, h1, d', h2, h3⟩ := key
    exact ⟨d', by rw [h1, h2], h3⟩
  · rintro k ⟨k', z⟩ hk ⟨e1, d1, e2, h1, h2⟩
    dsimp only at e1 e2
    subst e1
    subst e2
    obtain ⟨d2, g1, g2, g3⟩ := step k d1 hk h2 h1
    refine ⟨_, g1, rfl, d2, rfl, ?_, ?_⟩
    · intro i hi
      by_cases e : i = k
      · rw [e]
        exact g2
      · rw [g3 _ (fun q => e (inj i k (by omega) hk q))]
        exact h1 i (by omega)
    · intro m hm
      rw [g3 m (hm k (by omega))]
      exact h2 m (fun i a => hm i (by omega))
  · rintro ⟨k', z⟩ ⟨e1, d1, e2, h1, h2⟩
    dsimp only at e1 e2
    subst e1
    subst e2
    exact ⟨emb d1, stop d1, d1, rfl, h1, h2⟩
theorem eloopP {f : Int32 × Hh → Option ((Int32 × Hh) ⊕ Hh)} {d : Nat → Int64} (N : Nat) (v : Nat → Fin P) (step : ∀ (k : Nat) (d1 : Nat → Int64), k < N → f (nI k, emb d1) = some (.inl (nI (k + 1), emb (vp_updL d1 k (fL (v k)))))) (stop : ∀ d1 : Nat → Int64, f (nI N, emb d1) = some (.inr (emb d1))) : ∃ d', itX f (nI 0, emb d) = some (emb d') ∧ vo d' N v := by
  have key := eloop1 (f := f) (emb := emb) (d := d) (N := N) (fun k => k) (fun i j _ _ e => e) v (fun k d1 hk h1 _ => ⟨_, step k d1 hk, pk_uLs, fun m hm => pk_uLn hm⟩) stop
  obtain ⟨d', h1, h2, h3⟩ := key
  exact ⟨d', h1, h2⟩
theorem eloop2 {f1 : Int32 × Hh → Option ((Int32 × Hh) ⊕ Hh)} {f2 : Nat → Int32 × Hh → Option ((Int32 × Hh) ⊕ Hh)} {d : Nat → Int64} (N W : Nat) (ix : Nat → Nat → Nat) (inj : ∀ i j i' j', i < N → j < W → i' < N → j' < W → ix i j = ix i' j' → i = i' ∧ j = j') (v : Nat → Nat → Fin P) (hout : ∀ i d1, i < N → f1 (nI i, emb d1) = (itX (f2 i) (nI 0, emb d1)).bind fun r => some (.inl (nI (i + 1), r))) (step : ∀ (i j : Nat) (d1 : Nat → Int64), i < N → j < W → f2 i (nI j, emb d1) = some (.inl (nI (j + 1), emb (vp_updL d1 (ix i j) (fL (v i j)))))) (stop2 : ∀ i d1, i < N → f2 i (nI W, emb d1) = some (.inr (emb d1))) (stop1 : ∀ d1 : Nat → Int64, f1 (nI N, emb d1) = some (.inr (emb d1))) : ∃ d', itX f1 (nI 0, emb d) = some (emb d') ∧ (∀ i j, i < N → j < W → d' (ix i j) = fL (v i j)) ∧ ∀ m, (∀ i j, i < N → j < W → m ≠ ix i j) → d' m = d m := by
  have key := it_inv (f := f1) (fun k z => z.1 = nI k ∧ ∃ d1, z.2 = emb d1 ∧ (∀ i j, i < k → j < W → d1 (ix i j) = fL (v i j)) ∧ ∀ m, (∀ i j, i < k → j < W → m ≠ ix i j) → d1 m = d m) N (fun r => ∃ d', r = emb d' ∧ (∀ i j, i < N → j < W → d' (ix i j) = fL (v i j)) ∧ ∀ m, (∀ i j, i < N → j < W → m ≠ ix i j) → d' m = d m) ?_ ?_ (nI 0, emb d) ⟨rfl, d, rfl, fun i j h1 => by omega, fun m _ => rfl⟩
  · obtain ⟨r, h1, d', h2, h3⟩ := key
    exact ⟨d', by rw [h1, h2], h3⟩
  · rintro k ⟨k', z⟩ hk ⟨e1, d1, e2, h1, h2⟩
    dsimp only at e1 e2
    subst e1
    subst e2
    have key := eloop1 (f := f2 k) (emb := emb) (d := d1) (N := W) (ix k) (fun i j a b e => (inj k i k j hk a hk b e).2) (v k) (fun j d2 hj _ _ => ⟨_, step k j d2 hk hj, pk_uLs, fun m hm => pk_uLn hm⟩) (fun d1 => stop2 k d1 hk)
    obtain ⟨d2, g1, g2, g3⟩ := key
    refine ⟨(nI (k + 1), emb d2), by rw [hout k d1 hk, g1, Option.bind_some], rfl, d2, rfl, ?_, ?_⟩
    · intro i j hi hj
      by_cases e : i = k
      · rw [e]
        exact g2 j hj
      · rw [g3 _ (fun j' hj' q => e (inj i j k j' (by omega) hj hk hj' q).1)]
        exact h1 i j (by omega) hj
    · intro m hm
      rw [g3 m (fun j hj => hm k j (by omega) hj)]
      exact h2 m (fun i j a b => hm i j (by omega) b)
  · rintro ⟨k', z⟩ ⟨e1, d1, e2, h1, h2⟩
    dsimp only at e1 e2
    subst e1
    subst e2
    exact ⟨emb d1, stop1 d1, d1, rfl, h1, h2⟩
end EMB
section CENV
variable {P : Nat}
/-- hp with an array of n longs at a -/
def hW (hp : cH) (a n : Nat) (d : Nat → Int64) : cH := va_up hp a (some (.inl (1, n, .inr (.inl d))))
theorem hW_a {hp : cH} {a n : Nat} {d : Nat → Int64} : hW hp a n d a = some (.inl (1, n, .inr (.inl d))) := by simp [hW, va_up]
theorem hW_o {hp : cH} {a n b : Nat} {d : Nat → Int64} (h : b ≠ a) : hW hp a n d b = hp b := by simp [hW, va_up, h]
theorem nJ_h {hp : cH} {sz n : Nat} (hn : n ≤ 64) : nJ hp sz (nI n) = some (hW hp sz n (fun _ => 0)) := by
  unfold nJ
  rw [if_pos ⟨nI_pos (by omega), by rw [nI_clamp (by omega)]; exact hn⟩, nI_clamp (by omega)]
  rfl
theorem sJ_h {hp : cH} {a n k : Nat} {d : Nat → Int64} (hk : k < n) (hn : n < 2 ^ 31) (v : Int64) : sJ (hW hp a n d) a (nI k) v = some (hW hp a n (vp_updL d k v)) := by
  unfold sJ aJ
  rw [hW_a]
  show (if gi (nI k) n then some _ else none) = _
  rw [if_pos (gi_nI hk hn), nI_clamp (by omega)]
  congr 1
  funext b
  by_cases e : b = a
  · simp [hW, va_up, e]
  · simp [hW, va_up, e]
theorem lJ_own {hp : cH} {a n k : Nat} {d : Nat → Int64} (hk : k < n) (hn : n < 2 ^ 31) : lJ (hW hp a n d) a (nI k) = some (d k) := by
  unfold lJ aJ
  rw [hW_a]
  show (if gi (nI k) n then some _ else none) = _
  rw [if_pos (gi_nI hk hn), nI_clamp (by omega)]
theorem fa_hW {hp : cH} {a n : Nat} {d : Nat → Int64} {x : Nat → Fin P} (h : vo d n x) : fa (hW hp a n d) a n x := ⟨d, hW_a, h⟩
/-- the heap grew: old cells stay -/
def gro (hp : cH) (sz : Nat) (hp' : cH) (sz' : Nat) : Prop := oth hp hp' (fun b => sz ≤ b) ∧ sz ≤ sz'
theorem gro.rf {hp : cH} {sz : Nat} : gro hp sz hp sz := ⟨oth.rf, Nat.le_refl _⟩
theorem gro.tr {hp hp1 hp2 : cH} {sz sz1 sz2 : Nat} (h1 : gro hp sz hp1 sz1) (h2 : gro hp1 sz1 hp2 sz2) : gro hp sz hp2 sz2 := ⟨h1.1.trans (h2.1.wk (fun b (hb : sz1 ≤ b) => Nat.le_trans h1.2 hb)), Nat.le_trans h1.2 h2.2⟩
theorem gro.nw {hp : cH} {sz n : Nat} {d : Nat → Int64} : gro hp sz (hW hp sz n d) (sz + 1) := ⟨fun b hb => hW_o (fun e => hb (by rw [e]; exact Nat.le_refl _)), by omega⟩
theorem gro.nwk {hp : cH} {sz n k a : Nat} {d : Nat → Int64} (ha : sz ≤ a) (hk : sz ≤ k) : gro hp sz (hW hp a n d) k := ⟨fun b hb => hW_o (fun e => hb (by rw [e]; exact ha)), hk⟩
/-- an array of numbers below sz -/
def vA (hp : cH) (sz a n : Nat) (x : Nat → Fin P) : Prop := fa hp a n x ∧ a < sz
theorem vA.g {hp hp' : cH} {sz sz' a n : Nat} {x : Nat → Fin P} (h : vA hp sz a n x) (e : gro hp sz hp' sz') : vA hp' sz' a n x := ⟨h.1.old h.2 e.1, by have := h.2; have := e.2; omega⟩
theorem vA.ld {hp : cH} {sz a n : Nat} {x : Nat → Fin P} (h : vA hp sz a n x) {j : Nat} (hj : j < n) (hn : n < 2 ^ 31) : lJ hp a (nI j) = some (fL (x j)) := l_fa h.1 hj hn
theorem vA.len {hp : cH} {sz a n : Nat} {x : Nat → Fin P} (h : vA hp sz a n x) : aN hp a = some (nI n) := aN_fa h.1
theorem vA.ldh {hp : cH} {sz a n m : Nat} {x : Nat → Fin P} {d : Nat → Int64} (h : vA hp sz a n x) {j : Nat} (hj : j < n) (hn : n < 2 ^ 31) : lJ (hW hp sz m d) a (nI j) = some (fL (x j)) := (h.g gro.nw).ld hj hn
theorem vA.lenh {hp : cH} {sz a n m : Nat} {x : Nat → Fin P} {d : Nat → Int64} (h : vA hp sz a n x) : aN (hW hp sz m d) a = some (nI n) := (h.g gro.nw).len
theorem vA.congr {hp : cH} {sz a n : Nat} {x y : Nat → Fin P} (h : vA hp sz a n x) (e : ∀ j, j < n → x j = y j) : vA hp sz a n y := ⟨fa_congr h.1 e, h.2⟩
theorem vA_hW {hp : cH} {sz n : Nat} {d : Nat → Int64} {x : Nat → Fin P} (h : vo d n x) : vA (hW hp sz n d) (sz + 1) sz n x := ⟨fa_hW h, by omega⟩
/-- Space at so, Rows at ro, Field at fo, all below sz -/
def eV (P w so ro fo : Nat) (hp : cH) (sz : Nat) : Prop := eS P w so ro fo hp ∧ so < sz ∧ ro < sz ∧ fo < sz
theorem eV.g {w so ro fo sz sz' : Nat} {hp hp' : cH} (h : eV P w so ro fo hp sz) (e : gro hp sz hp' sz') : eV P w so ro fo hp' sz' := by
  obtain ⟨⟨h1, h2⟩, h3, h4, h5⟩ := h
  exact ⟨⟨by rw [e.1 so (by omega)]; exact h1, h2.old h4 h5 e.1⟩, by have := e.2; omega, by have := e.2; omega, by have := e.2; omega⟩
theorem eV.R {w so ro fo sz : Nat} {hp : cH} (h : eV P w so ro fo hp sz) : eR P w ro fo hp := h.1.2
theorem eV.w4 {w so ro fo sz : Nat} {hp : cH} (h : eV P w so ro fo hp sz) : gI hp so 4 2 = some (nI w) := by
  unfold gI
  rw [h.1.1]
  rfl
theorem eV.r4 {w so ro fo sz : Nat} {hp : cH} (h : eV P w so ro fo hp sz) : gR hp so 4 0 = some ro := by
  unfold gR
  rw [h.1.1]
  rfl
theorem eV.f4 {w so ro fo sz : Nat} {hp : cH} (h : eV P w so ro fo hp sz) : gR hp so 4 1 = some fo := by
  unfold gR
  rw [h.1.1]
  rfl
theorem eV.o4 {w so ro fo sz : Nat} {hp : cH} (h : eV P w so ro fo hp sz) : isO hp so 4 = true := by
  unfold isO
  rw [h.1.1]
  rfl
theorem eV.w2 {w so ro fo sz : Nat} {hp : cH} (h : eV P w so ro fo hp sz) : gI hp ro 2 1 = some (nI w) := h.R.w
theorem eV.f2 {w so ro fo sz : Nat} {hp : cH} (h : eV P w so ro fo hp sz) : gR hp ro 2 0 = some fo := h.R.fo
theorem eV.o2 {w so ro fo sz : Nat} {hp : cH} (h : eV P w so ro fo hp sz) : isO hp ro 2 = true := h.R.o
theorem eV.o0 {w so ro fo sz : Nat} {hp : cH} (h : eV P w so ro fo hp sz) : isO hp fo 0 = true := h.R.of
theorem eV.p0 {w so ro fo sz : Nat} {hp : cH} (h : eV P w so ro fo hp sz) : gJ hp fo 0 0 = some (lN P) := h.R.p
theorem eV.h {w so ro fo sz : Nat} {hp : cH} (h : eV P w so ro fo hp sz) (n : Nat) (d : Nat → Int64) : eV P w so ro fo (hW hp sz n d) (sz + 1) := h.g gro.nw
theorem eV.tm [NeZero P] (hP : 2 < P) (hB : P < 2 ^ 31) {w so ro fo sz : Nat} {hp : cH} (h : eV P w so ro fo hp sz) (a b : Fin P) : f_X0_times hp fo (fL a) (fL b) = some (fL (a * b)) := t_times hP hB h.p0 a b
theorem eV.pl [NeZero P] (hP : 2 < P) (hB : P < 2 ^ 31) {w so ro fo sz : Nat} {hp : cH} (h : eV P w so ro fo hp sz) (a b : Fin P) : f_X0_plus hp fo (fL a) (fL b) = some (fL (a + b)) := t_plus hP hB h.p0 a b
theorem eV.mi [NeZero P] (hP : 2 < P) (hB : P < 2 ^ 31) {w so ro fo sz : Nat} {hp : cH} (h : eV P w so ro fo hp sz) (a b : Fin P) : f_X0_minus hp fo (fL a) (fL b) = some (fL (a - b)) := t_minus hP hB h.p0 a b
theorem eV.ng [NeZero P] (hB : P < 2 ^ 31) {w so ro fo sz : Nat} {hp : cH} (h : eV P w so ro fo hp sz) (a : Fin P) : f_X0_negative hp fo (fL a) = some (fL (- a)) := t_neg hB h.p0 a
theorem eV.rc [NeZero P] (hP : 2 < P) (hB : P < 2 ^ 31) {w so ro fo sz : Nat} {hp : cH} (h : eV P w so ro fo hp sz) (a : Fin P) : f_X0_reciprocal hp fo (fL a) = some (fL (fi a)) := t_recip hP hB h.p0 h.o0 a
end CENV
