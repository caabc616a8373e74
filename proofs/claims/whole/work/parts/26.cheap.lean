/-! THE CLASS'S HEAP: rows of numbers, grids, the objects Rows and Field -/
section CHEAP
variable {P : Nat}
/-- an array of longs at a: n numbers -/
def fa (hp : cH) (a n : Nat) (x : Nat → Fin P) : Prop := ∃ f, hp a = some (.inl (1, n, .inr (.inl f))) ∧ ∀ j, j < n → f j = fL (x j)
/-- Rows at ro, Field at fo -/
def eR (P w ro fo : Nat) (hp : cH) : Prop := hp ro = some (.inr (2, [.ref fo, .int (nI w)])) ∧ hp fo = some (.inr (0, [.long (lN P)]))
/-- Space at so -/
def eS (P w so ro fo : Nat) (hp : cH) : Prop := hp so = some (.inr (4, [.ref ro, .ref fo, .int (nI w)])) ∧ eR P w ro fo hp
theorem fa_of {hp hp' : cH} {a n : Nat} {x : Nat → Fin P} (h : fa hp a n x) (e : hp' a = hp a) : fa hp' a n x := by
  obtain ⟨f, h1, h2⟩ := h
  exact ⟨f, by rw [e]; exact h1, h2⟩
theorem fa_congr {hp : cH} {a n : Nat} {x y : Nat → Fin P} (h : fa hp a n x) (e : ∀ j, j < n → x j = y j) : fa hp a n y := by
  obtain ⟨f, h1, h2⟩ := h
  exact ⟨f, h1, fun j hj => by rw [h2 j hj, e j hj]⟩
theorem eR.fo {w ro fo : Nat} {hp : cH} (h : eR P w ro fo hp) : gR hp ro 2 0 = some fo := by
  unfold gR
  rw [h.1]
  rfl
theorem eR.w {w ro fo : Nat} {hp : cH} (h : eR P w ro fo hp) : gI hp ro 2 1 = some (nI w) := by
  unfold gI
  rw [h.1]
  rfl
theorem eR.p {w ro fo : Nat} {hp : cH} (h : eR P w ro fo hp) : gJ hp fo 0 0 = some (lN P) := by
  unfold gJ
  rw [h.2]
  rfl
theorem eR.o {w ro fo : Nat} {hp : cH} (h : eR P w ro fo hp) : isO hp ro 2 = true := by
  unfold isO
  rw [h.1]
  rfl
theorem eR.of {w ro fo : Nat} {hp : cH} (h : eR P w ro fo hp) : isO hp fo 0 = true := by
  unfold isO
  rw [h.2]
  rfl
theorem eR.kept {w ro fo : Nat} {hp hp' : cH} (h : eR P w ro fo hp) (e1 : hp' ro = hp ro) (e2 : hp' fo = hp fo) : eR P w ro fo hp' := ⟨by rw [e1]; exact h.1, by rw [e2]; exact h.2⟩
/-- only arrays change: objects stay -/
def oth (hp hp' : cH) (S : Nat → Prop) : Prop := ∀ b, ¬ S b → hp' b = hp b
theorem eR.arr {w ro fo : Nat} {hp hp' : cH} (h : eR P w ro fo hp) {S : Nat → Prop} (hS : ∀ b, S b → ∃ x, hp b = some (.inl x)) (e : oth hp hp' S) : eR P w ro fo hp' := by
  refine h.kept (e ro (fun q => ?_)) (e fo (fun q => ?_))
  · obtain ⟨x, hx⟩ := hS ro q
    rw [h.1] at hx
    cases hx
  · obtain ⟨x, hx⟩ := hS fo q
    rw [h.2] at hx
    cases hx
theorem fa.arr {hp : cH} {a n : Nat} {x : Nat → Fin P} (h : fa hp a n x) : ∃ y, hp a = some (.inl y) := by
  obtain ⟨f, h1, -⟩ := h
  exact ⟨_, h1⟩
theorem l_fa {hp : cH} {a n : Nat} {x : Nat → Fin P} (h : fa hp a n x) {j : Nat} (hj : j < n) (hn : n < 2 ^ 31) : lJ hp a (nI j) = some (fL (x j)) := by
  obtain ⟨f, h1, h2⟩ := h
  unfold lJ aJ
  rw [h1]
  show (if gi (nI j) n then some (f (nI j).toNatClampNeg) else none) = _
  rw [if_pos (gi_nI hj hn), nI_clamp (by omega), h2 j hj]
theorem aJ_fa {hp : cH} {a n : Nat} {x : Nat → Fin P} (h : fa hp a n x) : ∃ w, aJ hp a = some w ∧ w.1 = n := by
  obtain ⟨f, h1, -⟩ := h
  refine ⟨(n, f), ?_, rfl⟩
  unfold aJ
  rw [h1]
  rfl
theorem aN_fa {hp : cH} {a n : Nat} {x : Nat → Fin P} (h : fa hp a n x) : aN hp a = some (nI n) := by
  obtain ⟨f, h1, -⟩ := h
  unfold aN
  rw [h1]
  rfl
theorem s_fa {hp : cH} {a n : Nat} {x : Nat → Fin P} (h : fa hp a n x) {j : Nat} (hj : j < n) (hn : n < 2 ^ 31) (v : Fin P) : ∃ hp', sJ hp a (nI j) (fL v) = some hp' ∧ fa hp' a n (fun i => if i = j then v else x i) ∧ oth hp hp' (fun b => b = a) := by
  obtain ⟨f, h1, h2⟩ := h
  refine ⟨va_up hp a (some (.inl (1, n, .inr (.inl (vp_updL f j (fL v)))))), ?_, ⟨vp_updL f j (fL v), by simp [va_up], fun i hi => ?_⟩, fun b hb => by simp [va_up, show ¬ b = a from hb]⟩
  · unfold sJ aJ
    rw [h1]
    show (if gi (nI j) n then some _ else none) = _
    rw [if_pos (gi_nI hj hn), nI_clamp (by omega)]
  · dsimp only
    by_cases e : i = j
    · rw [e, pk_uLs, if_pos rfl]
    · rw [pk_uLn e, if_neg e]
      exact h2 i hi
theorem n_fa [NeZero P] {hp : cH} {sz n : Nat} (hn : n ≤ 64) : ∃ hp', nJ hp sz (nI n) = some hp' ∧ fa hp' sz n (fun _ => (0 : Fin P)) ∧ oth hp hp' (fun b => b = sz) := by
  refine ⟨va_up hp sz (some (.inl (1, n, .inr (.inl (fun _ => 0))))), ?_, ⟨fun _ => 0, by simp [va_up], fun j _ => fL_z.symm⟩, fun b hb => by simp [va_up, show ¬ b = sz from hb]⟩
  unfold nJ
  rw [if_pos ⟨nI_pos (by omega), by rw [nI_clamp (by omega)]; exact hn⟩, nI_clamp (by omega)]
theorem c_fa {hp : cH} {sz a n : Nat} {x : Nat → Fin P} (h : fa hp a n x) (hn : n ≤ 64) : ∃ hp', nC hp sz a = some hp' ∧ fa hp' sz n x ∧ oth hp hp' (fun b => b = sz) := by
  obtain ⟨f, h1, h2⟩ := h
  refine ⟨va_up hp sz (some (.inl (1, n, .inr (.inl f)))), ?_, ⟨f, by simp [va_up], h2⟩, fun b hb => by simp [va_up, show ¬ b = sz from hb]⟩
  unfold nC aJ
  rw [h1]
  show (if n ≤ 64 then some _ else none) = _
  rw [if_pos hn]
theorem cp_fa {hp : cH} {a b n m sp dp k : Nat} {x y : Nat → Fin P} (h : fa hp a n x) (g : fa hp b m y) (h1 : sp + k ≤ n) (h2 : dp + k ≤ m) (hn : n < 2 ^ 30) (hm : m < 2 ^ 30) : ∃ hp', cpJ hp a (nI sp) b (nI dp) (nI k) = some hp' ∧ fa hp' b m (fun j => if dp ≤ j ∧ j < dp + k then x (sp + (j - dp)) else y j) ∧ oth hp hp' (fun q => q = b) := by
  obtain ⟨f, f1, f2⟩ := h
  obtain ⟨r, r1, r2⟩ := g
  refine ⟨va_up hp b (some (.inl (1, m, .inr (.inl (va_cpy f r sp dp k))))), ?_, ⟨va_cpy f r sp dp k, by simp [va_up], fun j hj => ?_⟩, fun q hq => by simp [va_up, show ¬ q = b from hq]⟩
  · unfold cpJ aJ
    rw [f1]
    show (match hp b with | some (.inl (1, n, .inr (.inl f))) => some (n, f) | _ => none).bind _ = _
    rw [r1]
    show (if _ then some _ else none) = _
    rw [if_pos, nI_clamp (by omega), nI_clamp (by omega), nI_clamp (by omega)]
    refine ⟨⟨nI_pos (by omega), nI_pos (by omega), nI_pos (by omega)⟩, ?_⟩
    rw [nI_clamp (by omega), nI_clamp (by omega), nI_clamp (by omega)]
    exact ⟨h1, h2⟩
  · unfold va_cpy
    dsimp only
    by_cases e : dp ≤ j ∧ j < dp + k
    · rw [if_pos e, if_pos e]
      exact f2 _ (by omega)
    · rw [if_neg e, if_neg e]
      exact r2 j hj
/-- a grid at a: h lines at g 0, g 1, .. of w numbers each -/
def gq (hp : cH) (a h w : Nat) (M : Mx P) (g : Nat → Nat) : Prop := (∃ G, hp a = some (.inl (3, h, .inr (.inr (.inr (.inr G))))) ∧ ∀ i, i < h → G i = some (g i)) ∧ (∀ i, i < h → fa hp (g i) w (M i)) ∧ ∀ i j, i < h → j < h → g i = g j → i = j
theorem gq_ne {hp : cH} {a h w : Nat} {M : Mx P} {g : Nat → Nat} (H : gq hp a h w M g) {i : Nat} (hi : i < h) : g i ≠ a := by
  intro e
  obtain ⟨G, h1, -⟩ := H.1
  obtain ⟨f, h2, -⟩ := H.2.1 i hi
  rw [e, h1] at h2
  cases h2
theorem gq_len {hp : cH} {a h w : Nat} {M : Mx P} {g : Nat → Nat} (H : gq hp a h w M g) : aN hp a = some (nI h) := by
  obtain ⟨G, h1, -⟩ := H.1
  unfold aN
  rw [h1]
  rfl
theorem gq_ld {hp : cH} {a h w : Nat} {M : Mx P} {g : Nat → Nat} (H : gq hp a h w M g) {i : Nat} (hi : i < h) (hh : h < 2 ^ 31) : lR 3 hp a (nI i) = some (some (g i)) := by
  obtain ⟨G, h1, h2⟩ := H.1
  unfold lR aR
  rw [h1]
  show (if gi (nI i) h then some (G (nI i).toNatClampNeg) else none) = _
  rw [if_pos (gi_nI hi hh), nI_clamp (by omega), h2 i hi]
theorem gq_congr {hp : cH} {a h w : Nat} {M N : Mx P} {g : Nat → Nat} (H : gq hp a h w M g) (e : ∀ i j, i < h → j < w → M i j = N i j) : gq hp a h w N g := ⟨H.1, fun i hi => fa_congr (H.2.1 i hi) (fun j hj => e i j hi hj), H.2.2⟩
/-- the cells of a grid -/
def gS (a h : Nat) (g : Nat → Nat) : Nat → Prop := fun b => b = a ∨ ∃ i, i < h ∧ b = g i
theorem gq_arr {hp : cH} {a h w : Nat} {M : Mx P} {g : Nat → Nat} (H : gq hp a h w M g) : ∀ b, gS a h g b → ∃ x, hp b = some (.inl x) := by
  rintro b (rfl | ⟨i, hi, rfl⟩)
  · obtain ⟨G, h1, -⟩ := H.1
    exact ⟨_, h1⟩
  · exact (H.2.1 i hi).arr
/-- one line of a grid changes -/
theorem gq_put {hp hp' : cH} {a h w r : Nat} {M : Mx P} {g : Nat → Nat} (H : gq hp a h w M g) (hr : r < h) {x : Nat → Fin P} (h1 : fa hp' (g r) w x) (h2 : oth hp hp' (fun b => b = g r)) : gq hp' a h w (fun i j => if i = r then x j else M i j) g := by
  obtain ⟨G, e1, e2⟩ := H.1
  refine ⟨⟨G, by rw [h2 a (fun q => gq_ne H hr q.symm)]; exact e1, e2⟩, fun i hi => ?_, H.2.2⟩
  by_cases e : i = r
  · subst e
    exact fa_congr h1 (fun j _ => by dsimp only; rw [if_pos rfl])
  · exact fa_congr (fa_of (H.2.1 i hi) (h2 _ (fun q => e (H.2.2 i r hi hr q)))) (fun j _ => by dsimp only; rw [if_neg e])
/-- two lines change places -/
theorem gq_swap {hp : cH} {a h w r b : Nat} {M : Mx P} {g : Nat → Nat} (H : gq hp a h w M g) (hr : r < h) (hb : b < h) (hh : h < 2 ^ 31) : ∃ hp1 hp2, sR 3 hp a (nI b) (g r) = some hp1 ∧ sR 3 hp1 a (nI r) (g b) = some hp2 ∧ oth hp hp2 (fun q => q = a) ∧ gq hp2 a h w (fun i j => if i = r then M b j else if i = b then M r j else M i j) (fun i => if i = r then g b else if i = b then g r else g i) := by
  obtain ⟨G, e1, e2⟩ := H.1
  have ok : ∀ i, i < h → ∀ hp' : cH, hp' (g i) = hp (g i) → okR 3 hp' (g i) = true := by
    intro i hi hp' e
    obtain ⟨f, h1, -⟩ := H.2.1 i hi
    unfold okR
    rw [e, h1]
    rfl
  refine ⟨va_up hp a (some (.inl (3, h, .inr (.inr (.inr (.inr (va_up G b (some (g r)))))))))
    , va_up (va_up hp a (some (.inl (3, h, .inr (.inr (.inr (.inr (va_up G b (some (g r)))))))))) a (some (.inl (3, h, .inr (.inr (.inr (.inr (va_up (va_up G b (some (g r))) r (some (g b))))))))), ?_, ?_, fun q hq => by simp [va_up, show ¬ q = a from hq], ?_⟩
  · unfold sR aR
    rw [e1]
    show (if gi (nI b) h ∧ okR 3 hp (g r) = true then some _ else none) = _
    rw [if_pos ⟨gi_nI hb hh, ok r hr hp rfl⟩, nI_clamp (by omega)]
  · unfold sR aR
    rw [show va_up hp a (some (.inl (3, h, .inr (.inr (.inr (.inr (va_up G b (some (g r))))))))) a = some (.inl (3, h, .inr (.inr (.inr (.inr (va_up G b (some (g r)))))))) by simp [va_up]]
    show (if gi (nI r) h ∧ okR 3 _ (g b) = true then some _ else none) = _
    rw [if_pos ⟨gi_nI hr hh, ok b hb _ (by simp [va_up, gq_ne H hb])⟩, nI_clamp (by omega)]
  · refine ⟨⟨va_up (va_up G b (some (g r))) r (some (g b)), by simp [va_up], fun i hi => ?_⟩, fun i hi => ?_, fun i j hi hj e => ?_⟩
    · by_cases c1 : i = r
      · simp [va_up, c1]
      · by_cases c2 : i = b
        · have c3 : ¬ b = r := fun q => c1 (c2.trans q)
          simp [va_up, c1, c2, c3]
        · simp [va_up, c1, c2, e2 i hi]
    · have keep : ∀ k, k < h → ∀ (x : Nat → Fin P), fa hp (g k) w x → fa (va_up (va_up hp a (some (.inl (3, h, .inr (.inr (.inr (.inr (va_up G b (some (g r)))))))))) a (some (.inl (3, h, .inr (.inr (.inr (.inr (va_up (va_up G b (some (g r))) r (some (g b)))))))))) (g k) w x := fun k hk x hx => fa_of hx (by simp [va_up, gq_ne H hk])
      by_cases c1 : i = r
      · simp only [c1, if_pos]
        exact keep b hb _ (H.2.1 b hb)
      · by_cases c2 : i = b
        · simp only [if_neg c1, if_pos c2]
          exact keep r hr _ (H.2.1 r hr)
        · simp only [if_neg c1, if_neg c2]
          exact keep i hi _ (H.2.1 i hi)
    · dsimp only at e
      by_cases c1 : i = r <;> by_cases c2 : j = r
      · omega
      · rw [if_pos c1, if_neg c2] at e
        by_cases c3 : j = b
        · rw [if_pos c3] at e
          have := H.2.2 b r hb hr e
          omega
        · rw [if_neg c3] at e
          have := H.2.2 b j hb hj e
          omega
      · rw [if_neg c1, if_pos c2] at e
        by_cases c3 : i = b
        · rw [if_pos c3] at e
          have := H.2.2 r b hr hb e
          omega
        · rw [if_neg c3] at e
          have := H.2.2 i b hi hb e
          omega
      · rw [if_neg c1, if_neg c2] at e
        by_cases c3 : i = b <;> by_cases c4 : j = b
        · omega
        · rw [if_pos c3, if_neg c4] at e
          have := H.2.2 r j hr hj e
          omega
        · rw [if_neg c3, if_pos c4] at e
          have := H.2.2 i r hi hr e
          omega
        · rw [if_neg c3, if_neg c4] at e
          exact H.2.2 i j hi hj e
end CHEAP
