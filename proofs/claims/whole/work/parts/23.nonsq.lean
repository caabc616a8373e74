/-! A POLYNOMIAL HAS NO MORE ROOTS THAN ITS DEGREE; so there is a number that is no square -/
section POLY
variable {P : Nat}
def ev [NeZero P] : List (Fin P) → Fin P → Fin P
  | [], _ => 0
  | c :: t, x => c + x * ev t x
def dvp [NeZero P] (r : Fin P) : List (Fin P) → List (Fin P)
  | [] => []
  | [_] => []
  | _ :: b :: t => ev (b :: t) r :: dvp r (b :: t)
theorem dvp_len [NeZero P] (r : Fin P) : ∀ (c : Fin P) (t : List (Fin P)), (dvp r (c :: t)).length = t.length
  | _, [] => rfl
  | _, b :: t => by
    show (dvp r (b :: t)).length + 1 = t.length + 1
    rw [dvp_len r b t]
theorem dvp_ev [NeZero P] (r x : Fin P) : ∀ (c : Fin P) (t : List (Fin P)), ev (c :: t) x = ev (c :: t) r + (x - r) * ev (dvp r (c :: t)) x
  | c, [] => by
    show c + x * 0 = c + r * 0 + (x - r) * 0
    grind
  | c, b :: t => by
    have ih := dvp_ev r x b t
    show c + x * ev (b :: t) x = c + r * ev (b :: t) r + (x - r) * (ev (b :: t) r + x * ev (dvp r (b :: t)) x)
    generalize ev (b :: t) x = A at *
    generalize ev (b :: t) r = B at *
    generalize ev (dvp r (b :: t)) x = C at *
    subst ih
    grind
theorem ev_zero [NeZero P] (x : Fin P) : ∀ t : List (Fin P), (∀ c ∈ t, c = 0) → ev t x = 0
  | [], _ => rfl
  | c :: t, h => by
    show c + x * ev t x = 0
    rw [ev_zero x t (fun b hb => h b (List.mem_cons_of_mem _ hb)), h c List.mem_cons_self]
    grind
theorem dvp_zero [NeZero P] (r : Fin P) : ∀ (c : Fin P) (t : List (Fin P)), (∀ b ∈ dvp r (c :: t), b = 0) → ∀ b ∈ t, b = 0
  | _, [], _ => fun b hb => by cases hb
  | _, b :: t, h => by
    have h1 : ev (b :: t) r = 0 := h _ List.mem_cons_self
    have h2 := dvp_zero r b t (fun d hd => h d (List.mem_cons_of_mem _ hd))
    have h3 := ev_zero r t h2
    intro d hd
    rcases List.mem_cons.mp hd with e | e
    · subst e
      have h4 : d + r * ev t r = 0 := h1
      rw [h3] at h4
      grind
    · exact h2 d e
theorem roots_few [NeZero P] (hp : isP P) : ∀ (n : Nat) (cs rs : List (Fin P)), cs.length = n → rs.length = n → rs.Nodup → (∀ r ∈ rs, ev cs r = 0) → ∀ c ∈ cs, c = 0
  | 0, [], _, _, _, _, _ => fun c hc => by cases hc
  | n + 1, c :: t, r :: rs, h1, h2, hn, hr => by
    have hn' := List.nodup_cons.mp hn
    have h0 := hr r List.mem_cons_self
    have hq : ∀ b ∈ dvp r (c :: t), b = 0 := by
      apply roots_few hp n _ rs (by rw [dvp_len]; simpa using h1) (by simpa using h2) hn'.2
      intro s hs
      have h3 := dvp_ev r s c t
      rw [hr s (List.mem_cons_of_mem _ hs), h0] at h3
      have h4 : (s - r) * ev (dvp r (c :: t)) s = 0 := by grind
      rcases nz_mul hp h4 with q | q
      · exfalso
        apply hn'.1
        have : s = r := by grind
        exact this ▸ hs
      · exact q
    have ht := dvp_zero r c t hq
    have h5 : c + r * ev t r = 0 := h0
    rw [ev_zero r t ht] at h5
    intro d hd
    rcases List.mem_cons.mp hd with e | e
    · subst e
      grind
    · exact ht d e
/-- x ^ m - 1 as a list -/
def xm1 [NeZero P] (m : Nat) : List (Fin P) := (-1) :: (List.replicate (m - 1) 0 ++ [1])
theorem ev_rep [NeZero P] (x : Fin P) : ∀ k, ev (List.replicate k 0 ++ [1]) x = x ^ k
  | 0 => by
    show 1 + x * 0 = x ^ 0
    grind
  | k + 1 => by
    show 0 + x * ev (List.replicate k 0 ++ [1]) x = x ^ (k + 1)
    rw [ev_rep x k]
    grind
theorem ev_xm1 [NeZero P] (x : Fin P) {m : Nat} (hm : 1 ≤ m) : ev (xm1 m) x = x ^ m - 1 := by
  show -1 + x * ev (List.replicate (m - 1) 0 ++ [1]) x = _
  rw [ev_rep]
  obtain ⟨k, rfl⟩ : ∃ k, m = k + 1 := ⟨m - 1, by omega⟩
  rw [Nat.add_sub_cancel]
  grind
theorem fofn_inj [NeZero P] {a b : Nat} (ha : a < P) (hb : b < P) (h : Fin.ofNat P a = Fin.ofNat P b) : a = b := by
  have := congrArg Fin.val h
  simpa [Fin.ofNat, Nat.mod_eq_of_lt ha, Nat.mod_eq_of_lt hb] using this
/-- some number from 1 on has another m-th power than 1 -/
theorem some_non [NeZero P] (hp : isP P) {m : Nat} (hm : 1 ≤ m) (hm2 : m + 1 < P) : ∃ z, 1 ≤ z ∧ z ≤ m + 1 ∧ Fin.ofNat P z ^ m ≠ 1 := by
  apply Classical.byContradiction
  intro hno
  have hall : ∀ z, 1 ≤ z → z ≤ m + 1 → Fin.ofNat P z ^ m = 1 := fun z h1 h2 => Classical.byContradiction (fun q => hno ⟨z, h1, h2, q⟩)
  have hz := roots_few hp (m + 1) (xm1 m) ((List.range (m + 1)).map (fun k => Fin.ofNat P (k + 1))) (by simp [xm1]; omega) (by simp) ?_ ?_ (-1) List.mem_cons_self
  · have h1 : (1 : Fin P) = 0 := by grind
    exact one_ne hp h1
  · rw [List.nodup_iff_pairwise_ne, List.pairwise_map]
    refine List.Pairwise.imp_of_mem ?_ (List.nodup_iff_pairwise_ne.mp (List.nodup_range))
    intro a b ha hb hab q
    apply hab
    have := fofn_inj (by have := List.mem_range.mp ha; omega) (by have := List.mem_range.mp hb; omega) q
    omega
  · intro r hr
    obtain ⟨k, hk, rfl⟩ := List.mem_map.mp hr
    rw [ev_xm1 _ hm, hall (k + 1) (by omega) (by have := List.mem_range.mp hk; omega)]
    grind
end POLY
