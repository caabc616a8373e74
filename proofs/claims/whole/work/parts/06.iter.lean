/-! LOOPS AS PARTIAL FUNCTIONS: itX f s runs f from s until it comes to an end (.inr), none if it never does -/
def itN {σ ρ : Type} (f : σ → Option (σ ⊕ ρ)) : Nat → σ → Option ρ
  | 0, _ => none
  | n + 1, s => match f s with
    | none => none
    | some (.inl s') => itN f n s'
    | some (.inr r) => some r
noncomputable def itX {σ ρ : Type} (f : σ → Option (σ ⊕ ρ)) (s : σ) : Option ρ := @dite (Option ρ) (∃ n, (itN f n s).isSome = true) (Classical.propDecidable _) (fun h => itN f (Classical.choose h) s) (fun _ => none)
theorem itN_succ {σ ρ : Type} {f : σ → Option (σ ⊕ ρ)} : ∀ {n : Nat} {s : σ} {r : ρ}, itN f n s = some r → itN f (n + 1) s = some r
  | 0, s, r, h => by cases h
  | n + 1, s, r, h => by
    unfold itN at h ⊢
    cases e : f s with
    | none => rw [e] at h; cases h
    | some x =>
      rw [e] at h
      cases x with
      | inl s' => exact itN_succ (n := n) h
      | inr r' => exact h
theorem itN_add {σ ρ : Type} {f : σ → Option (σ ⊕ ρ)} {n : Nat} {s : σ} {r : ρ} (h : itN f n s = some r) : ∀ k, itN f (n + k) s = some r
  | 0 => h
  | k + 1 => itN_succ (itN_add h k)
theorem itX_of {σ ρ : Type} {f : σ → Option (σ ⊕ ρ)} {n : Nat} {s : σ} {r : ρ} (h : itN f n s = some r) : itX f s = some r := by
  have hx : ∃ n, (itN f n s).isSome = true := ⟨n, by rw [h]; rfl⟩
  unfold itX
  rw [dif_pos hx]
  have h2 := Classical.choose_spec hx
  generalize Classical.choose hx = m at h2
  obtain ⟨r', hr'⟩ := Option.isSome_iff_exists.mp h2
  have a1 := itN_add h m
  have a2 := itN_add hr' n
  rw [Nat.add_comm] at a2
  rw [hr']
  exact a2.symm.trans a1
theorem itX_inv {σ ρ : Type} {f : σ → Option (σ ⊕ ρ)} {s : σ} {r : ρ} (h : itX f s = some r) : ∃ n, itN f n s = some r := by
  by_cases hx : ∃ n, (itN f n s).isSome = true
  · unfold itX at h
    rw [dif_pos hx] at h
    exact ⟨_, h⟩
  · unfold itX at h
    rw [dif_neg hx] at h
    cases h
theorem itX_stop {σ ρ : Type} {f : σ → Option (σ ⊕ ρ)} {s : σ} {r : ρ} (h : f s = some (.inr r)) : itX f s = some r := itX_of (n := 1) (by unfold itN; rw [h])
theorem itX_step {σ ρ : Type} {f : σ → Option (σ ⊕ ρ)} {s s' : σ} (h : f s = some (.inl s')) : itX f s = itX f s' := by
  cases e : itX f s' with
  | some r =>
    obtain ⟨n, hn⟩ := itX_inv e
    exact itX_of (n := n + 1) (by unfold itN; rw [h]; exact hn)
  | none =>
    cases e2 : itX f s with
    | none => rfl
    | some r =>
      obtain ⟨n, hn⟩ := itX_inv e2
      cases n with
      | zero => cases hn
      | succ n =>
        unfold itN at hn
        rw [h] at hn
        rw [itX_of hn] at e
        cases e
/-- a loop walked: from the head's judgement P to the end's R -/
theorem it_walk {σ ρ : Type} {f : σ → Option (σ ⊕ ρ)} {P : σ → Prop} {R : ρ → Prop} (hs : ∀ s x, f s = some x → (∀ s', x = .inl s' → P s') → (∀ r, x = .inr r → R r) → P s) {s : σ} {r : ρ} (h : itX f s = some r) (hr : R r) : P s := by
  obtain ⟨n, hn⟩ := itX_inv h
  clear h
  revert s
  induction n with
  | zero => intro s hn; cases hn
  | succ n ih =>
    intro s hn
    unfold itN at hn
    cases e : f s with
    | none => rw [e] at hn; cases hn
    | some x =>
      rw [e] at hn
      cases x with
      | inl s' => exact hs s _ e (fun s2 h2 => by cases h2; exact ih hn) (fun r2 h2 => by cases h2)
      | inr r' =>
        cases hn
        exact hs s _ e (fun s2 h2 => by cases h2) (fun r2 h2 => by cases h2; exact hr)
/-- a counted loop, by its states -/
theorem itX_count {σ ρ : Type} {f : σ → Option (σ ⊕ ρ)} (S : Nat → σ) {N : Nat} {r : ρ} (hs : ∀ i, i < N → f (S i) = some (.inl (S (i + 1)))) (hr : f (S N) = some (.inr r)) : itX f (S 0) = some r := by
  have key : ∀ k, k ≤ N → itX f (S (N - k)) = some r := by
    intro k
    induction k with
    | zero => intro _; exact itX_stop hr
    | succ k ih =>
      intro hk
      have e : N - k = N - (k + 1) + 1 := by omega
      rw [itX_step (hs (N - (k + 1)) (by omega)), ← e]
      exact ih (by omega)
  have := key N (Nat.le_refl N)
  rwa [Nat.sub_self] at this
theorem gd_t {α : Type} {c : Prop} [Decidable c] {a : Option α} {x : α} (h : (if c then a else none) = some x) : c ∧ a = some x := by
  by_cases hc : c
  · rw [if_pos hc] at h; exact ⟨hc, h⟩
  · rw [if_neg hc] at h; cases h
theorem br_p {α : Type} {c : Prop} [Decidable c] {a b : α} {x : α} (hc : c) (h : (if c then a else b) = x) : a = x := by rwa [if_pos hc] at h
theorem br_n {α : Type} {c : Prop} [Decidable c] {a b : α} {x : α} (hc : ¬ c) (h : (if c then a else b) = x) : b = x := by rwa [if_neg hc] at h
theorem bd_i {α β : Type} {a : Option α} {f : α → Option β} {x : β} (h : a.bind f = some x) : ∃ y, a = some y ∧ f y = some x := by
  cases a with
  | none => cases h
  | some y => exact ⟨y, rfl, h⟩
theorem sm_i {α : Type} {a b : α} (h : some a = some b) : b = a := (Option.some.inj h).symm
