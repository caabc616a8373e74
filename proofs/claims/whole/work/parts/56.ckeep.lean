section CKEEP
variable {P : Nat} {d sz o : Nat} {hp : cH} {ad im rw : Nat → Nat} {c : Nat} {S : Nat → Nat} {R : Nat → Nat → Fin P} {H : Nat → Fin P} {g : Nat} {Gs : Nat → Nat} {m : Nat} {pA pB : Nat → Nat} {id : Int32}
theorem cS.lower (h : cS P d hp sz o ad im rw c S R H g Gs m pA pB id) {a b : Nat} (ha : a < c) (hb : b < c) : f_X3_lower hp (ad 0) (nI a) (nI b) = some (some (im (if S b < S a then b else a))) := by
  have l1 := h.item ha
  have l2 := h.item hb
  have l3 := h.t ha
  have l4 := h.t hb
  have l5 := h.s5 ha
  have l6 := h.s5 hb
  unfold f_X3_lower
  by_cases e : S b < S a
  · rw [if_pos e]
    simp only [h.o3, ↓ob l1, ↓ob l2, ↓ob l3, ↓ob l4, ↓Option.elim_some, ↓reduceIte, nI_lt e (show S a < 2 ^ 31 by omega)]
  · rw [if_neg e]
    simp only [h.o3, ↓ob l1, ↓ob l2, ↓ob l3, ↓ob l4, ↓Option.elim_some, ↓reduceIte, nI_nlt (show S a ≤ S b by omega) (show S b < 2 ^ 31 by omega)]
theorem cS.higher (h : cS P d hp sz o ad im rw c S R H g Gs m pA pB id) {a b : Nat} (ha : a < c) (hb : b < c) : f_X3_higher hp (ad 0) (nI a) (nI b) = some (some (im (if S b < S a then a else b))) := by
  have l1 := h.item ha
  have l2 := h.item hb
  have l3 := h.t ha
  have l4 := h.t hb
  have l5 := h.s5 ha
  have l6 := h.s5 hb
  unfold f_X3_higher
  by_cases e : S b < S a
  · rw [if_pos e]
    simp only [h.o3, ↓ob l1, ↓ob l2, ↓ob l3, ↓ob l4, ↓Option.elim_some, ↓reduceIte, nI_lt e (show S a < 2 ^ 31 by omega)]
  · rw [if_neg e]
    simp only [h.o3, ↓ob l1, ↓ob l2, ↓ob l3, ↓ob l4, ↓Option.elim_some, ↓reduceIte, nI_nlt (show S a ≤ S b by omega) (show S b < 2 ^ 31 by omega)]
theorem cS.lowX (h : cS P d hp sz o ad im rw c S R H g Gs m pA pB id) {i j : Int32} (hx : (i < 0 ∨ nI c ≤ i) ∨ (j < 0 ∨ nI c ≤ j)) : ∃ x y, f_X3_lower hp (ad 0) i j = some x ∧ f_X3_higher hp (ad 0) i j = some y ∧ (x = none ∨ y = none) := by
  rcases ix_cl c h.le i with ⟨a, ha, rfl⟩ | hi
  · have hj : j < 0 ∨ nI c ≤ j := by
      rcases hx with q | q
      · exfalso
        have := h.le
        rcases q with q | q
        · exact absurd q (nI_pos (by omega))
        · exact absurd q (nI_ge ha (by omega))
      · exact q
    have l1 := h.item ha
    have l2 := h.itemX hj
    refine ⟨some (im a), none, ?_, ?_, Or.inr rfl⟩
    · unfold f_X3_lower
      simp only [h.o3, ↓ob l1, ↓ob l2, ↓Option.elim_some, ↓Option.elim_none, ↓reduceIte]
    · unfold f_X3_higher
      simp only [h.o3, ↓ob l1, ↓ob l2, ↓Option.elim_some, ↓Option.elim_none, ↓reduceIte]
  · have l1 := h.itemX hi
    have l2 : ∃ y, f_X3_item hp (ad 0) j = some y := by
      rcases ix_cl c h.le j with ⟨b, hb, rfl⟩ | hj
      · exact ⟨_, h.item hb⟩
      · exact ⟨_, h.itemX hj⟩
    obtain ⟨y, l2⟩ := l2
    refine ⟨none, y, ?_, ?_, Or.inl rfl⟩
    · unfold f_X3_lower
      simp only [h.o3, ↓ob l1, ↓ob l2, ↓Option.elim_none, ↓reduceIte]
    · unfold f_X3_higher
      simp only [h.o3, ↓ob l1, ↓ob l2, ↓Option.elim_none, ↓reduceIte]
theorem ne_c {hp : cH} {a b : Nat} {x y : cV} (h1 : hp a = some x) (h2 : hp b = some y) (h : x ≠ y) : a ≠ b := by
  intro e
  subst e
  rw [h1] at h2
  exact h (Option.some.inj h2)
theorem vA.cell {hp : cH} {sz a n : Nat} {x : Nat → Fin P} (h : vA hp sz a n x) : ∃ f, hp a = some (.inl (1, n, .inr (.inl f))) := by
  obtain ⟨⟨f, h1, -⟩, -⟩ := h
  exact ⟨f, h1⟩
/-- a new item at the shelf's end -/
theorem cS.add [NeZero P] (h : cS P d hp sz o ad im rw c S R H g Gs m pA pB id) {hp' : cH} {G : Nat → Option Nat} {t r : Nat} {y : Nat → Fin P} (hc : c < 60) (ht : t < 5) (hG : ∀ a, a < c → G a = some (im a)) (h1 : hp' sz = some (.inr (1, [.int (nI t), .ref r]))) (h2 : hp' (ad 10) = some (.inl (2, 60, .inr (.inr (.inr (.inr (va_up G c (some sz)))))))) (h3 : hp' (ad 0) = some (.inr (3, [.ref (ad 10), .int (nI (c + 1))]))) (h4 : ∀ b, b ≠ sz → b ≠ ad 10 → b ≠ ad 0 → hp' b = hp b) (hr : vA hp sz r (wd d t) y) (hr1 : r ≠ ad 1) : cS P d hp' (sz + 1) o ad (fun b => if b = c then sz else im b) (fun b => if b = c then r else rw b) (c + 1) (fun b => if b = c then t else S b) (fun b k => if b = c then (if k < wd d t then y k else 0) else R b k) H g Gs m pA pB id := by
  obtain ⟨⟨k1, k1'⟩, ⟨k2, k2'⟩, ⟨⟨G0, k3, k3'⟩, k3''⟩, k4, k5, ⟨⟨⟨f, k6, k6'⟩, k6''⟩, ⟨⟨f2, k7, k7'⟩, k7''⟩, ⟨⟨f3, k8, k8'⟩, k8''⟩, k9⟩, k10, k11, k12, k13, k14⟩ := h
  have hk : ∀ b x, b < sz → hp b = some x → x ≠ .inl (2, 60, .inr (.inr (.inr (.inr G0)))) → x ≠ .inr (3, [.ref (ad 10), .int (nI c)]) → hp' b = hp b := fun b x q1 q2 q3 q4 => h4 b (by omega) (ne_c q2 k3 q3) (ne_c q2 k2 q4)
  have hv : ∀ a n (x : Nat → Fin P), vA hp sz a n x → vA hp' (sz + 1) a n x := by
    intro a n x q
    obtain ⟨f, q1⟩ := q.cell
    exact ⟨fa_of q.1 (hk a _ q.2 q1 (by simp) (by simp)), by have := q.2; omega⟩
  refine ⟨⟨by rw [hk o _ k1' k1 (by simp) (by simp)]; exact k1, by omega⟩, ⟨h3, by omega⟩, ⟨⟨_, h2, fun a ha => ?_⟩, by omega⟩, fun a ha => ?_, hv _ _ _ k5, ⟨⟨⟨f, by rw [hk _ _ k6'' k6 (by simp) (by simp)]; exact k6, k6'⟩, by omega⟩, ⟨⟨f2, by rw [hk _ _ k7'' k7 (by simp) (by simp)]; exact k7, k7'⟩, by omega⟩, ⟨⟨f3, by rw [hk _ _ k8'' k8 (by simp) (by simp)]; exact k8, k8'⟩, by omega⟩, k9⟩, ?_, by omega, k12, k13, k14⟩
  · (try dsimp only)
    by_cases e : a = c
    · rw [if_pos e, e]
      simp [va_up]
    · rw [if_neg e]
      simp [va_up, e]
      exact hG a (by omega)
  · (try dsimp only)
    by_cases e : a = c
    · subst e
      simp only [↓reduceIte]
      exact ⟨h1, by omega, (hv _ _ _ hr).congr (fun j hj => by rw [if_pos hj]), hr1, ht⟩
    · simp only [if_neg e]
      obtain ⟨q1, q2, q3, q4, q5⟩ := k4 a (by omega)
      exact ⟨by rw [hk _ _ q2 q1 (by simp) (by simp)]; exact q1, by omega, hv _ _ _ q3, q4, q5⟩
  · obtain ⟨⟨e1, e2, e3⟩, e4, e5, e6⟩ := k10
    exact ⟨⟨by rw [hk _ _ e4 e1 (by simp) (by simp)]; exact e1, by rw [hk _ _ e5 e2 (by simp) (by simp)]; exact e2, by rw [hk _ _ e6 e3 (by simp) (by simp)]; exact e3⟩, by omega, by omega, by omega⟩
theorem va_uu {α : Type} (f : Nat → α) (a : Nat) (x y : α) : va_up (va_up f a x) a y = va_up f a y := by
  funext b
  unfold va_up
  by_cases q : b = a
  · rw [if_pos q, if_pos q]
  · rw [if_neg q, if_neg q, if_neg q]
theorem pV_of {hp : cH} {a ci k : Nat} {fs : List Value} {v : Value} (h : hp a = some (.inr (ci, fs))) (hk : k < fs.length) : pV hp a ci k v = some (va_up hp a (some (.inr (ci, fs.set k v)))) := by
  unfold pV
  rw [h]
  show (if _ then some _ else none) = _
  rw [if_pos]
  exact ⟨rfl, hk⟩
theorem cS.place [NeZero P] (hP : 2 < P) (hB : P < 2 ^ 31) (h : cS P d hp sz o ad im rw c S R H g Gs m pA pB id) {t r : Nat} {y : Nat → Fin P} (ht : t < 5) (hr : vA hp sz r (wd d t) y) (hr1 : r ≠ ad 1) : ∃ hp' sz' im' rw', f_X3_place hp sz (ad 0) (nI t) r = some ((plc (wd d t) t y c S R).1, hp', sz') ∧ cS P d hp' sz' o ad im' rw' (plc (wd d t) t y c S R).2.1 (plc (wd d t) t y c S R).2.2.1 (plc (wd d t) t y c S R).2.2.2 H g Gs m pA pB id ∧ cF ad o hp sz hp' sz' := by
  have hle := h.le
  have hwl := (wd_le (t := t) h.hd).1
  have l1 := h.s1
  have l2 := h.s0
  have l3 := h.ln
  have loop : ∀ n a, a + n = c → itX (f_X3_place_L2 hp sz (ad 0) (nI t) r) (nI a) = some (if sr (mtc (wd d t) t y S R) n a < c then .inr (nI (sr (mtc (wd d t) t y S R) n a), hp, sz) else .inl ()) := by
    intro n
    induction n with
    | zero =>
      intro a ha
      unfold sr
      rw [if_neg (by omega)]
      apply itX_stop
      unfold f_X3_place_L2
      rw [ob l1, if_pos (nI_le (by omega) (by omega))]
    | succ n ih =>
      intro a ha
      have hac : a < c := by omega
      have l4 := h.lI hac
      have l5 := h.t hac
      have l6 := h.r hac
      have l7 := h.s5 hac
      by_cases e : S a = t
      · have hv := h.v hac
        rw [e] at hv
        obtain ⟨q1, q2⟩ := t_isSame hB hv.1 hr.1 (by omega)
        by_cases e2 : ∀ j, j < wd d t → R a j = y j
        · have hs : sr (mtc (wd d t) t y S R) (n + 1) a = a := by
            unfold sr
            rw [if_pos (by unfold mtc; exact decide_eq_true ⟨e, e2⟩)]
          rw [hs, if_pos hac]
          apply itX_stop
          have q3 := q1 e2
          unfold f_X3_place_L2
          rw [e] at l5
          simp (disch := omega) only [↓Option.bind_some, ↓Option.elim_some, ↓Option.elim_none, Option.bind_some, Option.elim_some, Option.elim_none, Option.some.injEq, Sum.inl.injEq, Sum.inr.injEq, ↓reduceIte, m_side, lit_nI, lz_I, nI_add, pk_mul, pk_sub, nI_ge, nI_le, nI_lt, nI_nlt, gi_t, nI_clamp, nI_eq, pk_rem, Nat.zero_add, Nat.reduceAdd, Nat.reduceMul, Nat.reduceSub, Nat.reduceMod, Nat.reduceEqDiff, reduceCtorEq, Nat.one_ne_zero, Nat.zero_ne_one, ↓ob l1, ↓ob l2, ↓ob l4, ↓ob l5, ↓ob l6, ↓ob q3]
        · have hs : sr (mtc (wd d t) t y S R) (n + 1) a = sr (mtc (wd d t) t y S R) n (a + 1) := by
            conv => lhs; unfold sr
            rw [if_neg (by unfold mtc; exact fun q => e2 (of_decide_eq_true q).2)]
          rw [hs, itX_step (s' := nI (a + 1)), ih (a + 1) (by omega)]
          have q3 := q2 e2
          unfold f_X3_place_L2 f_X3_place_L2J41
          rw [e] at l5
          simp (disch := omega) only [↓Option.bind_some, ↓Option.elim_some, ↓Option.elim_none, Option.bind_some, Option.elim_some, Option.elim_none, Option.some.injEq, Sum.inl.injEq, Sum.inr.injEq, ↓reduceIte, m_side, lit_nI, lz_I, nI_add, pk_mul, pk_sub, nI_ge, nI_le, nI_lt, nI_nlt, gi_t, nI_clamp, nI_eq, pk_rem, Nat.zero_add, Nat.reduceAdd, Nat.reduceMul, Nat.reduceSub, Nat.reduceMod, Nat.reduceEqDiff, reduceCtorEq, Nat.one_ne_zero, Nat.zero_ne_one, ↓ob l1, ↓ob l2, ↓ob l4, ↓ob l5, ↓ob l6, ↓ob q3]
      · have hs : sr (mtc (wd d t) t y S R) (n + 1) a = sr (mtc (wd d t) t y S R) n (a + 1) := by
          conv => lhs; unfold sr
          rw [if_neg (by unfold mtc; exact fun q => e (of_decide_eq_true q).1)]
        rw [hs, itX_step (s' := nI (a + 1)), ih (a + 1) (by omega)]
        unfold f_X3_place_L2 f_X3_place_L2J41
        simp (disch := omega) only [↓Option.bind_some, ↓Option.elim_some, ↓Option.elim_none, Option.bind_some, Option.elim_some, Option.elim_none, Option.some.injEq, Sum.inl.injEq, Sum.inr.injEq, ↓reduceIte, m_side, lit_nI, lz_I, nI_add, pk_mul, pk_sub, nI_ge, nI_le, nI_lt, nI_nlt, gi_t, nI_clamp, nI_eq, pk_rem, Nat.zero_add, Nat.reduceAdd, Nat.reduceMul, Nat.reduceSub, Nat.reduceMod, Nat.reduceEqDiff, reduceCtorEq, Nat.one_ne_zero, Nat.zero_ne_one, ↓ob l1, ↓ob l2, ↓ob l4, ↓ob l5, e]
  have h0 : itX (f_X3_place_L2 hp sz (ad 0) (nI t) r) 0 = _ := loop c 0 (by omega)
  unfold plc
  by_cases hf : sr (mtc (wd d t) t y S R) c 0 < c
  · rw [if_pos hf] at h0 ⊢
    refine ⟨hp, sz, im, rw, ?_, h, cF.g gro.rf⟩
    unfold f_X3_place
    rw [ob h0]
  · rw [if_neg hf] at h0 ⊢
    by_cases h60 : c = 60
    · rw [if_pos h60]
      refine ⟨hp, sz, im, rw, ?_, h, cF.g gro.rf⟩
      unfold f_X3_place
      rw [ob h0]
      show ((gI hp (ad 0) 3 1).bind _) = _
      rw [ob l1, ob l2, ob l3, if_neg (nI_nlt (by omega) (by omega))]
    · rw [if_neg h60]
      have k2 := h.2.1.1
      have k2' := h.2.1.2
      obtain ⟨⟨G0, k3, k3'⟩, k3''⟩ := h.2.2.1
      have n1 : ad 10 ≠ ad 0 := ne_c k3 k2 (by simp)
      generalize hq1 : va_up hp sz (some (.inr (1, [Value.int (nI t), Value.ref r]))) = hp1
      generalize hq2 : va_up hp1 (ad 10) (some (.inl (2, 60, .inr (.inr (.inr (.inr (va_up G0 c (some sz)))))))) = hp2
      generalize hq3 : va_up hp2 (ad 0) (some (.inr (3, [Value.ref (ad 10), Value.int (nI (c + 1))]))) = hp3
      have e1 : hp1 sz = some (.inr (1, [.int (nI t), .ref r])) := by rw [← hq1]; simp [va_up]
      have e2 : ∀ b, b ≠ sz → hp1 b = hp b := fun b hb => by rw [← hq1]; simp [va_up, hb]
      have e3 : ∀ b, b ≠ ad 10 → hp2 b = hp1 b := fun b hb => by rw [← hq2]; simp [va_up, hb]
      have e4 : hp2 (ad 10) = some (.inl (2, 60, .inr (.inr (.inr (.inr (va_up G0 c (some sz))))))) := by rw [← hq2]; simp [va_up]
      have e5 : ∀ b, b ≠ ad 0 → hp3 b = hp2 b := fun b hb => by rw [← hq3]; simp [va_up, hb]
      have e6 : hp3 (ad 0) = some (.inr (3, [.ref (ad 10), .int (nI (c + 1))])) := by rw [← hq3]; simp [va_up]
      refine ⟨hp3, sz + 1, _, _, ?_, h.add (G := G0) (r := r) (y := y) (by omega) ht k3' (by rw [e5 _ (by omega), e3 _ (by omega), e1]) (by rw [e5 _ n1, e4]) e6 (fun b q1 q2 q3 => by rw [e5 b q3, e3 b q2, e2 b q1]) hr hr1, ?_⟩
      · have p1 : f_X1_init (va_up hp sz (some (.inr (1, [Value.int 0, Value.null])))) sz (nI t) r = some hp1 := by
          unfold f_X1_init
          have z1 : pV (va_up hp sz (some (.inr (1, [Value.int 0, Value.null])))) sz 1 0 (.int (nI t)) = some (va_up hp sz (some (.inr (1, [Value.int (nI t), Value.null])))) := by
            rw [pV_of (fs := [Value.int 0, Value.null]) (by simp [va_up]) (by decide), va_uu]
            rfl
          have z2 : pV (va_up hp sz (some (.inr (1, [Value.int (nI t), Value.null])))) sz 1 1 (.ref r) = some hp1 := by
            rw [pV_of (fs := [Value.int (nI t), Value.null]) (by simp [va_up]) (by simp), va_uu, ← hq1]
            rfl
          rw [ob z1, ob z2]
        have p2 : sR 2 hp1 (ad 10) (nI c) sz = some hp2 := by
          unfold sR aR
          rw [e2 _ (by omega), k3]
          show (if gi (nI c) 60 ∧ okR 2 hp1 sz = true then _ else none) = _
          rw [if_pos ⟨gi_nI (by omega) (by omega), by unfold okR; rw [e1]; rfl⟩, nI_clamp (by omega), ← hq2]
        have p3 : gI hp2 (ad 0) 3 1 = some (nI c) := by
          unfold gI
          rw [e3 _ (Ne.symm n1), e2 _ (by omega), k2]
          rfl
        have p4 : pV hp2 (ad 0) 3 1 (.int (nI (c + 1))) = some hp3 := by
          unfold pV
          rw [e3 _ (Ne.symm n1), e2 _ (by omega), k2, ← hq3]
          rfl
        have p5 : gI hp3 (ad 0) 3 1 = some (nI (c + 1)) := by
          unfold gI
          rw [e6]
          rfl
        unfold f_X3_place
        rw [ob h0]
        show ((gI hp (ad 0) 3 1).bind _) = _
        rw [ob l1, ob l2, ob l3, if_pos (nI_lt (by omega) (by omega)), ob l2, ob l1, Option.bind_some, ob p1, ob p2, ob p3, show nI c + (1 : Int32) = nI (c + 1) from by rw [show (1 : Int32) = nI 1 from rfl, nI_add], ob p4, ob p5, show nI (c + 1) - (1 : Int32) = nI c from by rw [show (1 : Int32) = nI 1 from rfl, pk_sub (by omega)]; congr 1]
      · exact ⟨fun b hb _ q0 _ _ _ _ q10 => by rw [e5 b q0, e3 b q10, e2 b (by omega)], by omega⟩
/-- keep, of a row that may be null: the answer, and the shelf behind it -/
def kpF [NeZero P] (W t : Nat) (y : Option (Nat → Fin P)) (c : Nat) (S : Nat → Nat) (R : Nat → Nat → Fin P) : Int32 × Nat × (Nat → Nat) × (Nat → Nat → Fin P) := match y with
  | none => (-1, c, S, R)
  | some y => if ldV y W = W then (-1, c, S, R) else plc W t (nmV y W) c S R
theorem cS.keep (hp0 : isP P) [NeZero P] (hB : P < 2 ^ 31) (h : cS P d hp sz o ad im rw c S R H g Gs m pA pB id) {t : Nat} {r : Option Nat} {y : Option (Nat → Fin P)} (ht : t < 5) (hr : oA hp sz r (wd d t) y) : ∃ hp' sz' im' rw', f_X5_keep hp sz o (nI t) r = some ((kpF (wd d t) t y c S R).1, hp', sz') ∧ cS P d hp' sz' o ad im' rw' (kpF (wd d t) t y c S R).2.1 (kpF (wd d t) t y c S R).2.2.1 (kpF (wd d t) t y c S R).2.2.2 H g Gs m pA pB id ∧ cF ad o hp sz hp' sz' := by
  have hP := hp0.1
  have hwl := (wd_le (t := t) h.hd).1
  cases y with
  | none =>
    have hr : r = none := hr
    subst hr
    exact ⟨hp, sz, im, rw, rfl, h, cF.g gro.rf⟩
  | some y =>
    obtain ⟨b, rfl, hb⟩ := hr
    unfold kpF
    (try dsimp only)
    by_cases hz : ldV y (wd d t) = wd d t
    · rw [if_pos hz]
      refine ⟨hp, sz, im, rw, ?_, h, cF.g gro.rf⟩
      have z1 := e_isZ hB hb (by omega) hz
      have z2 : ¬ nI 1 = (0 : Int32) := by decide
      unfold f_X5_keep
      simp only [↓Option.elim_some, ↓ob z1, z2, ↓reduceIte]
    · rw [if_neg hz]
      have z1 := e_isN hB hb (by omega) hz
      have z2 : nI 0 = (0 : Int32) := rfl
      obtain ⟨hp1, a1, a2, a3⟩ := t_normal hp0 hB h.e.R h.e.2.2.1 h.e.2.2.2 hb.2 hb.1 (by omega)
      have hg : gro hp sz hp1 (sz + 1) := ⟨a3, by omega⟩
      have h1 := h.gg hg
      have hv : vA hp1 (sz + 1) sz (wd d t) (nmV y (wd d t)) := ⟨a2, by omega⟩
      have hne : sz ≠ ad 1 := by have := h.2.2.2.2.1.2; omega
      obtain ⟨hp2, sz2, im2, rw2, b1, b2, b3⟩ := h1.place hP hB ht hv hne
      refine ⟨hp2, sz2, im2, rw2, ?_, b2, (cF.g hg).tr b3⟩
      have l0 := h.r0
      have l8 := h.r8
      have oo := h.e.o2
      have o3 := h1.o3
      unfold f_X5_keep
      simp only [↓Option.elim_some, ↓ob z1, z2, ↓ob l0, ↓ob l8, oo, ↓ob a1, o3, ↓ob b1, ↓reduceIte]
end CKEEP
