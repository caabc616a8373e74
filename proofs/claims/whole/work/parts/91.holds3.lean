section HOLDSC
variable {P : Nat} {d sz o : Nat} {hp : cH} {ad im rw : Nat → Nat} {c : Nat} {S : Nat → Nat} {R : Nat → Nat → Fin P} {H : Nat → Fin P} {g : Nat} {Gs : Nat → Nat} {m : Nat} {pA pB : Nat → Nat} {id : Int32}
/-- the reference, behind the supposition -/
noncomputable def hT (n : Int32) (p : Int64) (rows : Nat → Int64) (gather : Nat → Int32) (draft frame one two turned : Nat → Int64) (x1 : Int32) : Option (Int32 × (Nat → Int64) × (Nat → Int64) × (Nat → Int64) × (Nat → Int64) × (Nat → Int64)) := (m_isMet n p rows gather draft one two turned ((0 : Int32)) ((1 : Int32)) ((3 : Int32)) ((4 : Int32)) ((0 : Int32))).bind fun r19 => if r19.1 = 0 then (some ((-1 : Int32), r19.2.1, frame, r19.2.2.1, r19.2.2.2.1, r19.2.2.2.2)) else ((m_isMet n p rows gather r19.2.1 r19.2.2.1 r19.2.2.2.1 r19.2.2.2.2 ((1 : Int32)) ((2 : Int32)) ((4 : Int32)) ((5 : Int32)) ((1 : Int32))).bind fun r20 => if r20.1 = 0 then (some ((-1 : Int32), r20.2.1, frame, r20.2.2.1, r20.2.2.2.1, r20.2.2.2.2)) else (if x1 = ((1 : Int32)) then ((m_isMet n p rows gather r20.2.1 r20.2.2.1 r20.2.2.2.1 r20.2.2.2.2 ((2 : Int32)) ((0 : Int32)) ((5 : Int32)) ((3 : Int32)) ((2 : Int32))).bind fun r22 => if r22.1 = 0 then (some ((-1 : Int32), r22.2.1, frame, r22.2.2.1, r22.2.2.2.1, r22.2.2.2.2)) else (m_holds_J154 p r22.2.1 frame r22.2.2.1 r22.2.2.2.1 r22.2.2.2.2)) else ((m_isMet n p rows gather r20.2.1 r20.2.2.1 r20.2.2.2.1 r20.2.2.2.2 ((2 : Int32)) ((3 : Int32)) ((5 : Int32)) ((0 : Int32)) ((2 : Int32))).bind fun r21 => if r21.1 = 0 then (some ((-1 : Int32), r21.2.1, frame, r21.2.2.1, r21.2.2.2.1, r21.2.2.2.2)) else (m_holds_J154 p r21.2.1 frame r21.2.2.1 r21.2.2.2.1 r21.2.2.2.2))))
/-- what is found -/
theorem mt_iff [NeZero P] {G : Nat → Nat} {R : Nat → Nat → Fin P} (a b e f : Nat) : (G a ≠ G b ∧ G e ≠ G f ∧ ldV (mtP (fun k => R (G k)) a b e f) 3 < 3) ↔ ldV (mtP (fun k => R (G k)) a b e f) 3 < 3 := by
  refine ⟨fun q => q.2.2, fun q => ⟨fun w => ?_, fun w => ?_, q⟩⟩
  · have : ldV (mtP (fun k => R (G k)) a b e f) 3 = 3 := ldV_eq.mpr (fun j _ => cr3_0 (Or.inl (fun k _ => by (try dsimp only); rw [w]; exact cr3_s _ k)) j)
    omega
  · have : ldV (mtP (fun k => R (G k)) a b e f) 3 = 3 := ldV_eq.mpr (fun j _ => cr3_0 (Or.inr (fun k _ => by (try dsimp only); rw [w]; exact cr3_s _ k)) j)
    omega
theorem r_J154 [NeZero P] (hP : 2 < P) (hB : P < 2 ^ 31) {draft frame one two turned : Nat → Int64} {M : Nat → Nat → Fin P} (h : ∀ i k, i < 3 → k < 3 → turned (3 * i + k) = fL (M i k)) : ∃ f' v, m_holds_J154 (lN P) draft frame one two turned = some (v, draft, f', one, two, turned) ∧ ((gj 3 M 3).1 < 3 → v = 1) ∧ (¬ (gj 3 M 3).1 < 3 → v = 0) := by
  have hx : vo turned 9 (fun m => M (m / 3) (m % 3)) := fun m hm => by
    have := h (m / 3) (m % 3) (by omega) (by omega)
    rw [show 3 * (m / 3) + m % 3 = m by omega] at this
    exact this
  obtain ⟨f1, a1, a2⟩ := s_nine hx m_holds_L156 (Or.inr rfl) frame
  obtain ⟨f2, b1, -⟩ := s_reduce hP hB (M := M) (h := 3) (w := 3) (u := 3) (fr := f1) (fok_congr a2 (fun i j hi hj => by
    unfold t9M
    (try dsimp only)
    rw [show (3 * i + j) / 3 = i by omega, show (3 * i + j) % 3 = j by omega])) (by omega) (by omega) (by omega)
  have a1' : itX (m_holds_L156 turned) (0, frame) = some f1 := a1
  have b1' : m_reduce (lN P) f1 3 3 3 = some (nI (gj 3 M 3).1, f2) := b1
  have hle := (gj_le 3 M 3).1
  generalize (gj 3 M 3).1 = r1 at b1' hle
  by_cases e : r1 < 3
  · have l1 : ¬ (3 : Int32) ≤ nI r1 := fun w => absurd ((nI_3le (show r1 < 2 ^ 31 by omega)).mp w) (by omega)
    refine ⟨f2, 1, ?_, fun _ => rfl, fun q => absurd e q⟩
    unfold m_holds_J154
    simp only [↓ob a1', ↓ob b1', l1, ↓reduceIte]
  · have l1 := (nI_3le (show r1 < 2 ^ 31 by omega)).mpr (show 3 ≤ r1 by omega)
    refine ⟨f2, 0, ?_, fun q => absurd q e, fun _ => rfl⟩
    unfold m_holds_J154
    simp only [↓ob a1', ↓ob b1', l1, ↓reduceIte]
theorem r_tail [NeZero P] (hP : 2 < P) (hB : P < 2 ^ 31) {rows : Nat → Int64} {R : Nat → Nat → Fin P} {cc : Nat} (h : rK cc rows R) {ga : Nat → Int32} {G : Nat → Nat} (hG : pK cc ga G 6) (draft frame one two turned : Nat → Int64) {t : Nat} (ht : t < 3) : ∃ v d' f' o' t' u', hT (nI 2) (lN P) rows ga draft frame one two turned (nI t) = some (v, d', f', o', t', u') ∧ ((¬ ∀ l, 0 ≤ l → l < 3 → ldV (hxM (decide (t = 1)) (fun k => R (G k)) l) 3 < 3) → v = -1) ∧ ((∀ l, 0 ≤ l → l < 3 → ldV (hxM (decide (t = 1)) (fun k => R (G k)) l) 3 < 3) → ((gj 3 (hxM (decide (t = 1)) (fun k => R (G k))) 3).1 < 3 → v = 1) ∧ (¬ (gj 3 (hxM (decide (t = 1)) (fun k => R (G k))) 3).1 < 3 → v = 0)) := by
  have M0 : hxM (decide (t = 1)) (fun k => R (G k)) 0 = mtP (fun k => R (G k)) 0 1 3 4 := by
    rcases (show t = 0 ∨ t = 1 ∨ t = 2 by omega) with rfl | rfl | rfl <;> rfl
  have M1 : hxM (decide (t = 1)) (fun k => R (G k)) 1 = mtP (fun k => R (G k)) 1 2 4 5 := by
    rcases (show t = 0 ∨ t = 1 ∨ t = 2 by omega) with rfl | rfl | rfl <;> rfl
  obtain ⟨q1, d1, o1, t1, u1, a1, a2, a3⟩ := s_isMet hP hB h (draft := draft) (one := one) (two := two) (tu := turned) hG (a := 0) (b := 1) (c := 3) (d := 4) (r := 0) (by omega) (by omega) (by omega) (by omega) (by omega)
  rw [mt_iff, ← M0] at a2 a3
  have a1' : m_isMet (nI 2) (lN P) rows ga draft one two turned 0 1 3 4 0 = some (q1, d1, o1, t1, u1) := a1
  by_cases h1 : ldV (hxM (decide (t = 1)) (fun k => R (G k)) 0) 3 < 3
  · obtain ⟨rfl, a4, -⟩ := a2 h1
    obtain ⟨q2, d2, o2, t2, u2, b1, b2, b3⟩ := s_isMet hP hB h (draft := d1) (one := o1) (two := t1) (tu := u1) hG (a := 1) (b := 2) (c := 4) (d := 5) (r := 1) (by omega) (by omega) (by omega) (by omega) (by omega)
    rw [mt_iff, ← M1] at b2 b3
    have b1' : m_isMet (nI 2) (lN P) rows ga d1 o1 t1 u1 1 2 4 5 1 = some (q2, d2, o2, t2, u2) := b1
    by_cases h2 : ldV (hxM (decide (t = 1)) (fun k => R (G k)) 1) 3 < 3
    · obtain ⟨rfl, b4, b5⟩ := b2 h2
      have fin : ∀ q3 d3 o3 t3 u3, ((ldV (hxM (decide (t = 1)) (fun k => R (G k)) 2) 3 < 3) → q3 = nI 1 ∧ (∀ k, k < 3 → u3 (3 * 2 + k) = fL (hxM (decide (t = 1)) (fun k => R (G k)) 2 k)) ∧ ∀ m, m < 3 * 2 → u3 m = u2 m) → ((¬ ldV (hxM (decide (t = 1)) (fun k => R (G k)) 2) 3 < 3) → q3 = nI 0) → hT (nI 2) (lN P) rows ga draft frame one two turned (nI t) = (if q3 = 0 then some (-1, d3, frame, o3, t3, u3) else m_holds_J154 (lN P) d3 frame o3 t3 u3) → ∃ v d' f' o' t' u', hT (nI 2) (lN P) rows ga draft frame one two turned (nI t) = some (v, d', f', o', t', u') ∧ ((¬ ∀ l, 0 ≤ l → l < 3 → ldV (hxM (decide (t = 1)) (fun k => R (G k)) l) 3 < 3) → v = -1) ∧ ((∀ l, 0 ≤ l → l < 3 → ldV (hxM (decide (t = 1)) (fun k => R (G k)) l) 3 < 3) → ((gj 3 (hxM (decide (t = 1)) (fun k => R (G k))) 3).1 < 3 → v = 1) ∧ (¬ (gj 3 (hxM (decide (t = 1)) (fun k => R (G k))) 3).1 < 3 → v = 0)) := by
        intro q3 d3 o3 t3 u3 c2 c3 e1
        by_cases h3 : ldV (hxM (decide (t = 1)) (fun k => R (G k)) 2) 3 < 3
        · obtain ⟨rfl, c4, c5⟩ := c2 h3
          obtain ⟨f', v, j1, j2, j3⟩ := r_J154 hP hB (draft := d3) (frame := frame) (one := o3) (two := t3) (turned := u3) (M := hxM (decide (t = 1)) (fun k => R (G k))) (fun i k hi hk => by
            rcases (show i = 0 ∨ i = 1 ∨ i = 2 by omega) with rfl | rfl | rfl
            · rw [c5 _ (by omega), b5 _ (by omega), a4 k hk, M0]
            · rw [c5 _ (by omega), b4 k hk, M1]
            · exact c4 k hk)
          refine ⟨v, d3, f', o3, t3, u3, ?_, fun w => absurd (fun l _ hl => ?_) w, fun _ => ⟨j2, j3⟩⟩
          · rw [e1, if_neg (by decide), j1]
          · rcases (show l = 0 ∨ l = 1 ∨ l = 2 by omega) with rfl | rfl | rfl
            · exact h1
            · exact h2
            · exact h3
        · have := c3 h3
          subst this
          exact ⟨-1, d3, frame, o3, t3, u3, by rw [e1, if_pos (by decide)], fun _ => rfl, fun w => absurd (w 2 (by omega) (by omega)) h3⟩
      by_cases e1 : t = 1
      · obtain ⟨q3, d3, o3, t3, u3, c1, c2, c3⟩ := s_isMet hP hB h (draft := d2) (one := o2) (two := t2) (tu := u2) hG (a := 2) (b := 0) (c := 5) (d := 3) (r := 2) (by omega) (by omega) (by omega) (by omega) (by omega)
        have M2 : hxM (decide (t = 1)) (fun k => R (G k)) 2 = mtP (fun k => R (G k)) 2 0 5 3 := by subst e1; rfl
        rw [mt_iff, ← M2] at c2 c3
        have c1' : m_isMet (nI 2) (lN P) rows ga d2 o2 t2 u2 2 0 5 3 2 = some (q3, d3, o3, t3, u3) := c1
        refine fin q3 d3 o3 t3 u3 c2 c3 ?_
        have e11 : (nI t = (1 : Int32)) = True := by rw [e1]; apply eq_true; decide
        unfold hT
        simp only [↓ob a1', n10, ↓ob b1', e11, ↓ob c1', ↓reduceIte]
      · obtain ⟨q3, d3, o3, t3, u3, c1, c2, c3⟩ := s_isMet hP hB h (draft := d2) (one := o2) (two := t2) (tu := u2) hG (a := 2) (b := 3) (c := 5) (d := 0) (r := 2) (by omega) (by omega) (by omega) (by omega) (by omega)
        have M2 : hxM (decide (t = 1)) (fun k => R (G k)) 2 = mtP (fun k => R (G k)) 2 3 5 0 := by rcases (show t = 0 ∨ t = 2 by omega) with rfl | rfl <;> rfl
        rw [mt_iff, ← M2] at c2 c3
        have c1' : m_isMet (nI 2) (lN P) rows ga d2 o2 t2 u2 2 3 5 0 2 = some (q3, d3, o3, t3, u3) := c1
        refine fin q3 d3 o3 t3 u3 c2 c3 ?_
        have e11 : (nI t = (1 : Int32)) = False := n_ne (b := 1) e1 (by omega) (by omega)
        unfold hT
        simp only [↓ob a1', n10, ↓ob b1', e11, ↓ob c1', ↓reduceIte]
    · have := b3 h2
      subst this
      refine ⟨-1, d2, frame, o2, t2, u2, ?_, fun _ => rfl, fun w => absurd (w 1 (by omega) (by omega)) h2⟩
      unfold hT
      simp only [↓ob a1', n10, ↓ob b1', n00, ↓reduceIte]
  · have := a3 h1
    subst this
    refine ⟨-1, d1, frame, o1, t1, u1, ?_, fun _ => rfl, fun w => absurd (w 0 (by omega) (by omega)) h1⟩
    unfold hT
    simp only [↓ob a1', n00, ↓reduceIte]
/-- the reference supposes the same -/
theorem r_supposed [NeZero P] (hP : 2 < P) (hB : P < 2 ^ 31) {rows : Nat → Int64} {R : Nat → Nat → Fin P} {cc : Nat} (h : rK cc rows R) {ga : Nat → Int32} {G : Nat → Nat} (hG : pK cc ga G 6) (hne : ∀ a b, a < 6 → b < 6 → (G a = G b ↔ ¬ ldV (cr3 (R (G a)) (R (G b))) 3 < 3)) (draft frame one two turned : Nat → Int64) {t : Nat} (ht : t < 3) : ∃ f' o' t' u', (spp t (fun k => R (G k)) → m_holds (nI 2) (lN P) rows (nI 6) ga draft frame one two turned (nI t) = hT (nI 2) (lN P) rows ga draft f' o' t' u' (nI t)) ∧ (¬ spp t (fun k => R (G k)) → m_holds (nI 2) (lN P) rows (nI 6) ga draft frame one two turned (nI t) = some (-1, draft, f', o', t', u')) := by
  have e23 : (nI 2 = (3 : Int32)) = False := by apply eq_false; decide
  have e66 : (nI 6 = (6 : Int32)) = True := by apply eq_true; decide
  have e12 : ((1 : Int32) = 0) = False := by apply eq_false; decide
  rcases (show t = 0 ∨ t = 1 ∨ t = 2 by omega) with rfl | rfl | rfl
  · have hsp : spp 0 (fun k => R (G k)) ↔ (gj 3 (fun i => R (G (if i = 0 then 0 else if i = 1 then 2 else 4))) 3).1 < 3 ∧ (gj 3 (fun i => R (G (if i = 0 then 1 else if i = 1 then 3 else 5))) 3).1 < 3 := ⟨fun w => w.1 rfl, fun w => ⟨fun _ => w, fun w2 => absurd w2 (by omega), fun w2 => absurd w2 (by omega)⟩⟩
    have x0 : (nI 0 < (0 : Int32)) = False := by apply eq_false; decide
    have x2 : (nI 0 ≤ (2 : Int32)) = True := by apply eq_true; decide
    obtain ⟨f1, a1⟩ := s_rankOfThree hP hB h (fr := frame) hG (a := 0) (b := 2) (c := 4) (by omega) (by omega) (by omega)
    have a1' : m_rankOfThree (lN P) rows ga frame 0 2 4 = some (_, f1) := a1
    obtain ⟨f2, b1⟩ := s_rankOfThree hP hB h (fr := f1) hG (a := 1) (b := 3) (c := 5) (by omega) (by omega) (by omega)
    have b1' : m_rankOfThree (lN P) rows ga f1 1 3 5 = some (_, f2) := b1
    have hle := (gj_le 3 (fun i => R (G (if i = 0 then 0 else if i = 1 then 2 else 4))) 3).1
    have hle2 := (gj_le 3 (fun i => R (G (if i = 0 then 1 else if i = 1 then 3 else 5))) 3).1
    generalize (gj 3 (fun i => R (G (if i = 0 then 0 else if i = 1 then 2 else 4))) 3).1 = r1 at a1' hle hsp
    generalize (gj 3 (fun i => R (G (if i = 0 then 1 else if i = 1 then 3 else 5))) 3).1 = r2 at b1' hle2 hsp
    clear a1 b1
    by_cases h1 : 3 ≤ r1
    · have l1 := (nI_3le (show r1 < 2 ^ 31 by omega)).mpr h1
      refine ⟨f1, one, two, turned, fun w => absurd (hsp.mp w).1 (by omega), fun _ => ?_⟩
      unfold m_holds m_holds_J61
      simp only [e23, x0, x2, e66, n00, ↓ob a1', l1, ↓reduceIte]
    · have l1 : ¬ (3 : Int32) ≤ nI r1 := fun w => h1 ((nI_3le (show r1 < 2 ^ 31 by omega)).mp w)
      by_cases h2 : 3 ≤ r2
      · have l2 := (nI_3le (show r2 < 2 ^ 31 by omega)).mpr h2
        refine ⟨f2, one, two, turned, fun w => absurd (hsp.mp w).2 (by omega), fun _ => ?_⟩
        unfold m_holds m_holds_J61
        simp only [e23, x0, x2, e66, n00, ↓ob a1', l1, ↓ob b1', l2, ↓reduceIte]
      · have l2 : ¬ (3 : Int32) ≤ nI r2 := fun w => h2 ((nI_3le (show r2 < 2 ^ 31 by omega)).mp w)
        refine ⟨f2, one, two, turned, fun w => ?_, fun w => absurd (hsp.mpr ⟨by omega, by omega⟩) w⟩
        unfold m_holds hT
        rw [if_neg (of_eq_false e23), if_neg (of_eq_false x0), if_pos (of_eq_true x2), if_pos (of_eq_true e66), if_pos (of_eq_true n00), ob a1', if_neg l1, ob b1', if_neg l2, if_neg (by decide)]
  · have hsp : spp 1 (fun k => R (G k)) ↔ (∀ r, r < 3 → G r ≠ G (r + 3)) ∧ (gj 3 (acM (fun k => R (G k))) 3).1 < 3 := by
      have e : (∀ r, r < 3 → G r ≠ G (r + 3)) ↔ (∀ l, 0 ≤ l → l < 3 → ldV (acM (fun k => R (G k)) l) 3 < 3) := by
        refine ⟨fun w l _ hl => ?_, fun w r hr z => ?_⟩
        · by_cases z : ldV (acM (fun k => R (G k)) l) 3 < 3
          · exact z
          · exact absurd ((hne l (l + 3) (by omega) (by omega)).mpr z) (w l hl)
        · exact (hne r (r + 3) (by omega) (by omega)).mp z (w r (by omega) hr)
      rw [e]
      exact ⟨fun w => w.2.1 rfl, fun w => ⟨fun w2 => absurd w2 (by omega), fun _ => w, fun w2 => absurd w2 (by omega)⟩⟩
    have x0 : (nI 1 < (0 : Int32)) = False := by apply eq_false; decide
    have x2 : (nI 1 ≤ (2 : Int32)) = True := by apply eq_true; decide
    have x11 : (nI 1 = (1 : Int32)) = True := by apply eq_true; decide
    obtain ⟨q, f1, o1, t1, u1, a1, a2, a3⟩ := s_areThree hP hB h (fr := frame) (one := one) (two := two) (tu := turned) hG
    rw [← hsp] at a2 a3
    by_cases h1 : spp 1 (fun k => R (G k))
    · have := a2 h1
      subst this
      refine ⟨f1, o1, t1, u1, fun _ => ?_, fun w => absurd h1 w⟩
      unfold m_holds hT
      rw [if_neg (of_eq_false e23), if_neg (of_eq_false x0), if_pos (of_eq_true x2), if_pos (of_eq_true e66), if_neg (of_eq_false n10), if_pos (of_eq_true x11), ob a1]
      dsimp only
      rw [if_neg (of_eq_false n10)]
    · have := a3 h1
      subst this
      refine ⟨f1, o1, t1, u1, fun w => absurd w h1, fun _ => ?_⟩
      unfold m_holds
      rw [if_neg (of_eq_false e23), if_neg (of_eq_false x0), if_pos (of_eq_true x2), if_pos (of_eq_true e66), if_neg (of_eq_false n10), if_pos (of_eq_true x11), ob a1]
      dsimp only
      rw [if_pos (of_eq_true n00)]
  · have hsp : spp 2 (fun k => R (G k)) ↔ (gj 6 (cnM 3 (fun k => R (G k))) 6).1 < 6 := ⟨fun w => w.2.2 rfl, fun w => ⟨fun w2 => absurd w2 (by omega), fun w2 => absurd w2 (by omega), fun _ => w⟩⟩
    have x0 : (nI 2 < (0 : Int32)) = False := by apply eq_false; decide
    have x2 : (nI 2 ≤ (2 : Int32)) = True := by apply eq_true; decide
    have x20 : (nI 2 = (0 : Int32)) = False := by apply eq_false; decide
    have x21 : (nI 2 = (1 : Int32)) = False := by apply eq_false; decide
    obtain ⟨f1, a1, -⟩ := s_conditions hP hB h (fr := frame) hG (by omega) (d := 2) (Or.inl rfl)
    have a1' : m_conditions (nI 2) (lN P) rows (nI 6) ga frame = some (nI (gj 6 (cnM 3 (fun k => R (G k))) 6).1, f1) := a1
    have hle := (gj_le 6 (cnM 3 (fun k => R (G k))) 6).1
    generalize (gj 6 (cnM 3 (fun k => R (G k))) 6).1 = r1 at a1' hle hsp
    clear a1
    by_cases h1 : 6 ≤ r1
    · have l1 := (nI_6le (show r1 < 2 ^ 31 by omega)).mpr h1
      refine ⟨f1, one, two, turned, fun w => absurd (hsp.mp w) (by omega), fun _ => ?_⟩
      unfold m_holds
      rw [if_neg (of_eq_false e23), if_neg (of_eq_false x0), if_pos (of_eq_true x2), if_pos (of_eq_true e66), if_neg (of_eq_false x20), if_neg (of_eq_false x21), ob a1', if_pos l1, if_pos rfl]
    · have l1 : ¬ (6 : Int32) ≤ nI r1 := fun w => h1 ((nI_6le (show r1 < 2 ^ 31 by omega)).mp w)
      refine ⟨f1, one, two, turned, fun _ => ?_, fun w => absurd (hsp.mpr (by omega)) w⟩
      unfold m_holds hT
      rw [if_neg (of_eq_false e23), if_neg (of_eq_false x0), if_pos (of_eq_true x2), if_pos (of_eq_true e66), if_neg (of_eq_false x20), if_neg (of_eq_false x21), ob a1', if_neg l1, if_neg (by decide)]
end HOLDSC
