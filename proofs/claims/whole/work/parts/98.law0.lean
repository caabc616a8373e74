/-! THE LAW: the state between two calls -/
section LAW0
/-- the reference's arrays of longs under another number of their kind -/
def to5 (x : Option cV) : Option cV := match x with
  | some (.inl (1, v)) => some (.inl (5, v))
  | x => x
theorem to5_E {G : gT} (h5 : gA G 5 = gA G 1) {x : Option cV} {v : cV} (h : to5 x = some v) : ∃ v', x = some v' ∧ aE G v' = aE G v := by
  unfold to5 at h
  split at h
  · cases h
    refine ⟨_, rfl, ?_⟩
    simp [aE, h5]
  · exact ⟨v, h, rfl⟩
theorem of5_E {G : gT} (h5 : gA G 5 = gA G 1) {x : Option cV} {v : cV} (h : x = some v) : ∃ v', to5 x = some v' ∧ aE G v' = aE G v := by
  subst h
  unfold to5
  split
  · next e =>
    cases e
    exact ⟨_, rfl, by simp [aE, h5]⟩
  · exact ⟨v, rfl, rfl⟩
def z5 (h0 : Nat) (hp : cH) : cH := fun a => if h0 ≤ a ∧ a < h0 + 12 then to5 (hp a) else hp a
theorem z5_in {h0 a : Nat} {hp : cH} (h1 : h0 ≤ a) (h2 : a < h0 + 12) : z5 h0 hp a = to5 (hp a) := by
  unfold z5
  rw [if_pos ⟨h1, h2⟩]
theorem z5_o {h0 a : Nat} {hp : cH} (h : a < h0 ∨ h0 + 12 ≤ a) : z5 h0 hp a = hp a := by
  unfold z5
  rw [if_neg (by omega)]
theorem io {h0 a : Nat} : (h0 ≤ a ∧ a < h0 + 12) ∨ (a < h0 ∨ h0 + 12 ≤ a) := by omega
theorem mw_o {h0 : Nat} {hp : cH} {n : Int32} {p : Int64} {count : Int32} {sorts : Nat → Int32} {rows : Nat → Int64} {hand : Nat → Int64} {gathered : Int32} {gather : Nat → Int32} {paired : Int32} {pairA : Nat → Int32} {pairB : Nat → Int32} {ideal : Int32} {draft : Nat → Int64} {frame : Nat → Int64} {one : Nat → Int64} {two : Nat → Int64} {turned : Nat → Int64} {placeI : Int32} {placeJ : Int32} {formA : Int64} {formB : Int64} {formC : Int64} {a : Nat} (h : a < h0 ∨ h0 + 12 ≤ a) : mw h0 hp n p count sorts rows hand gathered gather paired pairA pairB ideal draft frame one two turned placeI placeJ formA formB formC a = hp a := by
  unfold mw
  rw [if_neg (by omega), if_neg (by omega), if_neg (by omega), if_neg (by omega), if_neg (by omega), if_neg (by omega), if_neg (by omega), if_neg (by omega), if_neg (by omega), if_neg (by omega), if_neg (by omega), if_neg (by omega)]
theorem mw_i {h0 : Nat} {hp hp' : cH} {n : Int32} {p : Int64} {count : Int32} {sorts : Nat → Int32} {rows : Nat → Int64} {hand : Nat → Int64} {gathered : Int32} {gather : Nat → Int32} {paired : Int32} {pairA : Nat → Int32} {pairB : Nat → Int32} {ideal : Int32} {draft : Nat → Int64} {frame : Nat → Int64} {one : Nat → Int64} {two : Nat → Int64} {turned : Nat → Int64} {placeI : Int32} {placeJ : Int32} {formA : Int64} {formB : Int64} {formC : Int64} {a : Nat} (h1 : h0 ≤ a) (h2 : a < h0 + 12) : mw h0 hp n p count sorts rows hand gathered gather paired pairA pairB ideal draft frame one two turned placeI placeJ formA formB formC a = mw h0 hp' n p count sorts rows hand gathered gather paired pairA pairB ideal draft frame one two turned placeI placeJ formA formB formC a := by
  rcases (show a = h0 ∨ a = h0 + 1 ∨ a = h0 + 2 ∨ a = h0 + 3 ∨ a = h0 + 4 ∨ a = h0 + 5 ∨ a = h0 + 6 ∨ a = h0 + 7 ∨ a = h0 + 8 ∨ a = h0 + 9 ∨ a = h0 + 10 ∨ a = h0 + 11 by omega) with e | e | e | e | e | e | e | e | e | e | e | e <;> subst e <;> simp [mw]
theorem zw_o {h0 : Nat} {hp : cH} {n : Int32} {p : Int64} {count : Int32} {sorts : Nat → Int32} {rows : Nat → Int64} {hand : Nat → Int64} {gathered : Int32} {gather : Nat → Int32} {paired : Int32} {pairA : Nat → Int32} {pairB : Nat → Int32} {ideal : Int32} {draft : Nat → Int64} {frame : Nat → Int64} {one : Nat → Int64} {two : Nat → Int64} {turned : Nat → Int64} {placeI : Int32} {placeJ : Int32} {formA : Int64} {formB : Int64} {formC : Int64} {a : Nat} (h : a < h0 ∨ h0 + 12 ≤ a) : z5 h0 (mw h0 hp n p count sorts rows hand gathered gather paired pairA pairB ideal draft frame one two turned placeI placeJ formA formB formC) a = hp a := by rw [z5_o h, mw_o h]
/-- what lies where the reference is -/
def rng (h0 : Nat) (hp : cH) : Prop := ∀ b, h0 ≤ b → b < h0 + 12 → (∃ fs, hp b = some (.inr (6, fs))) ∨ (∃ x, hp b = some (.inl (0, x))) ∨ ∃ x, hp b = some (.inl (5, x))
theorem rng_mw {h0 : Nat} {hp : cH} {n : Int32} {p : Int64} {count : Int32} {sorts : Nat → Int32} {rows : Nat → Int64} {hand : Nat → Int64} {gathered : Int32} {gather : Nat → Int32} {paired : Int32} {pairA : Nat → Int32} {pairB : Nat → Int32} {ideal : Int32} {draft : Nat → Int64} {frame : Nat → Int64} {one : Nat → Int64} {two : Nat → Int64} {turned : Nat → Int64} {placeI : Int32} {placeJ : Int32} {formA : Int64} {formB : Int64} {formC : Int64} : rng h0 (z5 h0 (mw h0 hp n p count sorts rows hand gathered gather paired pairA pairB ideal draft frame one two turned placeI placeJ formA formB formC)) := by
  intro a h1 h2
  rcases (show a = h0 ∨ a = h0 + 1 ∨ a = h0 + 2 ∨ a = h0 + 3 ∨ a = h0 + 4 ∨ a = h0 + 5 ∨ a = h0 + 6 ∨ a = h0 + 7 ∨ a = h0 + 8 ∨ a = h0 + 9 ∨ a = h0 + 10 ∨ a = h0 + 11 by omega) with e | e | e | e | e | e | e | e | e | e | e | e <;> subst e <;> simp [z5, mw, to5]
theorem rng.k {h0 : Nat} {hp hp' : cH} (hr : rng h0 hp) (h : ∀ b, h0 ≤ b → b < h0 + 12 → hp' b = hp b) : rng h0 hp' := by
  intro b h1 h2
  rw [h b h1 h2]
  exact hr b h1 h2
def adr (h0 o : Nat) (ad : Nat → Nat) : Prop := o < h0 ∧ ad 0 < h0 ∧ ad 1 < h0 ∧ ad 2 < h0 ∧ ad 3 < h0 ∧ ad 4 < h0 ∧ ad 10 < h0
theorem cF.k {h0 o sz sz' : Nat} {ad : Nat → Nat} {hp hp' : cH} (h : cF ad o hp sz hp' sz') (had : adr h0 o ad) (hs : h0 + 12 ≤ sz) : ∀ b, h0 ≤ b → b < h0 + 12 → hp' b = hp b := by
  intro b h1 h2
  obtain ⟨a1, a2, a3, a4, a5, a6, a7⟩ := had
  exact h.1 b (by omega) (by omega) (by omega) (by omega) (by omega) (by omega) (by omega) (by omega)
/-- the class's state, where cells change only in the reference's range -/
theorem cS.out {P d : Nat} {hp hp' : cH} {sz h0 o : Nat} {ad im rw : Nat → Nat} {c : Nat} {S : Nat → Nat} {R : Nat → Nat → Fin P} {H : Nat → Fin P} {g : Nat} {Gs : Nat → Nat} {m : Nat} {pA pB : Nat → Nat} {id : Int32} (h : cS P d hp sz o ad im rw c S R H g Gs m pA pB id) (had : adr h0 o ad) (hr : rng h0 hp) (h6 : ∀ b, (b < h0 ∨ h0 + 12 ≤ b) → hp' b = hp b) : cS P d hp' sz o ad im rw c S R H g Gs m pA pB id := by
  obtain ⟨⟨k1, k1'⟩, ⟨k2, k2'⟩, ⟨⟨G0, k3, k3'⟩, k3''⟩, k4, k5, ⟨⟨⟨f, k6, k6'⟩, k6''⟩, ⟨⟨f2, k7, k7'⟩, k7''⟩, ⟨⟨f3, k8, k8'⟩, k8''⟩, k9⟩, k10, k11, k12, k13, k14⟩ := h
  obtain ⟨a1, a2, a3, a4, a5, a6, a7⟩ := had
  have low : ∀ b, b < h0 → hp' b = hp b := fun b hb => h6 b (Or.inl hb)
  have key : ∀ b x, hp b = some x → (∀ fs, x ≠ .inr (6, fs)) → (∀ y, x ≠ .inl (0, y)) → (∀ y, x ≠ .inl (5, y)) → hp' b = hp b := by
    intro b x hb n1 n2 n3
    rcases io (h0 := h0) (a := b) with q | q
    · exfalso
      rcases hr b q.1 q.2 with ⟨fs, e⟩ | ⟨y, e⟩ | ⟨y, e⟩
      · rw [hb] at e
        exact n1 fs (Option.some.inj e)
      · rw [hb] at e
        exact n2 y (Option.some.inj e)
      · rw [hb] at e
        exact n3 y (Option.some.inj e)
    · exact h6 b q
  refine ⟨⟨by rw [low _ a1]; exact k1, k1'⟩, ⟨by rw [low _ a2]; exact k2, k2'⟩, ⟨⟨G0, by rw [low _ a7]; exact k3, k3'⟩, k3''⟩, fun a ha => ?_, ⟨fa_of k5.1 (low _ a3), k5.2⟩, ⟨⟨⟨f, by rw [low _ a4]; exact k6, k6'⟩, k6''⟩, ⟨⟨f2, by rw [low _ a5]; exact k7, k7'⟩, k7''⟩, ⟨⟨f3, by rw [low _ a6]; exact k8, k8'⟩, k8''⟩, k9⟩, ?_, k11, k12, k13, k14⟩
  · obtain ⟨q1, q2, q3, q4, q5⟩ := k4 a ha
    obtain ⟨fr, q6⟩ := q3.cell
    exact ⟨by rw [key _ _ q1 (by simp) (by simp) (by simp)]; exact q1, q2, ⟨fa_of q3.1 (key _ _ q6 (by simp) (by simp) (by simp)), q3.2⟩, q4, q5⟩
  · obtain ⟨⟨e1, e2, e3⟩, e4, e5, e6⟩ := k10
    exact ⟨⟨by rw [key _ _ e1 (by simp) (by simp) (by simp)]; exact e1, by rw [key _ _ e2 (by simp) (by simp) (by simp)]; exact e2, by rw [key _ _ e3 (by simp) (by simp) (by simp)]; exact e3⟩, e4, e5, e6⟩
/-- the state between two calls: class (at o) and reference (at h0) hold the same -/
def IV (h0 o : Nat) (hp : cH) (sz : Nat) : Prop := ∃ (P d : Nat) (_ : NeZero P) (ad im rw : Nat → Nat) (c : Nat) (S : Nat → Nat) (R : Nat → Nat → Fin P) (H : Nat → Fin P) (g : Nat) (Gs : Nat → Nat) (m : Nat) (pA pB : Nat → Nat) (id : Int32) (hb : cH) (sorts : Nat → Int32) (rows hand : Nat → Int64) (ga qA qB : Nat → Int32) (draft frame one two turned : Nat → Int64) (pI pJ : Int32) (fA fB fC : Int64), hp = z5 h0 (mw h0 hb (nI d) (lN P) (nI c) sorts rows hand (nI g) ga (nI m) qA qB id draft frame one two turned pI pJ fA fB fC) ∧ isP P ∧ P % 2 = 1 ∧ P < 2 ^ 31 ∧ shf d c S R ∧ cS P d hp sz o ad im rw c S R H g Gs m pA pB id ∧ sK sorts S c ∧ rK c rows R ∧ vo hand 16 H ∧ pK c ga Gs g ∧ (∀ k, k < g → S (Gs k) = 0) ∧ pK c qA pA m ∧ (∀ k, k < m → S (pA k) = 0) ∧ pK c qB pB m ∧ (∀ k, k < m → S (pB k) = 0) ∧ m ≤ d + 2 ∧ (id = -1 ∨ ∃ e, e < c ∧ id = nI e ∧ S e = d - 1) ∧ adr h0 o ad ∧ h0 + 12 ≤ sz
theorem IV.mk {P d : Nat} {hp1 : cH} {sz1 o h0 : Nat} {ad im rw : Nat → Nat} {c : Nat} {S : Nat → Nat} {R : Nat → Nat → Fin P} {H : Nat → Fin P} {g : Nat} {Gs : Nat → Nat} {m : Nat} {pA pB : Nat → Nat} {id : Int32} {sorts : Nat → Int32} {rows hand : Nat → Int64} {ga qA qB : Nat → Int32} [NeZero P] (hp0 : isP P) (ho : P % 2 = 1) (hB : P < 2 ^ 31) (hI : shf d c S R) (hC : cS P d hp1 sz1 o ad im rw c S R H g Gs m pA pB id) (hS : sK sorts S c) (hK : rK c rows R) (hH : vo hand 16 H) (hG : pK c ga Gs g) (hG2 : ∀ k, k < g → S (Gs k) = 0) (hA : pK c qA pA m) (hA2 : ∀ k, k < m → S (pA k) = 0) (hBq : pK c qB pB m) (hB2 : ∀ k, k < m → S (pB k) = 0) (hm : m ≤ d + 2) (hid : (id = -1 ∨ ∃ e, e < c ∧ id = nI e ∧ S e = d - 1)) (had : adr h0 o ad) (hsz : h0 + 12 ≤ sz1) (hr : rng h0 hp1) (draft frame one two turned : Nat → Int64) (pI pJ : Int32) (fA fB fC : Int64) : IV h0 o (z5 h0 (mw h0 hp1 (nI d) (lN P) (nI c) sorts rows hand (nI g) ga (nI m) qA qB id draft frame one two turned pI pJ fA fB fC)) sz1 :=
  ⟨P, d, inferInstance, ad, im, rw, c, S, R, H, g, Gs, m, pA, pB, id, hp1, sorts, rows, hand, ga, qA, qB, draft, frame, one, two, turned, pI, pJ, fA, fB, fC, rfl, hp0, ho, hB, hI, hC.out had hr (fun _ hb => zw_o hb), hS, hK, hH, hG, hG2, hA, hA2, hBq, hB2, hm, hid, had, hsz⟩
/-- a row may have been kept -/
theorem IV.kp {P d : Nat} {hp1 : cH} {sz1 o h0 : Nat} {ad im rw : Nat → Nat} {c : Nat} {S : Nat → Nat} {R : Nat → Nat → Fin P} {H : Nat → Fin P} {g : Nat} {Gs : Nat → Nat} {m : Nat} {pA pB : Nat → Nat} {id : Int32} {sorts : Nat → Int32} {rows hand : Nat → Int64} {ga qA qB : Nat → Int32} {s' : Nat → Int32} {r' : Nat → Int64} {im1 rw1 : Nat → Nat} {m' : Nat} [NeZero P] {K : Int32 × Nat × (Nat → Nat) × (Nat → Nat → Fin P)} (hp0 : isP P) (ho : P % 2 = 1) (hB : P < 2 ^ 31) (he : ext d c S R K) (hC : cS P d hp1 sz1 o ad im1 rw1 K.2.1 K.2.2.1 K.2.2.2 H g Gs m' pA pB id) (hR : RO s' r' K) (hH : vo hand 16 H) (hG : pK c ga Gs g) (hG2 : ∀ k, k < g → S (Gs k) = 0) (hA : pK c qA pA m) (hA2 : ∀ k, k < m → S (pA k) = 0) (hBq : pK c qB pB m) (hB2 : ∀ k, k < m → S (pB k) = 0) (hm : m ≤ d + 2) (hm' : m' ≤ m) (hid : (id = -1 ∨ ∃ e, e < c ∧ id = nI e ∧ S e = d - 1)) (had : adr h0 o ad) (hsz : h0 + 12 ≤ sz1) (hr : rng h0 hp1) (draft frame one two turned : Nat → Int64) (pI pJ : Int32) (fA fB fC : Int64) : IV h0 o (z5 h0 (mw h0 hp1 (nI d) (lN P) (nI K.2.1) s' r' hand (nI g) ga (nI m') qA qB id draft frame one two turned pI pJ fA fB fC)) sz1 := by
  obtain ⟨e1, e2, e3, e4⟩ := he
  refine IV.mk hp0 ho hB e1 hC hR.1 hR.2 hH (fun k hk => ⟨(hG k hk).1, Nat.lt_of_lt_of_le (hG k hk).2 e2⟩) (fun k hk => ?_) (fun k hk => ⟨(hA k (by omega)).1, Nat.lt_of_lt_of_le (hA k (by omega)).2 e2⟩) (fun k hk => ?_) (fun k hk => ⟨(hBq k (by omega)).1, Nat.lt_of_lt_of_le (hBq k (by omega)).2 e2⟩) (fun k hk => ?_) (by omega) ?_ had hsz hr draft frame one two turned pI pJ fA fB fC
  · rw [(e4 _ (hG k hk).2).1]
    exact hG2 k hk
  · rw [(e4 _ (hA k (by omega)).2).1]
    exact hA2 k (by omega)
  · rw [(e4 _ (hBq k (by omega)).2).1]
    exact hB2 k (by omega)
  · rcases hid with q | ⟨e, q1, q2, q3⟩
    · exact Or.inl q
    · exact Or.inr ⟨e, by omega, q2, by rw [(e4 e q1).1]; exact q3⟩
section ROWS
variable {K : kT} {cc : ByteArray} {own mn : String} {fr lc mc ms nL : Nat} {ret : Option FieldType} {O : oT} {hp hp2 : cH} {sz rc rs pc : Nat} {lv : List (Nat × Value)} {st : List Value}
/-- the same heap, told otherwise -/
theorem r_cv (h : ∀ a v, hp2 a = some v → ∃ v', hp a = some v' ∧ aE K.1 v' = aE K.1 v) (kk : aW K hp2 sz rc rs pc lv st) : aW K hp sz rc rs pc lv st := by
  obtain ⟨G, p, e, R, s, m, args, below, meth, c, n, O'⟩ := K
  intro H locs cells slots ls h1 h2 h3 h4 h5
  refine kk H locs cells slots ls ⟨h1.1, h1.2.1, h1.2.2.1, fun a v hv => ?_⟩ h2 h3 h4 h5
  obtain ⟨v', e1, e2⟩ := h a v hv
  have := h1.2.2.2 a v' e1
  rw [e2] at this
  exact this
theorem cv1 {G : gT} (h5 : gA G 5 = gA G 1) {h0 : Nat} {hb hp1 : cH} {n : Int32} {p : Int64} {count : Int32} {sorts : Nat → Int32} {rows : Nat → Int64} {hand : Nat → Int64} {gathered : Int32} {gather : Nat → Int32} {paired : Int32} {pairA : Nat → Int32} {pairB : Nat → Int32} {ideal : Int32} {draft : Nat → Int64} {frame : Nat → Int64} {one : Nat → Int64} {two : Nat → Int64} {turned : Nat → Int64} {placeI : Int32} {placeJ : Int32} {formA : Int64} {formB : Int64} {formC : Int64} (hk : ∀ b, h0 ≤ b → b < h0 + 12 → hp1 b = z5 h0 (mw h0 hb n p count sorts rows hand gathered gather paired pairA pairB ideal draft frame one two turned placeI placeJ formA formB formC) b) : ∀ a v, mw h0 hp1 n p count sorts rows hand gathered gather paired pairA pairB ideal draft frame one two turned placeI placeJ formA formB formC a = some v → ∃ v', hp1 a = some v' ∧ aE G v' = aE G v := by
  intro a v hv
  rcases io (h0 := h0) (a := a) with q | q
  · rw [hk a q.1 q.2, z5_in q.1 q.2, mw_i (hp' := hp1) q.1 q.2]
    exact of5_E h5 hv
  · rw [mw_o q] at hv
    exact ⟨v, hv, rfl⟩
theorem cv2 {G : gT} (h5 : gA G 5 = gA G 1) {h0 : Nat} {hq : cH} : ∀ a v, z5 h0 hq a = some v → ∃ v', hq a = some v' ∧ aE G v' = aE G v := by
  intro a v hv
  rcases io (h0 := h0) (a := a) with q | q
  · rw [z5_in q.1 q.2] at hv
    exact to5_E h5 hv
  · rw [z5_o q] at hv
    exact ⟨v, hv, rfl⟩
/-- the script -/
theorem r_sld (C : aC K cc own mn fr lc mc ms nL ret O) {b L : Nat} {xs : Nat → Int32} {i : Int32} (hX : va_X b L xs K.1.2.1 K.1.2.1.heap) (hb : b < gB K.1) (hi : gi i L) (d : decode cc pc = .ok (.iaload, 1)) (kk : aW K hp sz rc rs (pc + 1) lv (.int (xs i.toNatClampNeg) :: st)) : aW K hp sz rc rs pc lv (.int i :: .ref b :: st) := by
  obtain ⟨G, p, e', R, s, m, args, below, meth, c, n', O'⟩ := K
  obtain ⟨c1, c2, c3, c4, c5, c6, c7, c8, c9, c10, c11, c12⟩ := C
  intro H locs cells slots ls h1 h2 h3 h4 h5
  obtain ⟨cell, g1, g2, g3, g4, g5⟩ := va_X.moved c6.2.1 hX
  exact W.iald (v := .int (xs i.toNatClampNeg)) c1 c2 (by rw [h1.2.2.1 b hb]; exact g1) g2 g3 (fun q => q.elim hi.1 (fun z => absurd hi.2 (by omega))) (g5 _ hi.2) rfl rfl d (kk H locs cells slots ls h1 h2 h3 h4 h5)
theorem r_slen (C : aC K cc own mn fr lc mc ms nL ret O) {b L : Nat} {xs : Nat → Int32} (hX : va_X b L xs K.1.2.1 K.1.2.1.heap) (hb : b < gB K.1) (d : decode cc pc = .ok (.arraylength, 1)) (kk : aW K hp sz rc rs (pc + 1) lv (.int (nI L) :: st)) : aW K hp sz rc rs pc lv (.ref b :: st) := by
  obtain ⟨G, p, e', R, s, m, args, below, meth, c, n', O'⟩ := K
  obtain ⟨c1, c2, c3, c4, c5, c6, c7, c8, c9, c10, c11, c12⟩ := C
  intro H locs cells slots ls h1 h2 h3 h4 h5
  obtain ⟨cell, g1, g2, g3, g4, g5⟩ := va_X.moved c6.2.1 hX
  exact W.alen (n := nI L) c1 c2 (by rw [h1.2.2.1 b hb]; exact g1) g2 (by rw [g4]; rfl) rfl rfl d (kk H locs cells slots ls h1 h2 h3 h4 h5)
end ROWS
/-- the law's frame -/
abbrev kL (G : gT) (p : Program) (e : Env) (s : State) (mi : MethodId) (b : Nat) (bl : List Frame) (mt : Method) (cd : Code) (O : oT) : kT := (G, p, e, room_1, s, mi, #[Value.ref b], bl, mt, cd, 4, O)
abbrev lL (b o h0 i : Nat) : List (Nat × Value) := [(0, .ref b), (1, .ref o), (2, .ref h0), (3, .int (nI i))]
def LX (G : gT) (p : Program) (e : Env) (s : State) (mi : MethodId) (b : Nat) (bl : List Frame) (mt : Method) (cd : Code) (mn : String) (L : Nat) (xs : Nat → Int32) : Prop := (∀ O, aC (kL G p e s mi b bl mt cd O) code RL mn 10 434 600000 7302250 4 (some .boolean) O) ∧ gA G 5 = gA G 1 ∧ va_X b L xs G.2.1 G.2.1.heap ∧ b < gB G ∧ L ≤ 3072
/-- an answer that both give: on with the next call -/
def NX (G : gT) (p : Program) (e : Env) (s : State) (mi : MethodId) (b : Nat) (bl : List Frame) (mt : Method) (cd : Code) (o h0 i rc rs pc : Nat) (hp : cH) (sz : Nat) : Prop := ∃ O : oT, O.1 = some (.int 1) ∧ aW (kL G p e s mi b bl mt cd O) hp sz rc rs pc (lL b o h0 i) []
def aJ2 (x y : Int32) : Int64 := (x.toInt64 <<< ((32 : Int32).toInt64 &&& 63)) ||| (y.toInt64 &&& 4294967295)
theorem clL_18 : Cond.constantLong RL 18 4294967295 ∈ lw_w := tq5 (List.mem_of_getElem? (i := 114) rfl) rfl
section ARGS
variable {G : gT} {p : Program} {e : Env} {s : State} {mi : MethodId} {b : Nat} {bl : List Frame} {mt : Method} {cd : Code} {mn : String} {L : Nat} {xs : Nat → Int32} {O : oT} {hp : cH} {sz rc rs pc : Nat} {st : List Value} {o h0 i : Nat}
theorem l_arg (hx : LX G p e s mi b bl mt cd mn L xs) (hi : i + 6 ≤ L) (k : Nat) {kk : Int} (hk : k < 6) (hkk : Int32.ofInt kk = nI k) (d0 : decode code pc = .ok (.aload_n 0, 1)) (d1 : decode code (pc + 1) = .ok (.iload_n 3, 1)) (d2 : decode code (pc + 1 + 1) = .ok (.iconst kk, 1)) (d3 : decode code (pc + 1 + 1 + 1) = .ok (.iadd, 1)) (d4 : decode code (pc + 1 + 1 + 1 + 1) = .ok (.iaload, 1)) (w : aW (kL G p e s mi b bl mt cd O) hp sz rc rs (pc + 1 + 1 + 1 + 1 + 1) (lL b o h0 i) (.int (xs (i + k)) :: st)) : aW (kL G p e s mi b bl mt cd O) hp sz rc rs pc (lL b o h0 i) st := by
  obtain ⟨hc, h5, hX, hb, hL⟩ := hx
  have C := hc O
  refine r_aload_n C 0 rfl d0 rfl ?_
  refine r_iload_n C 3 rfl d1 rfl ?_
  refine r_iconst C (v := nI k) d2 hkk ?_
  refine r_iadd C d3 ?_
  rw [nI_add]
  refine r_sld C hX hb (gi_nI (show i + k < L by omega) (by omega)) d4 ?_
  rw [nI_clamp (show i + k < 2 ^ 31 by omega)]
  exact w
theorem l_argJ (hx : LX G p e s mi b bl mt cd mn L xs) (hi : i + 6 ≤ L) (k j : Nat) {kk jj : Int} (hk : k < 6) (hkk : Int32.ofInt kk = nI k) (hj : j < 6) (hjj : Int32.ofInt jj = nI j) (d0 : decode code pc = .ok (.aload_n 0, 1)) (d1 : decode code (pc + 1) = .ok (.iload_n 3, 1)) (d2 : decode code (pc + 1 + 1) = .ok (.iconst kk, 1)) (d3 : decode code (pc + 1 + 1 + 1) = .ok (.iadd, 1)) (d4 : decode code (pc + 1 + 1 + 1 + 1) = .ok (.iaload, 1)) (d5 : decode code (pc + 1 + 1 + 1 + 1 + 1) = .ok (.i2l, 1)) (d6 : decode code (pc + 1 + 1 + 1 + 1 + 1 + 1) = .ok (.bipush 32, 2)) (d7 : decode code (pc + 1 + 1 + 1 + 1 + 1 + 1 + 2) = .ok (.lshl, 1)) (f0 : decode code (pc + 1 + 1 + 1 + 1 + 1 + 1 + 2 + 1) = .ok (.aload_n 0, 1)) (f1 : decode code (pc + 1 + 1 + 1 + 1 + 1 + 1 + 2 + 1 + 1) = .ok (.iload_n 3, 1)) (f2 : decode code (pc + 1 + 1 + 1 + 1 + 1 + 1 + 2 + 1 + 1 + 1) = .ok (.iconst jj, 1)) (f3 : decode code (pc + 1 + 1 + 1 + 1 + 1 + 1 + 2 + 1 + 1 + 1 + 1) = .ok (.iadd, 1)) (f4 : decode code (pc + 1 + 1 + 1 + 1 + 1 + 1 + 2 + 1 + 1 + 1 + 1 + 1) = .ok (.iaload, 1)) (f5 : decode code (pc + 1 + 1 + 1 + 1 + 1 + 1 + 2 + 1 + 1 + 1 + 1 + 1 + 1) = .ok (.i2l, 1)) (f6 : decode code (pc + 1 + 1 + 1 + 1 + 1 + 1 + 2 + 1 + 1 + 1 + 1 + 1 + 1 + 1) = .ok (.ldc2_w 18, 3)) (f7 : decode code (pc + 1 + 1 + 1 + 1 + 1 + 1 + 2 + 1 + 1 + 1 + 1 + 1 + 1 + 1 + 3) = .ok (.land, 1)) (f8 : decode code (pc + 1 + 1 + 1 + 1 + 1 + 1 + 2 + 1 + 1 + 1 + 1 + 1 + 1 + 1 + 3 + 1) = .ok (.lor, 1)) (w : aW (kL G p e s mi b bl mt cd O) hp sz rc rs (pc + 1 + 1 + 1 + 1 + 1 + 1 + 2 + 1 + 1 + 1 + 1 + 1 + 1 + 1 + 3 + 1 + 1) (lL b o h0 i) (.long (aJ2 (xs (i + k)) (xs (i + j))) :: st)) : aW (kL G p e s mi b bl mt cd O) hp sz rc rs pc (lL b o h0 i) st := by
  have C := hx.1 O
  refine l_arg hx hi k hk hkk d0 d1 d2 d3 d4 ?_
  refine r_i2l C d5 ?_
  refine r_bipush C (v := 32) d6 (by decide) ?_
  refine r_lshl C d7 ?_
  refine l_arg hx hi j hj hjj f0 f1 f2 f3 f4 ?_
  refine r_i2l C f5 ?_
  refine r_ldc2 C clL_18 f6 ?_
  refine r_land C f7 ?_
  refine r_lor C f8 ?_
  exact w
end ARGS
end LAW0
