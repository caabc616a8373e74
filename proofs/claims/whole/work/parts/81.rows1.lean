section ROWS1
variable {P : Nat} {d sz o : Nat} {hp : cH} {ad im rw : Nat → Nat} {c : Nat} {S : Nat → Nat} {R : Nat → Nat → Fin P} {H : Nat → Fin P} {g : Nat} {Gs : Nat → Nat} {m : Nat} {pA pB : Nat → Nat} {id : Int32}
theorem sRo_n {hp : cH} {a n k : Nat} {G : Nat → Option Nat} (h : hp a = some (.inl (3, n, .inr (.inr (.inr (.inr G)))))) (hk : k < n) (hn : n < 2 ^ 31) : ∃ hp', sRo 3 hp a (nI k) none = some hp' ∧ lR 3 hp' a (nI k) = some none ∧ oth hp hp' (fun b => b = a) := by
  refine ⟨va_up hp a (some (.inl (3, n, .inr (.inr (.inr (.inr (va_up G k none))))))), ?_, ?_, fun b hb => ?_⟩
  · unfold sRo aR
    rw [h]
    show (if gi (nI k) n then _ else none) = _
    rw [if_pos (gi_nI hk hn), nI_clamp (by omega)]
  · rw [lR_c (G := va_up G k none) (by simp [va_up]) hk hn]
    simp [va_up]
  · have : ¬ b = a := hb
    simp [va_up, this]
theorem lI_of {hp : cH} {a n k : Nat} {f : Nat → Int32} (h : hp a = some (.inl (0, n, .inl f))) (hk : k < n) (hn : n < 2 ^ 31) : lI hp a (nI k) = some (f k) := by
  unfold lI aI
  rw [h]
  show (if gi (nI k) n then some _ else none) = _
  rw [if_pos (gi_nI hk hn), nI_clamp (by omega)]
theorem aN_i {hp : cH} {a n : Nat} {f : Nat → Int32} (h : hp a = some (.inl (0, n, .inl f))) : aN hp a = some (nI n) := by
  unfold aN
  rw [h]
  rfl
/-- the rows of objects of one sort that may be asked together -/
theorem c_rows1 (hC : cS P d hp sz o ad im rw c S R H g Gs m pA pB id) {q n : Nat} {f : Nat → Int32} {ix : Nat → Nat} (hq : hp q = some (.inl (0, n, .inl f))) (hqs : q < sz) (hn0 : 0 < n) (hn : n ≤ 4) (hix : ∀ k, k < n → ∀ a, a < c → f k = nI a → ix k = a) : ((∃ t, (t = 0 ∨ t = d - 1) ∧ ∀ k, k < n → ix k < c ∧ f k = nI (ix k) ∧ S (ix k) = t) → ∃ r hp' sz' A, f_X5_rowsOfOneSort hp sz o q = some (some r, hp', sz') ∧ gP hp' sz' r n (d + 1) A (fun k => R (ix k)) ∧ gro hp sz hp' sz') ∧ ((¬ ∃ t, (t = 0 ∨ t = d - 1) ∧ ∀ k, k < n → ix k < c ∧ f k = nI (ix k) ∧ S (ix k) = t) → ∃ hp' sz', f_X5_rowsOfOneSort hp sz o q = some (none, hp', sz') ∧ gro hp sz hp' sz') := by
  have hle := hC.le
  have hd := hC.hd
  have l0 := hC.r0
  have i6 := hC.i6
  have f0 : lI hp q 0 = some (f 0) := lI_of hq hn0 (by omega)
  rcases ix_cl c hle (f 0) with ⟨a, ha, e0⟩ | hx
  · have w1 := hC.item ha
    have t1 := hC.t ha
    have hi0 := hix 0 hn0 a ha e0
    by_cases hs : S a = 0 ∨ S a = d - 1
    · have hwd : wd d (S a) = d + 1 := by rcases hs with z | z <;> rw [z]; rfl; exact wdf hd
      have len := aN_i hq
      obtain ⟨hp1, b1, b2⟩ := bP.nw (hp := hp) (sz := sz) (n := n) (w := d + 1) (X := fun k => R (ix k)) (by omega)
      have loop : ∀ u k (hp2 : cH), k + u = n → bP hp sz hp2 (sz + 1) sz n k (d + 1) (fun k => R (ix k)) → ((∀ j, k ≤ j → j < n → ix j < c ∧ f j = nI (ix j) ∧ S (ix j) = S a) → ∃ hp3, itX (fun s => f_X5_rowsOfOneSort_L44 (sz + 1) o q (im a) sz s.1 s.2) (nI k, hp2) = some (.inl hp3) ∧ bP hp sz hp3 (sz + 1) sz n n (d + 1) (fun k => R (ix k))) ∧ ((¬ ∀ j, k ≤ j → j < n → ix j < c ∧ f j = nI (ix j) ∧ S (ix j) = S a) → ∃ hp3, itX (fun s => f_X5_rowsOfOneSort_L44 (sz + 1) o q (im a) sz s.1 s.2) (nI k, hp2) = some (.inr (none, hp3, sz + 1)) ∧ gro hp sz hp3 (sz + 1)) := by
        intro u
        induction u with
        | zero =>
          intro k hp2 hk hb
          have ek : k = n := by omega
          subst ek
          have h2 := hC.gg hb.gr
          have len2 : aN hp2 q = some (nI k) := aN_i (by rw [hb.gr.1 q (by omega)]; exact hq)
          refine ⟨fun _ => ⟨hp2, ?_, hb⟩, fun z => absurd (fun j h1 h2 => by omega) z⟩
          apply itX_stop
          (try dsimp only)
          unfold f_X5_rowsOfOneSort_L44
          rw [ob len2, if_pos (nI_le (Nat.le_refl k) (by omega))]
        | succ u ih =>
          intro k hp2 hk hb
          have h2 := hC.gg hb.gr
          have hq2 : hp2 q = some (.inl (0, n, .inl f)) := by rw [hb.gr.1 q (by omega)]; exact hq
          have len2 := aN_i hq2
          have lk := lI_of hq2 (show k < n by omega) (by omega)
          have l02 := h2.r0
          have t2 := h2.t ha
          have lt : ¬ nI n ≤ nI k := nI_ge (by omega) (by omega)
          by_cases hk2 : ix k < c ∧ f k = nI (ix k) ∧ S (ix k) = S a
          · obtain ⟨k1, k2, k3⟩ := hk2
            have vk := h2.v k1
            rw [k3, hwd] at vk
            obtain ⟨hp3, p1, p2, p3, p4, -⟩ := hb.put (show k < n by omega) (by omega) vk
            have wr : f_X3_row hp2 (ad 0) (f k) (nI (S a)) = some (some (rw (ix k))) := by rw [k2]; exact h2.row k1 k3
            have p1' : sRo 3 hp2 sz (nI k) (some (rw (ix k))) = some hp3 := p1
            have st : f_X5_rowsOfOneSort_L44 (sz + 1) o q (im a) sz (nI k) hp2 = some (.inl (nI (k + 1), hp3)) := by
              unfold f_X5_rowsOfOneSort_L44
              simp only [↓ob len2, lt, ↓ob l02, ↓ob lk, ↓ob t2, h2.o3, ↓ob wr, ↓ob p1', ↓ob p4, ↓Option.elim_some, ↓reduceIte]
              rw [show (1 : Int32) = nI 1 from rfl, nI_add]
            obtain ⟨i1, i2⟩ := ih (k + 1) hp3 (by omega) p2
            refine ⟨fun z => ?_, fun z => ?_⟩
            · obtain ⟨hp4, z1, z2⟩ := i1 (fun j h1 h3 => z j (by omega) h3)
              exact ⟨hp4, by rw [itX_step (s' := (nI (k + 1), hp3)), z1]; exact st, z2⟩
            · obtain ⟨hp4, z1, z2⟩ := i2 (fun w => z (fun j h1 h3 => by
                by_cases e : j = k
                · rw [e]
                  exact ⟨k1, k2, k3⟩
                · exact w j (by omega) h3))
              exact ⟨hp4, by rw [itX_step (s' := (nI (k + 1), hp3)), z1]; exact st, z2⟩
          · refine ⟨fun z => absurd (z k (Nat.le_refl k) (by omega)) hk2, fun _ => ?_⟩
            have wr : f_X3_row hp2 (ad 0) (f k) (nI (S a)) = some none := h2.rowQ (hC.s5 ha) (fun b hb2 e hS2 => hk2 (by
              have := hix k (by omega) b hb2 e
              rw [this]
              exact ⟨hb2, e, hS2⟩))
            have hbg := hb.gr
            obtain ⟨-, -, hsz3, A, G, hG, -⟩ := hb
            obtain ⟨hp3, p1, p2, p3⟩ := sRo_n hG (show k < n by omega) (by omega)
            refine ⟨hp3, ?_, hbg.st p3 (Nat.le_refl _)⟩
            apply itX_stop
            (try dsimp only)
            unfold f_X5_rowsOfOneSort_L44
            simp only [↓ob len2, lt, ↓ob l02, ↓ob lk, ↓ob t2, h2.o3, ↓ob wr, ↓ob p1, ↓ob p2, ↓Option.elim_none, ↓reduceIte]
      obtain ⟨i1, i2⟩ := loop n 0 hp1 (by omega) b2
      have redJ : ∀ v, f_X5_rowsOfOneSort_J35 hp sz 1 o q (im a) = some v → f_X5_rowsOfOneSort hp sz o q = some v := by
        intro v hJ
        unfold f_X5_rowsOfOneSort
        have w1' : f_X3_item hp (ad 0) (f 0) = some (some (im a)) := by rw [e0]; exact w1
        by_cases z0 : S a = 0
        · have t0 : (nI (S a) = (0 : Int32)) = True := by rw [z0]; simp; rfl
          simp only [↓ob l0, ↓ob f0, hC.o3, ↓ob w1', ↓Option.elim_some, ↓ob t1, t0, ↓reduceIte]
          exact hJ
        · have t0 : (nI (S a) = (0 : Int32)) = False := n_ne (b := 0) z0 (by have := hC.s5 ha; omega) (by omega)
          have tf : (nI (S a) = nI (d - 1)) = True := by rw [show S a = d - 1 by omega]; simp
          simp only [↓ob l0, ↓ob f0, hC.o3, ↓ob w1', ↓Option.elim_some, ↓ob t1, t0, ↓ob i6, tf, ↓reduceIte]
          exact hJ
      have redL : ∀ hp3, itX (fun s => f_X5_rowsOfOneSort_L44 (sz + 1) o q (im a) sz s.1 s.2) (0, hp1) = some (.inl hp3) → f_X5_rowsOfOneSort hp sz o q = some (some sz, hp3, sz + 1) := by
        intro hp3 hx
        refine redJ _ ?_
        unfold f_X5_rowsOfOneSort_J35
        simp only [↓ob len, Nat.le_refl, ↓ob b1, ↓ob hx, ↓reduceIte]
      have redR : ∀ v, itX (fun s => f_X5_rowsOfOneSort_L44 (sz + 1) o q (im a) sz s.1 s.2) (0, hp1) = some (.inr v) → f_X5_rowsOfOneSort hp sz o q = some v := by
        intro v hx
        refine redJ _ ?_
        unfold f_X5_rowsOfOneSort_J35
        simp only [↓ob len, Nat.le_refl, ↓ob b1, ↓ob hx, ↓reduceIte]
      refine ⟨fun h => ?_, fun h => ?_⟩
      · obtain ⟨t, ht, hall⟩ := h
        have hta : t = S a := by rw [← (hall 0 hn0).2.2, hi0]
        subst hta
        obtain ⟨hp3, z1, z2⟩ := i1 (fun j _ h2 => hall j h2)
        obtain ⟨A, z3⟩ := z2.all
        exact ⟨sz, hp3, sz + 1, A, redL _ z1, z3, z2.gr⟩
      · obtain ⟨hp3, z1, z2⟩ := i2 (fun w => h ⟨S a, hs, fun k hk => w k (by omega) hk⟩)
        exact ⟨hp3, sz + 1, redR _ z1, z2⟩
    · refine ⟨fun h => ?_, fun _ => ⟨hp, sz, ?_, gro.rf⟩⟩
      · obtain ⟨t, ht, hall⟩ := h
        have := (hall 0 hn0).2.2
        rw [hi0] at this
        exact absurd (by omega) hs
      · have w1' : f_X3_item hp (ad 0) (f 0) = some (some (im a)) := by rw [e0]; exact w1
        have s5 := hC.s5 ha
        have t0 : (nI (S a) = (0 : Int32)) = False := n_ne (b := 0) (by omega) (by omega) (by omega)
        have tf : (nI (S a) = nI (d - 1)) = False := n_ne (by omega) (by omega) (by omega)
        unfold f_X5_rowsOfOneSort
        simp only [↓ob l0, ↓ob f0, hC.o3, ↓ob w1', ↓Option.elim_some, ↓ob t1, t0, ↓ob i6, tf, ↓reduceIte]
  · have w1 := hC.itemX hx
    refine ⟨fun h => ?_, fun _ => ⟨hp, sz, ?_, gro.rf⟩⟩
    · obtain ⟨t, ht, hall⟩ := h
      obtain ⟨h1, h2, -⟩ := hall 0 hn0
      rw [h2] at hx
      rcases hx with z | z
      · exact absurd z (nI_pos (by omega))
      · exact absurd z (nI_ge h1 (by omega))
    · unfold f_X5_rowsOfOneSort
      simp only [↓ob l0, ↓ob f0, hC.o3, ↓ob w1, ↓Option.elim_none, ↓reduceIte]
theorem r_areOne (hS' : ∀ a, a < c → S a < 5) (hc : c ≤ 60) (hd : d = 2 ∨ d = 3) {sorts : Nat → Int32} (hS : sK sorts S c) (x1 x2 : Int32) : ((∃ a b, a < c ∧ b < c ∧ x1 = nI a ∧ x2 = nI b ∧ S a = S b ∧ (S a = 0 ∨ S a = d - 1)) → m_areOne (nI d) (nI c) sorts x1 x2 = some (nI 1)) ∧ ((¬ ∃ a b, a < c ∧ b < c ∧ x1 = nI a ∧ x2 = nI b ∧ S a = S b ∧ (S a = 0 ∨ S a = d - 1)) → m_areOne (nI d) (nI c) sorts x1 x2 = some (nI 0)) := by
  rcases ix_cl c hc x1 with ⟨a, ha, rfl⟩ | hx1
  · have oa := r_obj (x := 0) hc ha
    rcases ix_cl c hc x2 with ⟨b, hb, rfl⟩ | hx2
    · have ob' := r_obj (x := 0) hc hb
      have ga := gi_nI (show a < 60 by omega) (show 60 < 2 ^ 31 by omega)
      have gb := gi_nI (show b < 60 by omega) (show 60 < 2 ^ 31 by omega)
      have ca := nI_clamp (show a < 2 ^ 31 by omega)
      have cb := nI_clamp (show b < 2 ^ 31 by omega)
      have sa := hS' a ha
      have sb := hS' b hb
      have ea := (hS a ha).1
      have eb := (hS b hb).1
      have inj : ∀ u v, u < c → v < c → nI u = nI v → u = v := fun u v hu hv q => (nI_eq (by omega) (by omega)).mp q
      have key : ∀ v, v = (if S a = S b ∧ (S a = 0 ∨ S a = d - 1) then 1 else 0) → m_areOne (nI d) (nI c) sorts (nI a) (nI b) = some (nI v) := by
        intro v hv
        unfold m_areOne
        by_cases e : S a = S b
        · have e1 : (nI (S a) = nI (S b)) = True := by rw [e]; simp
          by_cases z0 : S a = 0
          · have t0 : (nI (S a) = (0 : Int32)) = True := by rw [z0]; simp; rfl
            rw [if_pos ⟨e, Or.inl z0⟩] at hv
            subst hv
            simp only [↓ob oa, ↓ob ob', n10, if_pos ga, if_pos gb, ca, cb, ea, eb, e1, t0, ↓reduceIte]
            rfl
          · have t0 : (nI (S a) = (0 : Int32)) = False := n_ne (b := 0) z0 (by omega) (by omega)
            rcases hd with rfl | rfl
            · by_cases z1 : S a = 1
              · have t1 : (nI (S a) = (1 : Int32)) = True := by rw [z1]; simp; rfl
                rw [if_pos ⟨e, Or.inr z1⟩] at hv
                subst hv
                simp only [↓ob oa, ↓ob ob', n10, if_pos ga, if_pos gb, ca, cb, ea, eb, e1, t0, d22, t1, ↓reduceIte]
                rfl
              · have t1 : (nI (S a) = (1 : Int32)) = False := n_ne (b := 1) z1 (by omega) (by omega)
                rw [if_neg (fun w => by omega)] at hv
                subst hv
                simp only [↓ob oa, ↓ob ob', n10, if_pos ga, if_pos gb, ca, cb, ea, eb, e1, t0, d22, t1, ↓reduceIte]
                rfl
            · by_cases z1 : S a = 2
              · have t1 : (nI (S a) = (2 : Int32)) = True := by rw [z1]; simp; rfl
                rw [if_pos ⟨e, Or.inr z1⟩] at hv
                subst hv
                simp only [↓ob oa, ↓ob ob', n10, if_pos ga, if_pos gb, ca, cb, ea, eb, e1, t0, d23, t1, ↓reduceIte]
                rfl
              · have t1 : (nI (S a) = (2 : Int32)) = False := n_ne (b := 2) z1 (by omega) (by omega)
                rw [if_neg (fun w => by omega)] at hv
                subst hv
                simp only [↓ob oa, ↓ob ob', n10, if_pos ga, if_pos gb, ca, cb, ea, eb, e1, t0, d23, t1, ↓reduceIte]
                rfl
        · have e1 : (nI (S a) = nI (S b)) = False := n_ne e (by omega) (by omega)
          rw [if_neg (fun w => e w.1)] at hv
          subst hv
          simp only [↓ob oa, ↓ob ob', n10, if_pos ga, if_pos gb, ca, cb, ea, eb, e1, ↓reduceIte]
          rfl
      refine ⟨fun h => ?_, fun h => ?_⟩
      · obtain ⟨a', b', h1, h2, h3, h4, h5⟩ := h
        rw [← inj a a' ha h1 h3, ← inj b b' hb h2 h4] at h5
        exact key 1 (if_pos h5).symm
      · exact key 0 (if_neg (fun w => h ⟨a, b, ha, hb, rfl, rfl, w⟩)).symm
    · have ob' := r_objX hx2
      refine ⟨fun h => ?_, fun _ => ?_⟩
      · obtain ⟨a', b', h1, h2, h3, rfl, h5⟩ := h
        rcases hx2 with z | z
        · exact absurd z (nI_pos (by omega))
        · exact absurd z (nI_ge h2 (by omega))
      · unfold m_areOne
        simp only [↓ob oa, ↓ob ob', n10, n00, ↓reduceIte]
        rfl
  · have oa := r_objX hx1
    refine ⟨fun h => ?_, fun _ => ?_⟩
    · obtain ⟨a', b', h1, h2, rfl, h5⟩ := h
      rcases hx1 with z | z
      · exact absurd z (nI_pos (by omega))
      · exact absurd z (nI_ge h1 (by omega))
    · unfold m_areOne
      simp only [↓ob oa, n00, ↓reduceIte]
      rfl
end ROWS1
