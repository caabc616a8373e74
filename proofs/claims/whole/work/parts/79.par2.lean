section PAR2
variable {P : Nat} {d sz o : Nat} {hp : cH} {ad im rw : Nat → Nat} {c : Nat} {S : Nat → Nat} {R : Nat → Nat → Fin P} {H : Nat → Fin P} {g : Nat} {Gs : Nat → Nat} {m : Nat} {pA pB : Nat → Nat} {id : Int32}
theorem sF_scl [NeZero P] (hp0 : isP P) {x y z : Nat → Fin P} {l : Fin P} (hl : l ≠ 0) {n : Nat} (h : ∀ j, j < n → y j = l * x j) : (sF (fun k => y k * z k) n = 0) ↔ (sF (fun k => x k * z k) n = 0) := by
  have e : sF (fun k => y k * z k) n = l * sF (fun k => x k * z k) n := by
    rw [← sF_mul]
    refine sF_congr n (fun k hk => ?_)
    (try dsimp only)
    rw [h k hk]
    grind
  rw [e]
  exact ⟨fun q => (nz_mul hp0 q).elim (fun w => absurd w hl) (fun w => w), fun q => by rw [q]; grind⟩
/-- what is common is far: both, for two different objects that may be asked -/
theorem mf_both (hp0 : isP P) (ho : P % 2 = 1) [NeZero P] (hB : P < 2 ^ 31) (hI : shf d c S R) (hC : cS P d hp sz o ad im rw c S R H g Gs m pA pB id) {sorts : Nat → Int32} {rows : Nat → Int64} (hS : sK sorts S c) (hK : rK c rows R) {a b e x y : Nat} (ha : a < c) (hb : b < c) (he' : e < c) (hab : a ≠ b) (hx : x = if S b < S a then b else a) (hy : y = if S b < S a then a else b) (qa : 1 ≤ S a ∧ S a ≤ d - 1) (qb : 1 ≤ S b ∧ S b ≤ d - 1) (se : S e = d - 1) (draft frame one two turned : Nat → Int64) {hp1 : cH} {sz1 : Nat} (hg : gro hp sz hp1 sz1) {l3 : Int32} (hl3 : l3 = if S a = 1 ∧ S b = 1 then 1 else 0) : ∃ (v : Nat) (hp' : cH) (sz' : Nat) (dr fr o1 t1 u1 : Nat → Int64), (v = 0 ∨ v = 1) ∧ f_X5_meetFar hp1 sz1 o (im x) (im y) (rw e) = some (nI v, hp', sz') ∧ gro hp1 sz1 hp' sz' ∧ ((m_both (nI d) (lN P) (nI c) sorts rows draft frame one two turned (nI a) (nI b)).bind fun r4 => if 0 ≤ r4.1 then ((m_isIdeal (nI d) (lN P) rows (nI e) r4.2.1 r4.1).bind fun r5 => if r5 = 0 then (some ((0 : Int32), r4.2.1, r4.2.2.1, r4.2.2.2.1, r4.2.2.2.2.1, r4.2.2.2.2.2)) else (some ((1 : Int32), r4.2.1, r4.2.2.1, r4.2.2.2.1, r4.2.2.2.2.1, r4.2.2.2.2.2))) else (if l3 = 0 then (some ((1 : Int32), r4.2.1, r4.2.2.1, r4.2.2.2.1, r4.2.2.2.2.1, r4.2.2.2.2.2)) else (some ((0 : Int32), r4.2.1, r4.2.2.1, r4.2.2.2.1, r4.2.2.2.2.1, r4.2.2.2.2.2)))) = some (nI v, dr, fr, o1, t1, u1) := by
  have hP := hp0.1
  have hle := hC.le
  have hd := hC.hd
  have hw := hC.hw
  have h1 := hC.gg hg
  have he := h1.e
  have r8 := h1.r8
  have r9 := h1.r9
  have i5 := h1.i5
  have i6 := h1.i6
  have ve := h1.v he'
  rw [se, wdf hd] at ve
  have va := h1.v ha
  have vb := h1.v hb
  have ta := h1.t ha
  have tb := h1.t hb
  have ra := h1.r ha
  have rb := h1.r hb
  have na := (hI.1 a ha).1
  have nb := (hI.1 b hb).1
  have ka := (hI.1 a ha).2
  have kb := (hI.1 b hb).2
  have ng1 : ¬ (0 : Int32) ≤ -1 := by decide
  have ps0 : (0 : Int32) ≤ nI 0 := by decide
  have ps1 : (0 : Int32) ≤ nI 1 := by decide
  by_cases hff : S a = d - 1 ∧ S b = d - 1
  · obtain ⟨fa1, fb1⟩ := hff
    rw [if_neg (by omega)] at hx hy
    subst hx
    subst hy
    rw [fa1, wdf hd] at va na
    rw [fb1, wdf hd] at vb nb
    have tf : (nI (S x) = nI (d - 1)) = True := by rw [fa1]; simp
    obtain ⟨q, hp2, sz2, a1, a2, a3⟩ := e_crossing hP hB he hw va vb
    have he2 := he.g a3
    have h2 := h1.gg a3
    have i52 := h2.i5
    have r82 := h2.r8
    have r92 := h2.r9
    obtain ⟨dr, o1, t1, e1, e2⟩ := rb_flat hp0 hB hd hS hK ha hb fa1 fb1 draft frame one two turned
    rw [if_neg hab] at e2
    rw [ob e2]
    rcases hd with rfl | rfl
    · have dc := e_dot hP hB he2 (n := 3) (by omega) a2 (ve.g a3)
      have hi := s_isIdealP hP hB hK he' (d := 2) (Or.inl rfl) e1
      have hi' : m_isIdeal (nI 2) (lN P) rows (nI e) dr (nI (2 - 2)) = _ := hi
      by_cases z : sF (fun k => flF (swi 3 3) (wgF 3 (R x) (R y)) k * R e k) 3 = 0
      · have hi2 : m_isIdeal (nI 2) (lN P) rows (nI e) dr (nI (2 - 2)) = some 1 := by rw [hi']; exact congrArg some (if_pos z)
        have dc2 : f_X2_dot hp2 (ad 8) q (rw e) = some (fL (0 : Fin P)) := by rw [dc]; exact congrArg (fun w => some (fL w)) z
        refine ⟨1, hp2, sz2, dr, frame, o1, t1, turned, Or.inr rfl, ?_, a3, ?_⟩
        · unfold f_X5_meetFar
          simp only [↓ob ta, ↓ob i6, tf, ↓ob r9, ↓ob ra, ↓ob rb, he.o4, ↓ob a1, ↓ob i52, d22, ↓ob r82, he2.o2, ↓ob dc2, lz64 (P := P), ↓reduceIte]
          rfl
        · have psd : (0 : Int32) ≤ nI (2 - 2) := by decide
          simp only [psd, ↓ob hi2, z10, ↓reduceIte]
          rfl
      · have hi2 : m_isIdeal (nI 2) (lN P) rows (nI e) dr (nI (2 - 2)) = some 0 := by rw [hi']; exact congrArg some (if_neg z)
        have fz : ¬ fL (sF (fun k => flF (swi 3 3) (wgF 3 (R x) (R y)) k * R e k) 3) = 0 := fun w => z ((fL_0 hB).mp w)
        have dc2 : f_X2_dot hp2 (ad 8) q (rw e) = some (fL (sF (fun k => flF (swi 3 3) (wgF 3 (R x) (R y)) k * R e k) 3)) := dc
        refine ⟨0, hp2, sz2, dr, frame, o1, t1, turned, Or.inl rfl, ?_, a3, ?_⟩
        · unfold f_X5_meetFar
          simp only [↓ob ta, ↓ob i6, tf, ↓ob r9, ↓ob ra, ↓ob rb, he.o4, ↓ob a1, ↓ob i52, d22, ↓ob r82, he2.o2, ↓ob dc2, fz, ↓reduceIte]
          rfl
        · have psd : (0 : Int32) ≤ nI (2 - 2) := by decide
          simp only [psd, ↓ob hi2, ↓reduceIte]
          rfl
    · obtain ⟨hp3, sz3, f1, f3⟩ := e_lineIsOnPlane hP hB he2 hw a2 (ve.g a3)
      have hi := s_isIdealL hP hB hK he' (d := 3) (show vo dr 6 _ from e1)
      have eqz : ldV (mvK 4 (sk4 (flF 6 (wgF 4 (R x) (R y)))) (R e)) 4 = ldV (sxF 4 (flF 6 (wgF 4 (R x) (R y))) (R e)) 4 := ld_cg (fun k hk => mv_sx _ _ hk)
      have f1' : f_X4_lineIsOnPlane hp2 sz2 (ad 9) q (rw e) = some (nI (if ldV (sxF 4 (flF 6 (wgF 4 (R x) (R y))) (R e)) 4 = 4 then 1 else 0), hp3, sz3) := f1
      have hi' : m_isIdeal (nI 3) (lN P) rows (nI e) dr (nI (3 - 2)) = some (if ldV (sxF 4 (flF 6 (wgF 4 (R x) (R y))) (R e)) 4 = 4 then 1 else 0) := by rw [← eqz]; exact hi
      have psd : (0 : Int32) ≤ nI (3 - 2) := by decide
      by_cases z : ldV (sxF 4 (flF 6 (wgF 4 (R x) (R y))) (R e)) 4 = 4
      · rw [if_pos z] at f1' hi'
        refine ⟨1, hp3, sz3, dr, frame, o1, t1, turned, Or.inr rfl, ?_, a3.tr f3, ?_⟩
        · unfold f_X5_meetFar
          simp only [↓ob ta, ↓ob i6, tf, ↓ob r9, ↓ob ra, ↓ob rb, he.o4, ↓ob a1, ↓ob i52, d23, ↓ob r92, he2.o4, ↓ob f1', ↓reduceIte]
          rfl
        · simp only [psd, ↓ob hi', z10, ↓reduceIte]
          rfl
      · rw [if_neg z] at f1' hi'
        refine ⟨0, hp3, sz3, dr, frame, o1, t1, turned, Or.inl rfl, ?_, a3.tr f3, ?_⟩
        · unfold f_X5_meetFar
          simp only [↓ob ta, ↓ob i6, tf, ↓ob r9, ↓ob ra, ↓ob rb, he.o4, ↓ob a1, ↓ob i52, d23, ↓ob r92, he2.o4, ↓ob f1', ↓reduceIte]
          rfl
        · simp only [psd, ↓ob hi', ↓reduceIte]
          rfl
  · have hd3 : d = 3 := by omega
    subst hd3
    by_cases hll : S a = 1 ∧ S b = 1
    · obtain ⟨sa, sb⟩ := hll
      rw [if_neg (by omega)] at hx hy
      subst hx
      subst hy
      rw [if_pos ⟨sa, sb⟩] at hl3
      subst hl3
      rw [sa] at va na ta
      rw [sb] at vb nb tb
      have n12 : (nI 1 = nI (3 - 1)) = False := n_ne (by omega) (by omega) (by omega)
      have n12' : (nI 1 = (2 : Int32)) = False := n_ne (b := 2) (by omega) (by omega) (by omega)
      have nb6 : nrm 6 (R y) := nb
      obtain ⟨q, hp2, sz2, a1, a2, a3⟩ := e_pointOfLines hP hB he (A := R x) (B := R y) va vb (fl_nz (Or.inr rfl) nb6.1)
      have he2 := he.g a3
      have h2 := h1.gg a3
      have r82 := h2.r8
      obtain ⟨g1, g2⟩ := rb_lines hp0 hB hI hS hK ha hb sa sb draft frame one two turned
      by_cases hc0 : crF 6 (R x) (R y) = 0
      · obtain ⟨xx, l, yy, x1, y1, l1, l2, dr, fr, o1, t1, u1, e1, e2⟩ := g2 ⟨hab, hc0⟩
        rw [y1] at a2
        obtain ⟨r, rfl, a4⟩ := a2
        rw [ob e2]
        have dc := e_dot hP hB he2 (n := 4) (by omega) a4 (ve.g a3)
        have hi := s_isIdealP hP hB hK he' (d := 3) (Or.inr rfl) (x := xx) e1
        have iff1 := sF_scl (z := R e) hp0 l1 (n := 4) l2
        by_cases z : sF (fun k => xx k * R e k) 4 = 0
        · have z2 := iff1.mpr z
          have hi2 : m_isIdeal (nI 3) (lN P) rows (nI e) dr (nI 0) = some 1 := by rw [hi]; exact congrArg some (if_pos z)
          have dc2 : f_X2_dot hp2 (ad 8) r (rw e) = some (fL (0 : Fin P)) := by rw [dc, z2]
          refine ⟨1, hp2, sz2, dr, fr, o1, t1, u1, Or.inr rfl, ?_, a3, ?_⟩
          · unfold f_X5_meetFar
            simp only [↓ob ta, ↓ob tb, ↓ob i6, n12, n12', ↓ob r9, ↓ob ra, ↓ob rb, he.o4, ↓ob a1, ↓Option.elim_some, ↓ob r82, he2.o2, ↓ob dc2, lz64 (P := P), ↓reduceIte]
            rfl
          · simp only [ps0, ↓ob hi2, z10, ↓reduceIte]
            rfl
        · have z2 : ¬ sF (fun k => yy k * R e k) 4 = 0 := fun w => z (iff1.mp w)
          have hi2 : m_isIdeal (nI 3) (lN P) rows (nI e) dr (nI 0) = some 0 := by rw [hi]; exact congrArg some (if_neg z)
          have fz : ¬ fL (sF (fun k => yy k * R e k) 4) = 0 := fun w => z2 ((fL_0 hB).mp w)
          refine ⟨0, hp2, sz2, dr, fr, o1, t1, u1, Or.inl rfl, ?_, a3, ?_⟩
          · unfold f_X5_meetFar
            simp only [↓ob ta, ↓ob tb, ↓ob i6, n12, n12', ↓ob r9, ↓ob ra, ↓ob rb, he.o4, ↓ob a1, ↓Option.elim_some, ↓ob r82, he2.o2, ↓ob dc, fz, ↓reduceIte]
            rfl
          · simp only [ps0, ↓ob hi2, ↓reduceIte]
            rfl
      · have e2 := g1 (Or.inr hc0)
        have hpt : ptF (R x) (R y) = none := by
          unfold ptF
          rw [if_neg hc0]
        rw [hpt] at a2
        have a2 : q = none := a2
        subst a2
        rw [ob e2]
        refine ⟨0, hp2, sz2, draft, frame, one, two, turned, Or.inl rfl, ?_, a3, ?_⟩
        · unfold f_X5_meetFar
          simp only [↓ob ta, ↓ob tb, ↓ob i6, n12, n12', ↓ob r9, ↓ob ra, ↓ob rb, he.o4, ↓ob a1, ↓Option.elim_none, ↓reduceIte]
          rfl
        · simp only [ng1, z10, ↓reduceIte]
          rfl
    · rw [if_neg hll] at hl3
      subst hl3
      have hxc : x < c := by rw [hx]; split <;> assumption
      have hyc : y < c := by rw [hy]; split <;> assumption
      have hxy : ((x = a ∧ y = b) ∨ (x = b ∧ y = a)) ∧ S x = 1 ∧ S y = 2 := by
        by_cases w : S b < S a
        · rw [if_pos w] at hx hy
          subst hx
          subst hy
          exact ⟨Or.inr ⟨rfl, rfl⟩, by omega, by omega⟩
        · rw [if_neg w] at hx hy
          subst hx
          subst hy
          exact ⟨Or.inl ⟨rfl, rfl⟩, by omega, by omega⟩
      obtain ⟨hxy, sx, sy⟩ := hxy
      have vx := h1.v hxc
      have vy := h1.v hyc
      have tx := h1.t hxc
      have ty := h1.t hyc
      have rx := h1.r hxc
      have ry := h1.r hyc
      rw [sx] at vx tx
      rw [sy] at vy ty
      have n12 : (nI 1 = nI (3 - 1)) = False := n_ne (by omega) (by omega) (by omega)
      obtain ⟨q, hp2, sz2, a1, a2, a3⟩ := e_pointOnPlane hP hB he hw (L := R x) (x := R y) vx vy
      have he2 := he.g a3
      have h2 := h1.gg a3
      have r82 := h2.r8
      obtain ⟨dr, e1, e2⟩ := rb_lp hp0 hB hS hK ha hb hxy sx sy draft frame one two turned
      have dc := e_dot hP hB he2 (n := 4) (by omega) a2 (ve.g a3)
      have dc1 : f_X2_dot hp2 (ad 8) q (rw e) = some (fL (sF (fun k => sxF 4 (R x) (R y) k * R e k) 4)) := dc
      rw [ob e2]
      have hl := ldV_le (sxF 4 (R x) (R y)) 4
      have hi := s_isIdealP hP hB hK he' (d := 3) (Or.inr rfl) (x := sxF 4 (R x) (R y)) e1
      by_cases z : sF (fun k => sxF 4 (R x) (R y) k * R e k) 4 = 0
      · have hi2 : m_isIdeal (nI 3) (lN P) rows (nI e) dr (nI 0) = some 1 := by rw [hi]; exact congrArg some (if_pos z)
        have dc2 : f_X2_dot hp2 (ad 8) q (rw e) = some (fL (0 : Fin P)) := by rw [dc1, z]
        refine ⟨1, hp2, sz2, dr, frame, one, two, turned, Or.inr rfl, ?_, a3, ?_⟩
        · unfold f_X5_meetFar
          simp only [↓ob tx, ↓ob ty, ↓ob i6, n12, d22, ↓ob r9, ↓ob rx, ↓ob ry, he.o4, ↓ob a1, ↓ob r82, he2.o2, ↓ob dc2, lz64 (P := P), ↓reduceIte]
          rfl
        · by_cases w : ldV (sxF 4 (R x) (R y)) 4 < 4
          · simp only [if_pos w, ps0, ↓ob hi2, z10, ↓reduceIte]
            rfl
          · simp only [if_neg w, ng1, ↓reduceIte]
            rfl
      · have hi2 : m_isIdeal (nI 3) (lN P) rows (nI e) dr (nI 0) = some 0 := by rw [hi]; exact congrArg some (if_neg z)
        have fz : ¬ fL (sF (fun k => sxF 4 (R x) (R y) k * R e k) 4) = 0 := fun w => z ((fL_0 hB).mp w)
        have w : ldV (sxF 4 (R x) (R y)) 4 < 4 := by
          rcases Nat.lt_or_ge (ldV (sxF 4 (R x) (R y)) 4) 4 with q | q
          · exact q
          · exfalso
            have hz := ldV_eq.mp (show ldV (sxF 4 (R x) (R y)) 4 = 4 by omega)
            exact z (sF_0 (fun k hk => by rw [hz k hk]; grind))
        refine ⟨0, hp2, sz2, dr, frame, one, two, turned, Or.inl rfl, ?_, a3, ?_⟩
        · unfold f_X5_meetFar
          simp only [↓ob tx, ↓ob ty, ↓ob i6, n12, d22, ↓ob r9, ↓ob rx, ↓ob ry, he.o4, ↓ob a1, ↓ob r82, he2.o2, ↓ob dc1, fz, ↓reduceIte]
          rfl
        · simp only [if_pos w, ps0, ↓ob hi2, ↓reduceIte]
          rfl
theorem st_parallel (hp0 : isP P) (ho : P % 2 = 1) [NeZero P] (hB : P < 2 ^ 31) (hI : shf d c S R) (hC : cS P d hp sz o ad im rw c S R H g Gs m pA pB id) {sorts : Nat → Int32} {rows : Nat → Int64} (hS : sK sorts S c) (hK : rK c rows R) (hid : id = -1 ∨ ∃ e, e < c ∧ id = nI e ∧ S e = d - 1) (draft frame one two turned : Nat → Int64) (x1 x2 : Int32) : ∃ v hp' sz' d' f' o' t' u', f_X5_parallel hp sz o x1 x2 = some (v, hp', sz') ∧ gro hp sz hp' sz' ∧ m_parallel (nI d) (lN P) (nI c) sorts rows id draft frame one two turned x1 x2 = some (v, d', f', o', t', u') := by
  have hle := hC.le
  have hd := hC.hd
  have l0 := hC.r0
  have i6 := hC.i6
  have i12 := hC.i12
  have h5 : ∀ a, a < c → S a < 5 := fun a ha => hC.s5 ha
  have badc : (x1 < 0 ∨ nI c ≤ x1) ∨ (x2 < 0 ∨ nI c ≤ x2) → f_X5_parallel hp sz o x1 x2 = some (-2, hp, sz) := by
    intro hx
    obtain ⟨x, y, h1, h2, h3⟩ := hC.lowX hx
    unfold f_X5_parallel
    cases x with
    | none => simp only [↓ob l0, hC.o3, ↓ob h1, ↓ob h2, ↓Option.elim_none, ↓reduceIte]
    | some x =>
      have h4 : y = none := by rcases h3 with q | q; cases q; exact q
      subst h4
      simp only [↓ob l0, hC.o3, ↓ob h1, ↓ob h2, ↓Option.elim_none, ↓Option.elim_some, ↓reduceIte]
  obtain ⟨a1, a2, ia1, ia2, oa1, oa2, xa, ea1, ea2⟩ := is01 h5 hle hS x1 (s := 1) (t := 2) (by omega) (by omega) (by omega)
  obtain ⟨b1, b2, ib1, ib2, ob1, ob2, xb, eb1, eb2⟩ := is01 h5 hle hS x2 (s := 1) (t := 2) (by omega) (by omega) (by omega)
  have n2 : d = 2 → a2 = 0 ∧ b2 = 0 := fun q => ⟨ea2 (fun k hk _ => (hI.1 k hk).2.2.1 q), eb2 (fun k hk _ => (hI.1 k hk).2.2.1 q)⟩
  rcases ix_cl c hle x1 with ⟨a, ha, rfl⟩ | hx1
  · rcases ix_cl c hle x2 with ⟨b, hb, rfl⟩ | hx2
    · have lw := hC.lower ha hb
      have hg := hC.higher ha hb
      generalize hxx : (if S b < S a then b else a) = x at lw
      generalize hyy : (if S b < S a then a else b) = y at hg
      have hxc : x < c := by rw [← hxx]; split <;> assumption
      have hyc : y < c := by rw [← hyy]; split <;> assumption
      have bx := c_betw hC hxc
      have by' := c_betw hC hyc
      have inj : ∀ u v, u < c → v < c → nI u = nI v → u = v := fun u v hu hv q => (nI_eq (by omega) (by omega)).mp q
      have na1 : S a ≠ 1 → a1 = 0 := fun q => ea1 (fun k hk e => by rw [← inj a k ha hk e]; exact q)
      have na2 : S a ≠ 2 → a2 = 0 := fun q => ea2 (fun k hk e => by rw [← inj a k ha hk e]; exact q)
      have nb1 : S b ≠ 1 → b1 = 0 := fun q => eb1 (fun k hk e => by rw [← inj b k hb hk e]; exact q)
      have nb2 : S b ≠ 2 → b2 = 0 := fun q => eb2 (fun k hk e => by rw [← inj b k hb hk e]; exact q)
      have n1e : ∀ {u v : Nat}, some (nI u) = some (nI v) → u < 5 → v < 5 → u = v := fun q hu hv => (nI_eq (by omega) (by omega)).mp (Option.some.inj q)
      have pa1 : S a = 1 → a1 = 1 := fun q => n1e (ia1.symm.trans (r_isT (t := 1) hS hle ha q (by omega))) (by omega) (by omega)
      have pa2 : S a = 2 → a2 = 1 := fun q => n1e (ia2.symm.trans (r_isT (t := 2) hS hle ha q (by omega))) (by omega) (by omega)
      have pb1 : S b = 1 → b1 = 1 := fun q => n1e (ib1.symm.trans (r_isT (t := 1) hS hle hb q (by omega))) (by omega) (by omega)
      have pb2 : S b = 2 → b2 = 1 := fun q => n1e (ib2.symm.trans (r_isT (t := 2) hS hle hb q (by omega))) (by omega) (by omega)
      by_cases hab : (1 ≤ S a ∧ S a ≤ d - 1) ∧ (1 ≤ S b ∧ S b ≤ d - 1)
      · obtain ⟨qa, qb⟩ := hab
        have hxr : (1 ≤ S x ∧ S x ≤ d - 1) ∧ (1 ≤ S y ∧ S y ≤ d - 1) := by
          by_cases q : S b < S a
          · rw [if_pos q] at hxx hyy
            subst hxx
            subst hyy
            exact ⟨qb, qa⟩
          · rw [if_neg q] at hxx hyy
            subst hxx
            subst hyy
            exact ⟨qa, qb⟩
        rw [if_pos hxr.1] at bx
        rw [if_pos hxr.2] at by'
        have red := r_parJ (p := lN P) (rows := rows) (draft := draft) (frame := frame) (one := one) (two := two) (turned := turned) (ideal := id) (x1 := nI a) (x2 := nI b) hd ia1 ia2 ib1 ib2 oa1 oa2 ob1 ob2 xa xb (fun q => ⟨pa1 (by omega), pb1 (by omega)⟩) (by
          refine ⟨?_, ?_⟩
          · by_cases q : S a = 1
            · exact Or.inl (pa1 q)
            · exact Or.inr (pa2 (by omega))
          · by_cases q : S b = 1
            · exact Or.inl (pb1 q)
            · exact Or.inr (pb2 (by omega))) (l3 := if S a = 1 ∧ S b = 1 then 1 else 0) (by
          by_cases q : S a = 1 ∧ S b = 1
          · rw [if_pos q, if_pos ⟨pa1 q.1, pb1 q.2⟩]
          · rw [if_neg q, if_neg (fun w => q ⟨Classical.byContradiction (fun z => by have := na1 z; omega), Classical.byContradiction (fun z => by have := nb1 z; omega)⟩)])
        rw [red]
        rcases hid with hid | ⟨e, he', hid, se⟩
        · subst hid
          have wf : f_X3_row hp (ad 0) (-1) (nI (d - 1)) = some none := hC.rowX (Or.inl (by decide)) _
          refine ⟨-1, hp, sz, draft, frame, one, two, turned, ?_, gro.rf, ?_⟩
          · unfold f_X5_parallel
            simp only [↓ob l0, hC.o3, ↓ob lw, ↓ob hg, ↓Option.elim_some, hC.o5, ↓ob bx, ↓ob by', n10, ↓ob i12, ↓ob i6, ↓ob wf, ↓Option.elim_none, ↓reduceIte]
          · unfold m_parallel_J105
            simp only [↓reduceIte]
        · subst hid
          have wf : f_X3_row hp (ad 0) (nI e) (nI (d - 1)) = some (some (rw e)) := hC.row he' se
          have nid : ¬ nI e = (-1 : Int32) := nm1 (by omega)
          obtain ⟨vx, hp1, sz1, -, -, ox, ex, fx1, gx1, -⟩ := far_both hp0 ho hB hI hC hS hK hxc he' hxr.1 se draft one two gro.rf
          obtain ⟨vy, hp2, sz2, -, -, oy, ey, fy1, gy1, -⟩ := far_both hp0 ho hB hI hC hS hK hyc he' hxr.2 se draft one two gx1
          obtain ⟨va, hpa, sza, dra, o1a, oa, exa, fa1, ga1, ma1⟩ := far_both hp0 ho hB hI hC hS hK ha he' qa se draft one two gro.rf
          obtain ⟨vb, hpb, szb, drb, o1b, ob', exb, fb1, gb1, mb1⟩ := far_both hp0 ho hB hI hC hS hK hb he' qb se dra o1a two gro.rf
          generalize hFa : (if a = e ∨ (S a ≠ d - 1 ∧ ldV (sxF 4 (R a) (R e)) 4 = 4) then 1 else 0) = Fa at exa
          generalize hFb : (if b = e ∨ (S b ≠ d - 1 ∧ ldV (sxF 4 (R b) (R e)) 4 = 4) then 1 else 0) = Fb at exb
          subst exa
          subst exb
          have hsw : (vx = va ∧ vy = vb) ∨ (vx = vb ∧ vy = va) := by
            by_cases q : S b < S a
            · rw [if_pos q] at hxx hyy
              subst hxx
              subst hyy
              exact Or.inr ⟨ex.trans hFb, ey.trans hFa⟩
            · rw [if_neg q] at hxx hyy
              subst hxx
              subst hyy
              exact Or.inl ⟨ex.trans hFa, ey.trans hFb⟩
          by_cases hfar : va = 1 ∨ vb = 1
          · have hfx : vx = 1 ∨ (vx = 0 ∧ vy = 1) := by omega
            have mj : ∃ dr o', m_parallel_J105 (nI d) (lN P) (nI c) sorts rows (nI e) draft frame one two turned (nI a) (nI b) (if S a = 1 ∧ S b = 1 then 1 else 0) = some (-1, dr, frame, o', two, turned) := by
              unfold m_parallel_J105
              by_cases q : va = 1
              · subst q
                refine ⟨dra, o1a, ?_⟩
                simp only [nid, ↓ob ma1, n10, ↓reduceIte]
              · have q0 : va = 0 := by omega
                have q1 : vb = 1 := by omega
                subst q0
                subst q1
                refine ⟨drb, o1b, ?_⟩
                simp only [nid, ↓ob ma1, ↓ob mb1, n00, n10, ↓reduceIte]
            obtain ⟨dr, o', mj⟩ := mj
            rcases hfx with q | ⟨q, q'⟩
            · subst q
              refine ⟨-1, hp1, sz1, dr, frame, o', two, turned, ?_, gx1, mj⟩
              unfold f_X5_parallel
              simp only [↓ob l0, hC.o3, ↓ob lw, ↓ob hg, ↓Option.elim_some, hC.o5, ↓ob bx, ↓ob by', n10, ↓ob i12, ↓ob i6, ↓ob wf, ↓ob fx1, ↓reduceIte]
            · subst q
              subst q'
              have h1 := hC.gg gx1
              refine ⟨-1, hp2, sz2, dr, frame, o', two, turned, ?_, gx1.tr gy1, mj⟩
              unfold f_X5_parallel
              simp only [↓ob l0, hC.o3, ↓ob lw, ↓ob hg, ↓Option.elim_some, hC.o5, ↓ob bx, ↓ob by', n10, n00, ↓ob i12, ↓ob i6, ↓ob wf, ↓ob fx1, h1.o5, ↓ob fy1, ↓reduceIte]
          · have q0 : va = 0 := by omega
            have q1 : vb = 0 := by omega
            have q2 : vx = 0 := by omega
            have q3 : vy = 0 := by omega
            subst q2
            subst q3
            rw [q0] at ma1
            rw [q1] at mb1
            have h1 := hC.gg gx1
            have h2 := h1.gg gy1
            by_cases eab : a = b
            · refine ⟨1, hp2, sz2, drb, frame, o1b, two, turned, ?_, gx1.tr gy1, ?_⟩
              · have eab' : nI a = nI b := by rw [eab]
                unfold f_X5_parallel f_X5_oneIf
                simp only [↓ob l0, hC.o3, ↓ob lw, ↓ob hg, ↓Option.elim_some, hC.o5, ↓ob bx, ↓ob by', n10, n00, ↓ob i12, ↓ob i6, ↓ob wf, ↓ob fx1, h1.o5, ↓ob fy1, eab', z10, ↓Option.bind_some, ↓reduceIte]
              · subst eab
                unfold m_parallel_J105
                simp only [nid, ↓ob ma1, ↓ob mb1, n00, ↓reduceIte]
            · have hne : (nI a = nI b) = False := n_ne eab (by omega) (by omega)
              obtain ⟨v, hp3, sz3, dr, fr, o3, t3, u3, ov, c1, c2, c3⟩ := mf_both hp0 ho hB hI hC hS hK ha hb he' eab hxx.symm hyy.symm qa qb se drb frame o1b two turned (gx1.tr gy1) (l3 := if S a = 1 ∧ S b = 1 then 1 else 0) rfl
              refine ⟨nI v, hp3, sz3, dr, fr, o3, t3, u3, ?_, (gx1.tr gy1).tr c2, ?_⟩
              · unfold f_X5_parallel f_X5_oneIf
                rcases ov with rfl | rfl
                · simp only [↓ob l0, hC.o3, ↓ob lw, ↓ob hg, ↓Option.elim_some, hC.o5, ↓ob bx, ↓ob by', n10, n00, ↓ob i12, ↓ob i6, ↓ob wf, ↓ob fx1, h1.o5, ↓ob fy1, hne, h2.o5, ↓ob c1, ↓Option.bind_some, ↓reduceIte]
                  rfl
                · simp only [↓ob l0, hC.o3, ↓ob lw, ↓ob hg, ↓Option.elim_some, hC.o5, ↓ob bx, ↓ob by', n10, n00, ↓ob i12, ↓ob i6, ↓ob wf, ↓ob fx1, h1.o5, ↓ob fy1, hne, h2.o5, ↓ob c1, z10, ↓Option.bind_some, ↓reduceIte]
                  rfl
              · unfold m_parallel_J105
                rw [if_neg nid, ob ma1]
                dsimp only
                rw [if_pos (show nI 0 = (0 : Int32) from rfl), ob mb1]
                dsimp only
                rw [if_pos (show nI 0 = (0 : Int32) from rfl), if_neg (show ¬ nI a = nI b from fun q => by rw [q] at hne; exact hne.mp rfl)]
                exact c3
      · refine ⟨-2, hp, sz, draft, frame, one, two, turned, ?_, gro.rf, r_parB hd ia1 ia2 ib1 ib2 oa1 oa2 ob1 ob2 xa xb (fun q => ⟨(n2 q).1, (n2 q).2, ?_⟩) (fun q => ?_)⟩
        · have hxy : ¬ ((1 ≤ S x ∧ S x ≤ d - 1) ∧ (1 ≤ S y ∧ S y ≤ d - 1)) := by
            intro z
            apply hab
            by_cases q : S b < S a
            · rw [if_pos q] at hxx hyy
              subst hxx
              subst hyy
              exact ⟨z.2, z.1⟩
            · rw [if_neg q] at hxx hyy
              subst hxx
              subst hyy
              exact z
          unfold f_X5_parallel
          by_cases z : 1 ≤ S x ∧ S x ≤ d - 1
          · rw [if_pos z] at bx
            rw [if_neg (fun z2 => hxy ⟨z, z2⟩)] at by'
            simp only [↓ob l0, hC.o3, ↓ob lw, ↓ob hg, ↓Option.elim_some, hC.o5, ↓ob bx, ↓ob by', n10, n00, ↓reduceIte]
          · rw [if_neg z] at bx
            simp only [↓ob l0, hC.o3, ↓ob lw, ↓ob hg, ↓Option.elim_some, hC.o5, ↓ob bx, n00, ↓reduceIte]
        · rintro ⟨z1, z2⟩
          have w1 : S a = 1 := Classical.byContradiction (fun w => by have := na1 w; omega)
          have w2 : S b = 1 := Classical.byContradiction (fun w => by have := nb1 w; omega)
          omega
        · rintro ⟨z1, z2⟩
          have w1 : S a = 1 ∨ S a = 2 := Classical.byContradiction (fun w => by have := na1 (by omega); have := na2 (by omega); omega)
          have w2 : S b = 1 ∨ S b = 2 := Classical.byContradiction (fun w => by have := nb1 (by omega); have := nb2 (by omega); omega)
          omega
    · have nx : ∀ k, k < c → x2 ≠ nI k := fun k hk q => by
        subst q
        rcases hx2 with q | q
        · exact absurd q (nI_pos (by omega))
        · exact absurd q (nI_ge hk (by omega))
      have b10 := eb1 (fun k hk q => absurd q (nx k hk))
      have b20 := eb2 (fun k hk q => absurd q (nx k hk))
      exact ⟨-2, hp, sz, draft, frame, one, two, turned, badc (Or.inr hx2), gro.rf, r_parB hd ia1 ia2 ib1 ib2 oa1 oa2 ob1 ob2 xa xb (fun q => ⟨(n2 q).1, (n2 q).2, by omega⟩) (fun q => by omega)⟩
  · have nx : ∀ k, k < c → x1 ≠ nI k := fun k hk q => by
      subst q
      rcases hx1 with q | q
      · exact absurd q (nI_pos (by omega))
      · exact absurd q (nI_ge hk (by omega))
    have a10 := ea1 (fun k hk q => absurd q (nx k hk))
    have a20 := ea2 (fun k hk q => absurd q (nx k hk))
    exact ⟨-2, hp, sz, draft, frame, one, two, turned, badc (Or.inl hx1), gro.rf, r_parB hd ia1 ia2 ib1 ib2 oa1 oa2 ob1 ob2 xa xb (fun q => ⟨(n2 q).1, (n2 q).2, by omega⟩) (fun q => by omega)⟩
end PAR2
