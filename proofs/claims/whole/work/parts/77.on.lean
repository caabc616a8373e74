section ON
variable {P : Nat} {d sz o : Nat} {hp : cH} {ad im rw : Nat → Nat} {c : Nat} {S : Nat → Nat} {R : Nat → Nat → Fin P} {H : Nat → Fin P} {g : Nat} {Gs : Nat → Nat} {m : Nat} {pA pB : Nat → Nat} {id : Int32}
theorem frm_eq [NeZero P] {w : Nat} (Q x y : Nat → Fin P) : frm w Q x y = sF (fun i => x i * imV w Q y i) w := by
  unfold frm imV
  refine sF_congr w (fun i hi => ?_)
  (try dsimp only)
  rw [← sF_mul]
  refine sF_congr w (fun j hj => ?_)
  (try dsimp only)
  grind
theorem z10 : ((1 : Int32) = 0) = False := by simp
theorem z01 : ((0 : Int32) = 1) = False := by simp
/-- a line of space on a plane: the reference -/
theorem r_onLP (hp0 : isP P) [NeZero P] (hB : P < 2 ^ 31) {sorts : Nat → Int32} {rows : Nat → Int64} (hS : sK sorts S c) (hK : rK c rows R) {x y : Nat} (hx : x < c) (hy : y < c) (sx : S x = 1) (sy : S y = 2) (draft one two : Nat → Int64) : ∃ dr, m_isOn (nI 3) (lN P) sorts rows draft one two (nI x) (nI y) = some (nI (if ldV (sxF 4 (R x) (R y)) 4 = 4 then 1 else 0), dr, one) := by
  have hP := hp0.1
  have hle := hK.1
  obtain ⟨dr, e1, e2⟩ := s_pierced hP hB (draft := draft) hK hx hy
  have e3 : vo dr 4 (sxF 4 (R x) (R y)) := vo_congr e2 (fun k hk => mv_sx _ _ hk)
  have hn := s_isNothing hP hB (d := 3) (t := 0) (Or.inr rfl) (by omega) (show vo dr (wd 3 0) _ from e3)
  have hn' : m_isNothing (nI 3) dr 0 = some (if ldV (sxF 4 (R x) (R y)) 4 = 4 then 1 else 0) := hn
  have gx := gi_nI (show x < 60 by omega) (show 60 < 2 ^ 31 by omega)
  have gy := gi_nI (show y < 60 by omega) (show 60 < 2 ^ 31 by omega)
  have cx := nI_clamp (show x < 2 ^ 31 by omega)
  have cy := nI_clamp (show y < 2 ^ 31 by omega)
  have hsx : sorts x = (1 : Int32) := by rw [(hS x hx).1, sx]; rfl
  have hsy : sorts y = (2 : Int32) := by rw [(hS y hy).1, sy]; rfl
  have z21 : ((2 : Int32) = 1) = False := by simp
  refine ⟨dr, ?_⟩
  unfold m_isOn m_isOn_J48 m_isOn_J89 m_isOn_J123 m_isOn_J165
  by_cases e : ldV (sxF 4 (R x) (R y)) 4 = 4
  · rw [if_pos e] at hn' ⊢
    simp only [if_pos gx, if_pos gy, cx, cy, hsx, hsy, z10, z21, d33, ↓ob e1, ↓ob hn', ↓reduceIte]
    rfl
  · rw [if_neg e] at hn' ⊢
    simp only [if_pos gx, if_pos gy, cx, cy, hsx, hsy, z10, z21, d33, ↓ob e1, ↓ob hn', ↓reduceIte]
    rfl
theorem on_xy (hp0 : isP P) (ho : P % 2 = 1) [NeZero P] (hB : P < 2 ^ 31) (hI : shf d c S R) (hC : cS P d hp sz o ad im rw c S R H g Gs m pA pB id) {sorts : Nat → Int32} {rows : Nat → Int64} (hS : sK sorts S c) (hK : rK c rows R) (draft one two : Nat → Int64) {i j : Int32} {x y : Nat} (hx : x < c) (hy : y < c) (hxy : S x ≤ S y) (lw : f_X3_lower hp (ad 0) i j = some (some (im x))) (hg : f_X3_higher hp (ad 0) i j = some (some (im y))) : ∃ v hp' sz' dr o1, f_X5_on hp sz o i j = some (v, hp', sz') ∧ gro hp sz hp' sz' ∧ m_isOn (nI d) (lN P) sorts rows draft one two (nI x) (nI y) = some (v, dr, o1) := by
  have hP := hp0.1
  have hle := hC.le
  have hd := hC.hd
  have hw := hC.hw
  have he := hC.e
  have l0 := hC.r0
  have r8 := hC.r8
  have r9 := hC.r9
  have i5 := hC.i5
  have i6 := hC.i6
  have vx := hC.v hx
  have vy := hC.v hy
  have tx := hC.t hx
  have ty := hC.t hy
  have rx := hC.r hx
  have ry := hC.r hy
  have sx5 := hC.s5 hx
  have sy5 := hC.s5 hy
  have ky := (hI.1 y hy).2
  have gx := gi_nI (show x < 60 by omega) (show 60 < 2 ^ 31 by omega)
  have gy := gi_nI (show y < 60 by omega) (show 60 < 2 ^ 31 by omega)
  have cx := nI_clamp (show x < 2 ^ 31 by omega)
  have cy := nI_clamp (show y < 2 ^ 31 by omega)
  have hsx := (hS x hx).1
  have hsy := (hS y hy).1
  by_cases s0 : S x = 0
  · rw [s0] at vx tx hsx
    have hsx' : sorts x = (0 : Int32) := hsx
    have dt := s_dot hP hB hK hx hy (show d < 8 by omega)
    by_cases t4 : S y = 4
    · rw [t4] at vy ty hsy
      have hsy' : sorts y = (4 : Int32) := hsy
      obtain ⟨hp1, a1, a3⟩ := e_form hP hB he hw vy vx vx
      obtain ⟨o1, c1, c2⟩ := s_takeOne (one := one) hK hx (show d < 8 by omega)
      have hf := s_form hP hB (one := o1) (two := two) hK hy hd (b1 := 1) (b2 := 1) (by omega) (by omega) (x := R x) (y := R x) (by rw [if_neg (by omega)]; exact c2) (by rw [if_neg (by omega)]; exact c2)
      rw [frm_eq] at hf
      have hf' : m_form (nI d) (lN P) rows o1 two (nI y) 1 1 = _ := hf
      have n4f : (nI 4 = nI (d - 1)) = False := n_ne (by omega) (by omega) (by omega)
      have n41 : (nI 4 = (1 : Int32)) = False := n_ne (b := 1) (by omega) (by omega) (by omega)
      have n44 : (nI 4 = (4 : Int32)) = True := by simp; rfl
      by_cases e : sF (fun j => R x j * imV (d + 1) (R y) (R x) j) (d + 1) = 0
      · refine ⟨1, hp1, _, draft, o1, ?_, a3, ?_⟩
        · unfold f_X5_on f_X5_pointIsOn f_X5_oneIf
          simp only [↓ob l0, hC.o3, ↓ob lw, ↓ob hg, ↓Option.elim_some, ↓ob tx, ↓ob ty, n00, ↓ob rx, ↓ob ry, hC.o5, ↓ob i6, n4f, n41, n44, ↓ob r8, he.o2, ↓ob a1, lz64 (P := P), fL_eq hB, e, z10, ↓Option.bind_some, ↓reduceIte]
        · unfold m_isOn
          simp only [if_pos gx, if_pos gy, cx, cy, hsx', hsy', ↓ob c1, ↓ob hf', lz64 (P := P), fL_eq hB, e, ↓reduceIte]
      · refine ⟨0, hp1, _, draft, o1, ?_, a3, ?_⟩
        · unfold f_X5_on f_X5_pointIsOn f_X5_oneIf
          simp only [↓ob l0, hC.o3, ↓ob lw, ↓ob hg, ↓Option.elim_some, ↓ob tx, ↓ob ty, n00, ↓ob rx, ↓ob ry, hC.o5, ↓ob i6, n4f, n41, n44, ↓ob r8, he.o2, ↓ob a1, lz64 (P := P), fL_eq hB, e, ↓Option.bind_some, ↓reduceIte]
        · unfold m_isOn
          simp only [if_pos gx, if_pos gy, cx, cy, hsx', hsy', ↓ob c1, ↓ob hf', lz64 (P := P), fL_eq hB, e, ↓reduceIte]
    · have q4 : (sorts y = (4 : Int32)) = False := by rw [hsy]; exact n_ne (b := 4) t4 (by omega) (by omega)
      by_cases tf : S y = d - 1
      · have ntf : (nI (S y) = nI (d - 1)) = True := by rw [tf]; simp
        rw [tf, wdf hd] at vy
        have dc := e_dot hP hB he (n := d + 1) (by omega) vx vy
        have dc' : f_X2_dot hp (ad 8) (rw x) (rw y) = some (fL (sF (fun k => R x k * R y k) (d + 1))) := dc
        have red : m_isOn (nI d) (lN P) sorts rows draft one two (nI x) (nI y) = (m_dot (nI d) (lN P) rows (nI x) (nI y)).bind fun r7 => if r7 = ((0 : Int64)) then (some ((1 : Int32), draft, one)) else (some ((0 : Int32), draft, one)) := by
          unfold m_isOn m_isOn_J48
          rcases hd with rfl | rfl
          · have q2 : (sorts y = (2 : Int32)) = False := by rw [hsy]; exact n_ne (b := 2) (by omega) (by omega) (by omega)
            have q1 : (sorts y = (1 : Int32)) = True := by rw [hsy, tf]; simp; rfl
            simp only [if_pos gx, if_pos gy, cx, cy, hsx', q4, q2, q1, d22, ↓reduceIte]
          · have q2 : (sorts y = (2 : Int32)) = True := by rw [hsy, tf]; simp; rfl
            simp only [if_pos gx, if_pos gy, cx, cy, hsx', q4, q2, ↓reduceIte]
        rw [red, ob dt]
        by_cases e : sF (fun k => R x k * R y k) (d + 1) = 0
        · refine ⟨1, hp, sz, draft, one, ?_, gro.rf, ?_⟩
          · unfold f_X5_on f_X5_pointIsOn f_X5_oneIf
            simp only [↓ob l0, hC.o3, ↓ob lw, ↓ob hg, ↓Option.elim_some, ↓ob tx, ↓ob ty, n00, ↓ob rx, ↓ob ry, hC.o5, ↓ob i6, ntf, ↓ob r8, he.o2, ↓ob dc', lz64 (P := P), fL_eq hB, e, z10, ↓Option.bind_some, ↓reduceIte]
          · simp only [lz64 (P := P), fL_eq hB, e, ↓reduceIte]
        · refine ⟨0, hp, sz, draft, one, ?_, gro.rf, ?_⟩
          · unfold f_X5_on f_X5_pointIsOn f_X5_oneIf
            simp only [↓ob l0, hC.o3, ↓ob lw, ↓ob hg, ↓Option.elim_some, ↓ob tx, ↓ob ty, n00, ↓ob rx, ↓ob ry, hC.o5, ↓ob i6, ntf, ↓ob r8, he.o2, ↓ob dc', lz64 (P := P), fL_eq hB, e, ↓Option.bind_some, ↓reduceIte]
          · simp only [lz64 (P := P), fL_eq hB, e, ↓reduceIte]
      · have ntf : (nI (S y) = nI (d - 1)) = False := n_ne tf (by omega) (by omega)
        have q2 : (sorts y = (2 : Int32)) = False := by
          rw [hsy]
          refine n_ne (b := 2) (fun q => ?_) (by omega) (by omega)
          rcases hd with rfl | rfl
          · exact ky.2.1 rfl q
          · omega
        by_cases t1 : S y = 1
        · have hd3 : d = 3 := by omega
          subst hd3
          rw [t1] at vy
          have n1 : (nI (S y) = (1 : Int32)) = True := by rw [t1]; simp; rfl
          obtain ⟨hp1, sz1, a1, a3⟩ := e_pointIsOnLine hP hB he hw vx (show vA hp sz (rw y) (swi 4 4) (R y) from vy)
          have el : ldV (sxF 4 (flF 6 (R y)) (R x)) 4 = ldV (sp4 (R y) (R x)) 4 := ld_cg (fun k hk => sx_sp (R y) (R x) hk)
          have a1' : f_X4_pointIsOnLine hp sz (ad 9) (rw x) (rw y) = some (nI (if ldV (sxF 4 (flF 6 (R y)) (R x)) 4 = 4 then 1 else 0), hp1, sz1) := a1
          rw [el] at a1'
          obtain ⟨o1, c1, c2⟩ := s_takeOne (one := one) hK hx (show 3 < 8 by omega)
          obtain ⟨dr, e1, e2⟩ := s_spanned hP hB (draft := draft) hK hy c2
          have hn := s_isNothing hP hB (d := 3) (t := 2) (Or.inr rfl) (by omega) (show vo dr (wd 3 2) _ from e2)
          have hn' : m_isNothing (nI 3) dr 2 = some (if ldV (sp4 (R y) (R x)) 4 = 4 then 1 else 0) := hn
          have q1 : (sorts y = (1 : Int32)) = True := by rw [hsy]; exact n1
          by_cases e : ldV (sp4 (R y) (R x)) 4 = 4
          · rw [if_pos e] at a1' hn'
            refine ⟨1, hp1, sz1, dr, o1, ?_, a3, ?_⟩
            · unfold f_X5_on f_X5_pointIsOn f_X5_oneIf
              simp only [↓ob l0, hC.o3, ↓ob lw, ↓ob hg, ↓Option.elim_some, ↓ob tx, ↓ob ty, n00, n10, ↓ob rx, ↓ob ry, hC.o5, ↓ob i6, ntf, n1, ↓ob r9, he.o4, ↓ob a1', ↓Option.bind_some, ↓reduceIte]
            · unfold m_isOn m_isOn_J48 m_isOn_J89 m_isOn_J123
              simp only [if_pos gx, if_pos gy, cx, cy, hsx', q4, q2, q1, d23, d33, z01, ↓ob c1, ↓ob e1, ↓ob hn', z10, ↓reduceIte]
          · rw [if_neg e] at a1' hn'
            refine ⟨0, hp1, sz1, dr, o1, ?_, a3, ?_⟩
            · unfold f_X5_on f_X5_pointIsOn f_X5_oneIf
              simp only [↓ob l0, hC.o3, ↓ob lw, ↓ob hg, ↓Option.elim_some, ↓ob tx, ↓ob ty, n00, n10, ↓ob rx, ↓ob ry, hC.o5, ↓ob i6, ntf, n1, ↓ob r9, he.o4, ↓ob a1', ↓Option.bind_some, ↓reduceIte]
            · unfold m_isOn m_isOn_J48 m_isOn_J89 m_isOn_J123
              simp only [if_pos gx, if_pos gy, cx, cy, hsx', q4, q2, q1, d23, d33, z01, ↓ob c1, ↓ob e1, ↓ob hn', ↓reduceIte]
        · have n1 : (nI (S y) = (1 : Int32)) = False := n_ne (b := 1) t1 (by omega) (by omega)
          have n4 : (nI (S y) = (4 : Int32)) = False := n_ne (b := 4) t4 (by omega) (by omega)
          have q1 : (sorts y = (1 : Int32)) = False := by rw [hsy]; exact n1
          refine ⟨-2, hp, sz, draft, one, ?_, gro.rf, ?_⟩
          · unfold f_X5_on f_X5_pointIsOn
            simp only [↓ob l0, hC.o3, ↓ob lw, ↓ob hg, ↓Option.elim_some, ↓ob tx, ↓ob ty, n00, ↓ob rx, hC.o5, ↓ob i6, ntf, n1, n4, ↓reduceIte]
            rfl
          · unfold m_isOn m_isOn_J48 m_isOn_J89 m_isOn_J123 m_isOn_J165
            rcases hd with rfl | rfl
            · simp only [if_pos gx, if_pos gy, cx, cy, hsx', q4, q2, q1, d32, z01, ↓reduceIte]
            · simp only [if_pos gx, if_pos gy, cx, cy, hsx', q4, q2, q1, d33, z01, ↓reduceIte]
  · have n0 : (nI (S x) = (0 : Int32)) = False := n_ne (b := 0) s0 (by omega) (by omega)
    have p0 : (sorts x = (0 : Int32)) = False := by rw [hsx]; exact n0
    by_cases hd3 : d = 3
    · subst hd3
      by_cases s1 : S x = 1
      · rw [s1] at vx
        have n1 : (nI (S x) = (1 : Int32)) = True := by rw [s1]; simp; rfl
        have p1 : (sorts x = (1 : Int32)) = True := by rw [hsx]; exact n1
        by_cases t1 : S y = 1
        · rw [t1] at vy
          have m1 : (nI (S y) = (1 : Int32)) = True := by rw [t1]; simp; rfl
          have q1 : (sorts y = (1 : Int32)) = True := by rw [hsy]; exact m1
          obtain ⟨hp1, sz1, a1, a3⟩ := e_linesMeet hP hB he hw (show vA hp sz (rw x) (swi 4 4) (R x) from vx) (show vA hp sz (rw y) (swi 4 4) (R y) from vy)
          have a1' : f_X4_linesMeet hp sz (ad 9) (rw x) (rw y) = some (nI (if crF 6 (R x) (R y) = 0 then 1 else 0), hp1, sz1) := a1
          have hcr := s_isCrossed hP hB hK hx hy
          rw [← cr_is] at hcr
          by_cases e : crF 6 (R x) (R y) = 0
          · rw [if_pos e] at a1' hcr
            refine ⟨1, hp1, sz1, draft, one, ?_, a3, ?_⟩
            · unfold f_X5_on f_X5_oneIf
              simp only [↓ob l0, hC.o3, ↓ob lw, ↓ob hg, ↓Option.elim_some, ↓ob tx, ↓ob ty, n0, ↓ob i5, d23, n1, m1, ↓ob rx, ↓ob ry, ↓ob r9, he.o4, ↓ob a1', n10, ↓Option.bind_some, ↓reduceIte]
            · unfold m_isOn m_isOn_J48 m_isOn_J89
              simp only [if_pos gx, if_pos gy, cx, cy, p0, p1, q1, d33, ↓ob hcr, z10, ↓reduceIte]
          · rw [if_neg e] at a1' hcr
            refine ⟨0, hp1, sz1, draft, one, ?_, a3, ?_⟩
            · unfold f_X5_on f_X5_oneIf
              simp only [↓ob l0, hC.o3, ↓ob lw, ↓ob hg, ↓Option.elim_some, ↓ob tx, ↓ob ty, n0, ↓ob i5, d23, n1, m1, ↓ob rx, ↓ob ry, ↓ob r9, he.o4, ↓ob a1', n00, ↓Option.bind_some, ↓reduceIte]
            · unfold m_isOn m_isOn_J48 m_isOn_J89
              simp only [if_pos gx, if_pos gy, cx, cy, p0, p1, q1, d33, ↓ob hcr, ↓reduceIte]
        · have m1 : (nI (S y) = (1 : Int32)) = False := n_ne (b := 1) t1 (by omega) (by omega)
          have q1 : (sorts y = (1 : Int32)) = False := by rw [hsy]; exact m1
          by_cases t2 : S y = 2
          · obtain ⟨dr, hr⟩ := r_onLP hp0 hB hS hK hx hy s1 t2 draft one two
            rw [t2] at vy
            have m2 : (nI (S y) = (2 : Int32)) = True := by rw [t2]; simp; rfl
            obtain ⟨hp1, sz1, a1, a3⟩ := e_lineIsOnPlane hP hB he hw (show vA hp sz (rw x) (swi 4 4) (R x) from vx) vy
            have a1' : f_X4_lineIsOnPlane hp sz (ad 9) (rw x) (rw y) = some (nI (if ldV (sxF 4 (R x) (R y)) 4 = 4 then 1 else 0), hp1, sz1) := a1
            refine ⟨_, hp1, sz1, dr, one, ?_, a3, hr⟩
            unfold f_X5_on f_X5_oneIf
            by_cases e : ldV (sxF 4 (R x) (R y)) 4 = 4
            · rw [if_pos e] at a1' ⊢
              simp only [↓ob l0, hC.o3, ↓ob lw, ↓ob hg, ↓Option.elim_some, ↓ob tx, ↓ob ty, n0, ↓ob i5, d23, n1, m1, m2, ↓ob rx, ↓ob ry, ↓ob r9, he.o4, ↓ob a1', n10, ↓Option.bind_some, ↓reduceIte]
              rfl
            · rw [if_neg e] at a1' ⊢
              simp only [↓ob l0, hC.o3, ↓ob lw, ↓ob hg, ↓Option.elim_some, ↓ob tx, ↓ob ty, n0, ↓ob i5, d23, n1, m1, m2, ↓ob rx, ↓ob ry, ↓ob r9, he.o4, ↓ob a1', n00, ↓Option.bind_some, ↓reduceIte]
              rfl
          · have m2 : (nI (S y) = (2 : Int32)) = False := n_ne (b := 2) t2 (by omega) (by omega)
            have q2 : (sorts y = (2 : Int32)) = False := by rw [hsy]; exact m2
            refine ⟨-2, hp, sz, draft, one, ?_, gro.rf, ?_⟩
            · unfold f_X5_on
              simp only [↓ob l0, hC.o3, ↓ob lw, ↓ob hg, ↓Option.elim_some, ↓ob tx, ↓ob ty, n0, ↓ob i5, d23, n1, m1, m2, ↓reduceIte]
            · unfold m_isOn m_isOn_J48 m_isOn_J89 m_isOn_J123 m_isOn_J165
              simp only [if_pos gx, if_pos gy, cx, cy, p0, p1, q1, q2, d33, ↓reduceIte]
      · have n1 : (nI (S x) = (1 : Int32)) = False := n_ne (b := 1) s1 (by omega) (by omega)
        have p1 : (sorts x = (1 : Int32)) = False := by rw [hsx]; exact n1
        have q1 : (sorts y = (1 : Int32)) = False := by rw [hsy]; exact n_ne (b := 1) (by omega) (by omega) (by omega)
        refine ⟨-2, hp, sz, draft, one, ?_, gro.rf, ?_⟩
        · unfold f_X5_on
          simp only [↓ob l0, hC.o3, ↓ob lw, ↓ob hg, ↓Option.elim_some, ↓ob tx, n0, ↓ob i5, d23, n1, ↓reduceIte]
        · unfold m_isOn m_isOn_J48 m_isOn_J89 m_isOn_J123 m_isOn_J165
          simp only [if_pos gx, if_pos gy, cx, cy, p0, p1, q1, d33, ↓reduceIte]
    · have hd2 : d = 2 := by omega
      subst hd2
      have q2 : (sorts y = (2 : Int32)) = False := by rw [hsy]; exact n_ne (b := 2) (ky.2.1 rfl) (by omega) (by omega)
      refine ⟨-2, hp, sz, draft, one, ?_, gro.rf, ?_⟩
      · unfold f_X5_on
        simp only [↓ob l0, hC.o3, ↓ob lw, ↓ob hg, ↓Option.elim_some, ↓ob tx, n0, ↓ob i5, d22, ↓reduceIte]
      · unfold m_isOn m_isOn_J48 m_isOn_J89 m_isOn_J123 m_isOn_J165
        by_cases p1 : sorts x = (1 : Int32)
        · simp only [if_pos gx, if_pos gy, cx, cy, p1, z10, q2, d32, ↓reduceIte]
        · simp only [if_pos gx, if_pos gy, cx, cy, p0, p1, d32, ↓reduceIte]
theorem st_on (hp0 : isP P) (ho : P % 2 = 1) [NeZero P] (hB : P < 2 ^ 31) (hI : shf d c S R) (hC : cS P d hp sz o ad im rw c S R H g Gs m pA pB id) {sorts : Nat → Int32} {rows : Nat → Int64} (hS : sK sorts S c) (hK : rK c rows R) (draft one two : Nat → Int64) (x1 x2 : Int32) : ∃ v hp' sz' d' o', f_X5_on hp sz o x1 x2 = some (v, hp', sz') ∧ gro hp sz hp' sz' ∧ m_on (nI d) (lN P) (nI c) sorts rows draft one two x1 x2 = some (v, d', o') := by
  have hle := hC.le
  have l0 := hC.r0
  have badc : (x1 < 0 ∨ nI c ≤ x1) ∨ (x2 < 0 ∨ nI c ≤ x2) → f_X5_on hp sz o x1 x2 = some (-2, hp, sz) := by
    intro hx
    obtain ⟨x, y, h1, h2, h3⟩ := hC.lowX hx
    unfold f_X5_on
    cases x with
    | none => simp only [↓ob l0, hC.o3, ↓ob h1, ↓ob h2, ↓Option.elim_none, ↓reduceIte]
    | some x =>
      have h4 : y = none := by rcases h3 with q | q; cases q; exact q
      subst h4
      simp only [↓ob l0, hC.o3, ↓ob h1, ↓ob h2, ↓Option.elim_none, ↓Option.elim_some, ↓reduceIte]
  rcases ix_cl c hle x1 with ⟨a, ha, rfl⟩ | hx1
  · have oa := r_obj (x := 0) hle ha
    rcases ix_cl c hle x2 with ⟨b, hb, rfl⟩ | hx2
    · have ob' := r_obj (x := 0) hle hb
      have lw := hC.lower ha hb
      have hg := hC.higher ha hb
      have sa := hC.s5 ha
      have sb := hC.s5 hb
      have ga := gi_nI (show a < 60 by omega) (show 60 < 2 ^ 31 by omega)
      have gb := gi_nI (show b < 60 by omega) (show 60 < 2 ^ 31 by omega)
      have ca := nI_clamp (show a < 2 ^ 31 by omega)
      have cb := nI_clamp (show b < 2 ^ 31 by omega)
      by_cases e : S b < S a
      · rw [if_pos e] at lw hg
        obtain ⟨v, hp1, sz1, dr, o1, g1, g2, g3⟩ := on_xy hp0 ho hB hI hC hS hK draft one two hb ha (by omega) lw hg
        have lt : sorts b < sorts a := by rw [(hS a ha).1, (hS b hb).1]; exact nI_lt e (by omega)
        refine ⟨v, hp1, sz1, dr, o1, g1, g2, ?_⟩
        unfold m_on
        simp only [↓ob oa, ↓ob ob', n10, if_pos ga, if_pos gb, ca, cb, lt, ↓ob g3, ↓reduceIte]
      · rw [if_neg e] at lw hg
        obtain ⟨v, hp1, sz1, dr, o1, g1, g2, g3⟩ := on_xy hp0 ho hB hI hC hS hK draft one two ha hb (by omega) lw hg
        have lt : ¬ sorts b < sorts a := by rw [(hS a ha).1, (hS b hb).1]; exact nI_nlt (by omega) (by omega)
        refine ⟨v, hp1, sz1, dr, o1, g1, g2, ?_⟩
        unfold m_on
        simp only [↓ob oa, ↓ob ob', n10, if_pos ga, if_pos gb, ca, cb, lt, ↓ob g3, ↓reduceIte]
    · have ob' := r_objX hx2
      refine ⟨-2, hp, sz, draft, one, badc (Or.inr hx2), gro.rf, ?_⟩
      unfold m_on
      simp only [↓ob oa, ↓ob ob', n10, n00, ↓reduceIte]
  · have oa := r_objX hx1
    refine ⟨-2, hp, sz, draft, one, badc (Or.inl hx1), gro.rf, ?_⟩
    unfold m_on
    simp only [↓ob oa, n00, ↓reduceIte]
end ON
