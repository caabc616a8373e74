/-! ROWS AND SQUARES OF NUMBERS in the class: what the methods of Rows make of them -/
section VEC
variable {P : Nat}
/-- sums -/
def sF [NeZero P] (f : Nat → Fin P) : Nat → Fin P
  | 0 => 0
  | n + 1 => sF f n + f n
theorem sF_congr [NeZero P] {f g : Nat → Fin P} : ∀ n, (∀ k, k < n → f k = g k) → sF f n = sF g n
  | 0, _ => rfl
  | n + 1, h => by simp only [sF]; rw [sF_congr n (fun k hk => h k (by omega)), h n (by omega)]
/-- the first place that has not 0 -/
def ldV [NeZero P] (x : Nat → Fin P) (n : Nat) : Nat := fst0 (fun i _ => x i) 0 n 0
theorem ldV_le [NeZero P] (x : Nat → Fin P) (n : Nat) : ldV x n ≤ n := by
  have := (fst0_le (fun i _ => x i) 0 n 0).2
  unfold ldV
  omega
theorem ldV_nz [NeZero P] {x : Nat → Fin P} {n : Nat} (h : ldV x n < n) : x (ldV x n) ≠ 0 := fst0_nz (fun i _ => x i) 0 n 0 (by unfold ldV at h; omega)
theorem ldV_z [NeZero P] {x : Nat → Fin P} {n i : Nat} (h : i < ldV x n) : x i = 0 := fst0_z (fun i _ => x i) 0 n 0 i (Nat.zero_le _) h
theorem ldV_eq [NeZero P] {x : Nat → Fin P} {n : Nat} : ldV x n = n ↔ ∀ j, j < n → x j = 0 := by
  constructor
  · intro h j hj
    exact ldV_z (n := n) (by omega)
  · intro h
    rcases Nat.lt_or_ge (ldV x n) n with q | q
    · exact absurd (h _ q) (ldV_nz q)
    · have := ldV_le x n
      omega
theorem t_lead_L [NeZero P] (hB : P < 2 ^ 31) {hp : cH} {a n : Nat} {x : Nat → Fin P} (h : fa hp a n x) (hn : n ≤ 64) : ∀ k r, r + k = n → itX (f_X2_lead_L2 hp a) (nI r) = some (nI (fst0 (fun i _ => x i) 0 k r))
  | 0, r, e => by
    apply itX_stop
    unfold f_X2_lead_L2 fst0
    rw [aN_fa h, Option.bind_some, if_pos (nI_le (by omega) (by omega))]
  | k + 1, r, e => by
    unfold fst0
    have lr := l_fa h (j := r) (by omega) (by omega)
    by_cases h0 : x r = 0
    · rw [if_pos h0, itX_step (s' := nI (r + 1))]
      · exact t_lead_L hB h hn k (r + 1) (by omega)
      · unfold f_X2_lead_L2
        rw [aN_fa h, Option.bind_some, if_neg (nI_ge (by omega) (by omega)), lr, Option.bind_some, if_pos ((fL_0 hB).mpr h0), nI_1]
    · rw [if_neg h0]
      apply itX_stop
      unfold f_X2_lead_L2
      rw [aN_fa h, Option.bind_some, if_neg (nI_ge (by omega) (by omega)), lr, Option.bind_some, if_neg (fun q => h0 ((fL_0 hB).mp q))]
theorem t_lead [NeZero P] (hB : P < 2 ^ 31) {hp : cH} {a n : Nat} {x : Nat → Fin P} (h : fa hp a n x) (hn : n ≤ 64) : f_X2_lead hp a = some (nI (ldV x n)) := by
  unfold f_X2_lead
  rw [show (0 : Int32) = nI 0 from rfl, t_lead_L hB h hn n 0 (by omega), Option.bind_some]
  rfl
theorem t_isZero [NeZero P] (hB : P < 2 ^ 31) {hp : cH} {a n : Nat} {x : Nat → Fin P} (h : fa hp a n x) (hn : n ≤ 64) : f_X2_isZero hp a = some (if ldV x n = n then 1 else 0) := by
  unfold f_X2_isZero
  have := ldV_le x n
  rw [t_lead hB h hn, Option.bind_some, aN_fa h, Option.bind_some]
  by_cases e : ldV x n = n
  · rw [if_pos (by rw [e]), if_pos e]
  · rw [if_neg (by rw [nI_eq (by omega) (by omega)]; exact e), if_neg e]
theorem t_isSame [NeZero P] (hB : P < 2 ^ 31) {hp : cH} {a b n : Nat} {x y : Nat → Fin P} (h : fa hp a n x) (g : fa hp b n y) (hn : n ≤ 64) : ((∀ j, j < n → x j = y j) → f_X2_isSame hp a b = some 1) ∧ ((¬ ∀ j, j < n → x j = y j) → f_X2_isSame hp a b = some 0) := by
  have key : ∀ k r, r + k = n → ((∀ j, r ≤ j → j < n → x j = y j) → itX (f_X2_isSame_L11 hp a b) (nI r) = some (.inl ())) ∧ ((¬ ∀ j, r ≤ j → j < n → x j = y j) → itX (f_X2_isSame_L11 hp a b) (nI r) = some (.inr 0)) := by
    intro k
    induction k with
    | zero =>
      intro r e
      refine ⟨fun _ => ?_, fun q => absurd (fun j h1 h2 => by omega) q⟩
      apply itX_stop
      unfold f_X2_isSame_L11
      rw [aN_fa h, Option.bind_some, if_pos (nI_le (by omega) (by omega))]
    | succ k ih =>
      intro r e
      have l1 := l_fa h (j := r) (by omega) (by omega)
      have l2 := l_fa g (j := r) (by omega) (by omega)
      by_cases c : x r = y r
      · have hs : itX (f_X2_isSame_L11 hp a b) (nI r) = itX (f_X2_isSame_L11 hp a b) (nI (r + 1)) := by
          apply itX_step
          unfold f_X2_isSame_L11
          rw [aN_fa h, Option.bind_some, if_neg (nI_ge (by omega) (by omega)), l1, Option.bind_some, l2, Option.bind_some, if_pos (by rw [c]), nI_1]
        rw [hs]
        have ih2 := ih (r + 1) (by omega)
        refine ⟨fun q => ih2.1 (fun j h1 h2 => q j (by omega) h2), fun q => ih2.2 (fun z => q (fun j h1 h2 => ?_))⟩
        by_cases e2 : j = r
        · rw [e2]
          exact c
        · exact z j (by omega) h2
      · refine ⟨fun q => absurd (q r (Nat.le_refl r) (by omega)) c, fun _ => ?_⟩
        apply itX_stop
        unfold f_X2_isSame_L11
        rw [aN_fa h, Option.bind_some, if_neg (nI_ge (by omega) (by omega)), l1, Option.bind_some, l2, Option.bind_some, if_neg (fun q => c ((fL_eq hB).mp q))]
  have k0 := key n 0 (by omega)
  rw [nI_0] at k0
  constructor
  · intro q
    unfold f_X2_isSame
    rw [aN_fa h, Option.bind_some, aN_fa g, Option.bind_some, if_pos rfl, k0.1 (fun j _ hj => q j hj)]
    rfl
  · intro q
    unfold f_X2_isSame
    rw [aN_fa h, Option.bind_some, aN_fa g, Option.bind_some, if_pos rfl, k0.2 (fun z => q (fun j hj => z j (Nat.zero_le _) hj))]
    rfl
theorem t_isSame_ne {hp : cH} {a b n m : Nat} {x y : Nat → Fin P} (h : fa hp a n x) (g : fa hp b m y) (hn : n ≤ 64) (hm : m ≤ 64) (hne : n ≠ m) : f_X2_isSame hp a b = some 0 := by
  unfold f_X2_isSame
  rw [aN_fa h, Option.bind_some, aN_fa g, Option.bind_some, if_neg (by rw [nI_eq (by omega) (by omega)]; exact hne)]
/-- divided by its first number that is not 0 -/
def nmV [NeZero P] (x : Nat → Fin P) (n : Nat) : Nat → Fin P := fun j => if ldV x n < n then x j * fi (x (ldV x n)) else x j
theorem fi_1 [NeZero P] (h : isP P) : fi (1 : Fin P) = 1 := (fi_uniq h (show (1 : Fin P) * 1 = 1 by grind)).symm
theorem old_of {hp hp' : cH} {a sz : Nat} (h : oth hp hp' (fun b => b = a)) (ha : sz ≤ a) : oth hp hp' (fun b => sz ≤ b) := h.wk (fun b (hb : b = a) => by rw [hb]; exact ha)
theorem eR.old {w ro fo sz : Nat} {hp hp' : cH} (h : eR P w ro fo hp) (h1 : ro < sz) (h2 : fo < sz) (e : oth hp hp' (fun b => sz ≤ b)) : eR P w ro fo hp' := h.kept (e ro (by omega)) (e fo (by omega))
theorem fa.old {hp hp' : cH} {a n sz : Nat} {x : Nat → Fin P} (h : fa hp a n x) (h1 : a < sz) (e : oth hp hp' (fun b => sz ≤ b)) : fa hp' a n x := fa_of h (e a (by omega))
theorem t_normal [NeZero P] (hp0 : isP P) (hB : P < 2 ^ 31) {hp : cH} {w ro fo a n sz : Nat} {x : Nat → Fin P} (he : eR P w ro fo hp) (h1 : ro < sz) (h2 : fo < sz) (ha : a < sz) (h : fa hp a n x) (hn : n ≤ 64) : ∃ hp', f_X2_normal hp sz ro a = some (sz, hp', sz + 1) ∧ fa hp' sz n (nmV x n) ∧ oth hp hp' (fun b => sz ≤ b) := by
  have hP := hp0.1
  obtain ⟨hpc, c1, c2, c3⟩ := c_fa (sz := sz) h hn
  have c3' := old_of c3 (Nat.le_refl sz)
  have hec := he.old h1 h2 c3'
  have hac := h.old ha c3'
  obtain ⟨wz, w1, w2⟩ := aJ_fa c2
  have hle := ldV_le x n
  unfold f_X2_normal
  rw [t_lead hB h hn, Option.bind_some, c1, Option.bind_some, w1, Option.bind_some, aN_fa hac, Option.bind_some]
  by_cases e : ldV x n < n
  · rw [if_neg (nI_ge e (by omega)), l_fa hac e (by omega), Option.bind_some]
    by_cases o : x (ldV x n) = 1
    · refine ⟨hpc, by rw [if_pos ((fL_1 hP hB).mpr o)], fa_congr c2 (fun j _ => ?_), c3'⟩
      unfold nmV
      rw [if_pos e, o, fi_1 hp0]
      grind
    · obtain ⟨hpd, d1, d2, d3⟩ := t_scale hP hB hec c2 hn (fi (x (ldV x n)))
      refine ⟨hpd, ?_, fa_congr d2 (fun j _ => ?_), c3'.trans (old_of d3 (Nat.le_refl sz))⟩
      · rw [if_neg (lN1_ne hp0 hB o), hec.fo, Option.bind_some, Option.bind_some, if_pos hec.of, t_recip hP hB hec.p hec.of, Option.bind_some, if_pos hec.o, d1, Option.bind_some]
      · unfold nmV
        rw [if_pos e]
  · refine ⟨hpc, by rw [if_pos (nI_le (by omega) (by omega))], fa_congr c2 (fun j _ => ?_), c3'⟩
    unfold nmV
    rw [if_neg e]
/-- loops that fill one array -/
def flV [NeZero P] (ix : Nat → Nat) (v : Nat → Fin P) : Nat → (Nat → Fin P) → Nat → Fin P
  | 0, x => x
  | k + 1, x => fun j => if j = ix k then v k else flV ix v k x j
theorem flV_id [NeZero P] (v x : Nat → Fin P) : ∀ N j, flV (fun k => k) v N x j = if j < N then v j else x j
  | 0, j => by simp [flV]
  | N + 1, j => by
    show (if j = N then v N else flV (fun k => k) v N x j) = _
    rw [flV_id v x N j]
    by_cases e : j = N
    · rw [if_pos e, if_pos (by omega), e]
    · rw [if_neg e]
      by_cases e2 : j < N
      · rw [if_pos e2, if_pos (by omega)]
      · rw [if_neg e2, if_neg (by omega)]
theorem flV_in [NeZero P] {ix : Nat → Nat} {v x : Nat → Fin P} : ∀ {N k : Nat}, (∀ i j, i < N → j < N → ix i = ix j → i = j) → k < N → flV ix v N x (ix k) = v k
  | 0, k, _, h => by omega
  | N + 1, k, hi, h => by
    show (if ix k = ix N then v N else flV ix v N x (ix k)) = v k
    by_cases e : k = N
    · rw [e, if_pos rfl]
    · rw [if_neg (fun q => e (hi k N h (by omega) q))]
      exact flV_in (fun i j a b c => hi i j (by omega) (by omega) c) (by omega)
theorem flV_out [NeZero P] {ix : Nat → Nat} {v x : Nat → Fin P} : ∀ {N j : Nat}, (∀ k, k < N → j ≠ ix k) → flV ix v N x j = x j
  | 0, _, _ => rfl
  | N + 1, j, h => by
    show (if j = ix N then v N else flV ix v N x j) = x j
    rw [if_neg (h N (by omega))]
    exact flV_out (fun k hk => h k (by omega))
theorem fillL [NeZero P] {f : Int32 × cH → Option ((Int32 × cH) ⊕ cH)} {hp : cH} {a n N : Nat} {x0 : Nat → Fin P} (h : fa hp a n x0) (hn : n ≤ 64) (hN : N ≤ 64) (ix : Nat → Nat) (hix : ∀ k, k < N → ix k < n) (v : Nat → Fin P) (step : ∀ (k : Nat) (hp1 hp2 : cH), k < N → oth hp hp1 (fun b => b = a) → sJ hp1 a (nI (ix k)) (fL (v k)) = some hp2 → f (nI k, hp1) = some (.inl (nI (k + 1), hp2))) (stop : ∀ hp1 : cH, oth hp hp1 (fun b => b = a) → f (nI N, hp1) = some (.inr hp1)) : ∃ hp', itX f (0, hp) = some hp' ∧ fa hp' a n (flV ix v N x0) ∧ oth hp hp' (fun b => b = a) := by
  refine it_inv (fun k s => s.1 = nI k ∧ fa s.2 a n (flV ix v k x0) ∧ oth hp s.2 (fun b => b = a)) N (fun hp' => fa hp' a n (flV ix v N x0) ∧ oth hp hp' (fun b => b = a)) ?_ ?_ (0, hp) ⟨nI_0.symm, h, oth.rf⟩
  · rintro k ⟨k', hp1⟩ hk ⟨e1, h1, h2⟩
    dsimp only at e1 h1 h2
    subst e1
    obtain ⟨hp2, g1, g2, g3⟩ := s_fa h1 (hix k hk) (by omega) (v k)
    exact ⟨(nI (k + 1), hp2), step k hp1 hp2 hk h2 g1, rfl, g2, h2.trans g3⟩
  · rintro ⟨k', hp1⟩ ⟨e1, h1, h2⟩
    dsimp only at e1 h1 h2
    subst e1
    exact ⟨hp1, stop hp1 h2, h1, h2⟩
/-- sums of products -/
theorem t_dot [NeZero P] (hP : 2 < P) (hB : P < 2 ^ 31) {hp : cH} {w ro fo a b n : Nat} {x y : Nat → Fin P} (he : eR P w ro fo hp) (h : fa hp a n x) (g : fa hp b n y) (hn : n ≤ 64) : f_X2_dot hp ro a b = some (fL (sF (fun j => x j * y j) n)) := by
  unfold f_X2_dot
  have key := itX_count (f := fun s : Int64 × Int32 => f_X2_dot_L5 hp ro a b s.1 s.2) (fun i => (fL (sF (fun j => x j * y j) i), nI i)) (N := n) (r := fL (sF (fun j => x j * y j) n)) ?_ ?_
  · rw [show ((0 : Int64), (0 : Int32)) = (fL (sF (fun j => x j * y j) 0), nI 0) by unfold sF; rw [fL_z]; rfl, key, Option.bind_some]
  · intro i hi
    unfold f_X2_dot_L5
    dsimp only
    rw [aN_fa h, Option.bind_some, if_neg (nI_ge hi (by omega)), aN_fa g, Option.bind_some, if_neg (nI_ge hi (by omega)), he.fo, Option.bind_some, Option.bind_some, l_fa h hi (by omega), Option.bind_some, l_fa g hi (by omega), Option.bind_some, if_pos he.of, t_times hP hB he.p, Option.bind_some, if_pos he.of, t_plus hP hB he.p, Option.bind_some, nI_1]
    rfl
  · unfold f_X2_dot_L5
    dsimp only
    rw [aN_fa h, Option.bind_some, if_pos (nI_le (Nat.le_refl _) (by omega))]
/-- s x + t y -/
theorem t_sum [NeZero P] (hP : 2 < P) (hB : P < 2 ^ 31) {hp : cH} {w ro fo a b n m sz : Nat} {x y : Nat → Fin P} (he : eR P w ro fo hp) (h1 : ro < sz) (h2 : fo < sz) (ha : a < sz) (hb : b < sz) (h : fa hp a n x) (g : fa hp b m y) (hwn : w ≤ n) (hwm : w ≤ m) (hn : n ≤ 64) (hm : m ≤ 64) (s t : Fin P) : ∃ hp', f_X2_sum hp sz ro (fL s) a (fL t) b = some (sz, hp', sz + 1) ∧ fa hp' sz w (fun j => s * x j + t * y j) ∧ oth hp hp' (fun b => sz ≤ b) := by
  obtain ⟨hpn, n1, n2, n3⟩ := n_fa (P := P) (hp := hp) (sz := sz) (n := w) (by omega)
  have n3' := old_of n3 (Nat.le_refl sz)
  have key0 := fillL (f := fun z : Int32 × cH => f_X2_sum_L11 ro (fL s) a (fL t) b sz z.1 z.2) n2 (by omega) (N := w) (by omega) (fun k => k) (fun k hk => hk) (fun j => s * x j + t * y j) ?_ ?_
  · obtain ⟨hp', f1, f2, f3⟩ := key0
    refine ⟨hp', ?_, fa_congr f2 (fun j hj => by rw [flV_id, if_pos hj]), n3'.trans (old_of f3 (Nat.le_refl sz))⟩
    unfold f_X2_sum
    rw [he.w, Option.bind_some, n1, Option.bind_some, f1, Option.bind_some]
  · intro k q1 q2 hk o1 o2
    have o1' := n3'.trans (old_of o1 (Nat.le_refl sz))
    have he1 := he.old h1 h2 o1'
    unfold f_X2_sum_L11
    dsimp only
    rw [he1.w, Option.bind_some, if_neg (nI_ge hk (by omega)), he1.fo, Option.bind_some, Option.bind_some, l_fa (h.old ha o1') (by omega) (by omega), Option.bind_some, if_pos he1.of, t_times hP hB he1.p, Option.bind_some, Option.bind_some, l_fa (g.old hb o1') (by omega) (by omega), Option.bind_some, if_pos he1.of, t_times hP hB he1.p, Option.bind_some, if_pos he1.of, t_plus hP hB he1.p, Option.bind_some, o2, Option.bind_some, nI_1]
  · intro q1 o1
    have o1' := n3'.trans (old_of o1 (Nat.le_refl sz))
    have he1 := he.old h1 h2 o1'
    unfold f_X2_sum_L11
    dsimp only
    rw [he1.w, Option.bind_some, if_pos (nI_le (Nat.le_refl _) (by omega))]
/-- a square times a row -/
def imV [NeZero P] (w : Nat) (Q x : Nat → Fin P) : Nat → Fin P := fun i => sF (fun j => Q (i * w + j) * x j) w
theorem ixw (i w j : Nat) : nI i * nI w + nI j = nI (i * w + j) := by rw [pk_mul, nI_add]
theorem row_lt {i j w : Nat} (hi : i < w) (hj : j < w) : i * w + j < w * w := by
  have : (i + 1) * w ≤ w * w := Nat.mul_le_mul (by omega) (Nat.le_refl w)
  rw [Nat.add_mul, Nat.one_mul] at this
  omega
theorem w_sq {w : Nat} (h : w ≤ 8) : w * w ≤ 64 := Nat.mul_le_mul h h
theorem t_imageInto [NeZero P] (hP : 2 < P) (hB : P < 2 ^ 31) {hp : cH} {w ro fo a q b : Nat} {Q x y : Nat → Fin P} (he : eR P w ro fo hp) (hw : w ≤ 8) (hQ : fa hp q (w * w) Q) (hx : fa hp b w x) (ha : fa hp a w y) (h1 : a ≠ q) (h2 : a ≠ b) : ∃ hp', f_X2_imageInto hp ro a q b = some hp' ∧ fa hp' a w (imV w Q x) ∧ oth hp hp' (fun c => c = a) := by
  have hws := w_sq hw
  have key0 := fillL (f := fun z : Int32 × cH => f_X2_imageInto_L3 ro a q b z.1 z.2) ha (by omega) (N := w) (by omega) (fun k => k) (fun k hk => hk) (imV w Q x) ?_ ?_
  · obtain ⟨hp', f1, f2, f3⟩ := key0
    refine ⟨hp', ?_, fa_congr f2 (fun j hj => by rw [flV_id, if_pos hj]), f3⟩
    unfold f_X2_imageInto
    rw [f1, Option.bind_some]
  · intro k q1 q2 hk o1 o2
    have he1 : eR P w ro fo q1 := he.arr (fun c (hc : c = a) => by rw [hc]; exact ha.arr) o1
    have hQ1 : fa q1 q (w * w) Q := fa_of hQ (o1 q (fun e => h1 e.symm))
    have hx1 : fa q1 b w x := fa_of hx (o1 b (fun e => h2 e.symm))
    have key := itX_count (f := fun s : Int64 × Int32 => f_X2_imageInto_L18 q1 ro q b (nI k) s.1 s.2) (fun i => (fL (sF (fun j => Q (k * w + j) * x j) i), nI i)) (N := w) (r := fL (imV w Q x k)) ?_ ?_
    · unfold f_X2_imageInto_L3
      dsimp only
      rw [he1.w, Option.bind_some, if_neg (nI_ge hk (by omega)), show ((0 : Int64), (0 : Int32)) = (fL (sF (fun j => Q (k * w + j) * x j) 0), nI 0) by unfold sF; rw [fL_z]; rfl, key, Option.bind_some, o2, Option.bind_some, nI_1]
    · intro i hi
      have := row_lt hk hi
      unfold f_X2_imageInto_L18
      dsimp only
      rw [he1.w, Option.bind_some, if_neg (nI_ge hi (by omega)), he1.fo, Option.bind_some, Option.bind_some, Option.bind_some, ixw, l_fa hQ1 (row_lt hk hi) (by omega), Option.bind_some, l_fa hx1 hi (by omega), Option.bind_some, if_pos he1.of, t_times hP hB he1.p, Option.bind_some, if_pos he1.of, t_plus hP hB he1.p, Option.bind_some, nI_1]
      rfl
    · unfold f_X2_imageInto_L18
      dsimp only
      rw [he1.w, Option.bind_some, if_pos (nI_le (Nat.le_refl _) (by omega))]
      rfl
  · intro q1 o1
    have he1 : eR P w ro fo q1 := he.arr (fun c (hc : c = a) => by rw [hc]; exact ha.arr) o1
    unfold f_X2_imageInto_L3
    dsimp only
    rw [he1.w, Option.bind_some, if_pos (nI_le (Nat.le_refl _) (by omega))]
theorem t_image [NeZero P] (hP : 2 < P) (hB : P < 2 ^ 31) {hp : cH} {w ro fo q b sz : Nat} {Q x : Nat → Fin P} (he : eR P w ro fo hp) (hw : w ≤ 8) (h1 : ro < sz) (h2 : fo < sz) (hq : q < sz) (hb : b < sz) (hQ : fa hp q (w * w) Q) (hx : fa hp b w x) : ∃ hp', f_X2_image hp sz ro q b = some (sz, hp', sz + 1) ∧ fa hp' sz w (imV w Q x) ∧ oth hp hp' (fun c => sz ≤ c) := by
  obtain ⟨hpn, n1, n2, n3⟩ := n_fa (P := P) (hp := hp) (sz := sz) (n := w) (by omega)
  have n3' := old_of n3 (Nat.le_refl sz)
  have hen := he.old h1 h2 n3'
  obtain ⟨hp', f1, f2, f3⟩ := t_imageInto hP hB hen hw (hQ.old hq n3') (hx.old hb n3') n2 (by omega) (by omega)
  refine ⟨hp', ?_, f2, n3'.trans (old_of f3 (Nat.le_refl sz))⟩
  unfold f_X2_image
  rw [he.w, Option.bind_some, n1, Option.bind_some, if_pos hen.o, f1, Option.bind_some]
theorem t_form [NeZero P] (hP : 2 < P) (hB : P < 2 ^ 31) {hp : cH} {w ro fo q a b sz : Nat} {Q x y : Nat → Fin P} (he : eR P w ro fo hp) (hw : w ≤ 8) (h1 : ro < sz) (h2 : fo < sz) (hq : q < sz) (ha : a < sz) (hb : b < sz) (hQ : fa hp q (w * w) Q) (hx : fa hp a w x) (hy : fa hp b w y) : ∃ hp', f_X2_form hp sz ro q a b = some (fL (sF (fun j => x j * imV w Q y j) w), hp', sz + 1) ∧ oth hp hp' (fun c => sz ≤ c) := by
  obtain ⟨hp', f1, f2, f3⟩ := t_image hP hB he hw h1 h2 hq hb hQ hy
  have he1 := he.old h1 h2 f3
  refine ⟨hp', ?_, f3⟩
  unfold f_X2_form
  rw [if_pos he.o, f1, Option.bind_some]
  dsimp only
  rw [if_pos he1.o, t_dot hP hB he1 (hx.old ha f3) f2 (by omega), Option.bind_some]
end VEC
