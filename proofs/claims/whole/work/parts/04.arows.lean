section AROWS
variable {K : kT} {cc : ByteArray} {own mn : String} {fr lc mc ms nL : Nat} {ret : Option FieldType} {O : oT} {hp : cH} {sz rc rs pc : Nat} {lv : List (Nat × Value)} {st : List Value}
theorem r_iconst (C : aC K cc own mn fr lc mc ms nL ret O) {n : Int} {v : Int32} (d : decode cc pc = .ok (.iconst n, 1)) (hv : Int32.ofInt n = v) (k : aW K hp sz rc rs (pc + 1) lv (.int v :: st)) : aW K hp sz rc rs pc lv (st) := by
  obtain ⟨G, p, e, R, s, m, args, below, meth, c, n, O'⟩ := K
  intro H locs cells slots ls h1 h2 h3 h4 h5
  exact lv_iconst C.1 C.2.1 d hv (k H locs cells slots ls h1 h2 h3 h4 h5)
theorem r_bipush (C : aC K cc own mn fr lc mc ms nL ret O) {n : Int} {v : Int32} (d : decode cc pc = .ok (.bipush n, 2)) (hv : (Int8.ofInt n).toInt32 = v) (k : aW K hp sz rc rs (pc + 2) lv (.int v :: st)) : aW K hp sz rc rs pc lv (st) := by
  obtain ⟨G, p, e, R, s, m, args, below, meth, c, n, O'⟩ := K
  intro H locs cells slots ls h1 h2 h3 h4 h5
  exact lv_bipush C.1 C.2.1 d hv (k H locs cells slots ls h1 h2 h3 h4 h5)
theorem r_sipush (C : aC K cc own mn fr lc mc ms nL ret O) {n : Int} {v : Int32} (d : decode cc pc = .ok (.sipush n, 3)) (hv : (Int16.ofInt n).toInt32 = v) (k : aW K hp sz rc rs (pc + 3) lv (.int v :: st)) : aW K hp sz rc rs pc lv (st) := by
  obtain ⟨G, p, e, R, s, m, args, below, meth, c, n, O'⟩ := K
  intro H locs cells slots ls h1 h2 h3 h4 h5
  exact lv_sipush C.1 C.2.1 d hv (k H locs cells slots ls h1 h2 h3 h4 h5)
theorem r_lconst (C : aC K cc own mn fr lc mc ms nL ret O) {n : Fin 2} {v : Int64} (d : decode cc pc = .ok (.lconst n, 1)) (hv : Int64.ofNat (n : Nat) = v) (k : aW K hp sz rc rs (pc + 1) lv (.long v :: st)) : aW K hp sz rc rs pc lv (st) := by
  obtain ⟨G, p, e, R, s, m, args, below, meth, c, n, O'⟩ := K
  intro H locs cells slots ls h1 h2 h3 h4 h5
  exact lv_lconst C.1 C.2.1 d hv (k H locs cells slots ls h1 h2 h3 h4 h5)
theorem r_iload_n (C : aC K cc own mn fr lc mc ms nL ret O) {k : Fin 4} {i : Nat} {x : Int32} (j : Nat) (hj : lv[j]? = some (i, .int x)) (d : decode cc pc = .ok (.iload_n k, 1)) (hi : (k : Nat) = i) (k : aW K hp sz rc rs (pc + 1) lv (.int x :: st)) : aW K hp sz rc rs pc lv (st) := by
  obtain ⟨G, p, e, R, s, m, args, below, meth, c, n, O'⟩ := K
  intro H locs cells slots ls h1 h2 h3 h4 h5
  exact lv_iload_n C.1 C.2.1 d hi (lv_at h3 j hj) (k H locs cells slots ls h1 h2 h3 h4 h5)
theorem r_iload (C : aC K cc own mn fr lc mc ms nL ret O) {i : Nat} {x : Int32} (j : Nat) (hj : lv[j]? = some (i, .int x)) (d : decode cc pc = .ok (.iload i, 2))  (k : aW K hp sz rc rs (pc + 2) lv (.int x :: st)) : aW K hp sz rc rs pc lv (st) := by
  obtain ⟨G, p, e, R, s, m, args, below, meth, c, n, O'⟩ := K
  intro H locs cells slots ls h1 h2 h3 h4 h5
  exact lv_iload C.1 C.2.1 d (lv_at h3 j hj) (k H locs cells slots ls h1 h2 h3 h4 h5)
theorem r_lload_n (C : aC K cc own mn fr lc mc ms nL ret O) {k : Fin 4} {i : Nat} {x : Int64} (j : Nat) (hj : lv[j]? = some (i, .long x)) (d : decode cc pc = .ok (.lload_n k, 1)) (hi : (k : Nat) = i) (k : aW K hp sz rc rs (pc + 1) lv (.long x :: st)) : aW K hp sz rc rs pc lv (st) := by
  obtain ⟨G, p, e, R, s, m, args, below, meth, c, n, O'⟩ := K
  intro H locs cells slots ls h1 h2 h3 h4 h5
  exact lv_lload_n C.1 C.2.1 d hi (lv_at h3 j hj) (k H locs cells slots ls h1 h2 h3 h4 h5)
theorem r_lload (C : aC K cc own mn fr lc mc ms nL ret O) {i : Nat} {x : Int64} (j : Nat) (hj : lv[j]? = some (i, .long x)) (d : decode cc pc = .ok (.lload i, 2))  (k : aW K hp sz rc rs (pc + 2) lv (.long x :: st)) : aW K hp sz rc rs pc lv (st) := by
  obtain ⟨G, p, e, R, s, m, args, below, meth, c, n, O'⟩ := K
  intro H locs cells slots ls h1 h2 h3 h4 h5
  exact lv_lload C.1 C.2.1 d (lv_at h3 j hj) (k H locs cells slots ls h1 h2 h3 h4 h5)
theorem r_aload_n (C : aC K cc own mn fr lc mc ms nL ret O) {k : Fin 4} {i : Nat} {x : Nat} (j : Nat) (hj : lv[j]? = some (i, .ref x)) (d : decode cc pc = .ok (.aload_n k, 1)) (hi : (k : Nat) = i) (k : aW K hp sz rc rs (pc + 1) lv (.ref x :: st)) : aW K hp sz rc rs pc lv (st) := by
  obtain ⟨G, p, e, R, s, m, args, below, meth, c, n, O'⟩ := K
  intro H locs cells slots ls h1 h2 h3 h4 h5
  exact lv_aload_n C.1 C.2.1 d hi (lv_at h3 j hj) (k H locs cells slots ls h1 h2 h3 h4 h5)
theorem r_aload (C : aC K cc own mn fr lc mc ms nL ret O) {i : Nat} {x : Nat} (j : Nat) (hj : lv[j]? = some (i, .ref x)) (d : decode cc pc = .ok (.aload i, 2))  (k : aW K hp sz rc rs (pc + 2) lv (.ref x :: st)) : aW K hp sz rc rs pc lv (st) := by
  obtain ⟨G, p, e, R, s, m, args, below, meth, c, n, O'⟩ := K
  intro H locs cells slots ls h1 h2 h3 h4 h5
  exact lv_aload C.1 C.2.1 d (lv_at h3 j hj) (k H locs cells slots ls h1 h2 h3 h4 h5)
theorem r_aload_nq (C : aC K cc own mn fr lc mc ms nL ret O) {k : Fin 4} {i : Nat} {x : Option Nat} (j : Nat) (hj : lv[j]? = some (i, va_rf x)) (d : decode cc pc = .ok (.aload_n k, 1)) (hi : (k : Nat) = i) (kk : aW K hp sz rc rs (pc + 1) lv (va_rf x :: st)) : aW K hp sz rc rs pc lv st := by
  cases x with
  | some x => exact r_aload_n C j hj d hi kk
  | none =>
    obtain ⟨G, p, e, R, s, m, args, below, meth, c, n, O'⟩ := K
    intro H locs cells slots ls h1 h2 h3 h4 h5
    exact lv_aload_nN C.1 C.2.1 d hi (lv_at h3 j hj) (kk H locs cells slots ls h1 h2 h3 h4 h5)
theorem r_aloadq (C : aC K cc own mn fr lc mc ms nL ret O) {i : Nat} {x : Option Nat} (j : Nat) (hj : lv[j]? = some (i, va_rf x)) (d : decode cc pc = .ok (.aload i, 2)) (kk : aW K hp sz rc rs (pc + 2) lv (va_rf x :: st)) : aW K hp sz rc rs pc lv st := by
  cases x with
  | some x => exact r_aload C j hj d kk
  | none =>
    obtain ⟨G, p, e, R, s, m, args, below, meth, c, n, O'⟩ := K
    intro H locs cells slots ls h1 h2 h3 h4 h5
    exact lv_aloadN C.1 C.2.1 d (lv_at h3 j hj) (kk H locs cells slots ls h1 h2 h3 h4 h5)
theorem r_istore_n (C : aC K cc own mn fr lc mc ms nL ret O) {k : Fin 4} {i : Nat} {x : Int32} {lv' : List (Nat × Value)} (d : decode cc pc = .ok (.istore_n k, 1)) (hi : (k : Nat) = i) (hn : i < nL) (hl : (i, Value.int x) :: lv.filter (fun q => !(q.1 == i) && !(q.1 + 1 == i && q.2.category == 2)) = lv') (kk : aW K hp sz rc rs (pc + 1) lv' st) : aW K hp sz rc rs pc lv (.int x :: st) := by
  obtain ⟨G, p, e, R, s, m, args, below, meth, c, n, O'⟩ := K
  obtain ⟨c1, c2, c3, c4, c5, c6, c7, c8, c9, c10, c11, c12⟩ := C
  subst c10
  intro H locs cells slots ls h1 h2 h3 h4 h5
  exact lv_istore_n c1 c2 d hi h3 hn hl (fun ls' h3' => kk H locs cells slots ls' h1 h2 h3' h4 h5)
theorem r_istore (C : aC K cc own mn fr lc mc ms nL ret O) {i : Nat} {x : Int32} {lv' : List (Nat × Value)} (d : decode cc pc = .ok (.istore i, 2)) (hn : i < nL) (hl : (i, Value.int x) :: lv.filter (fun q => !(q.1 == i) && !(q.1 + 1 == i && q.2.category == 2)) = lv') (kk : aW K hp sz rc rs (pc + 2) lv' st) : aW K hp sz rc rs pc lv (.int x :: st) := by
  obtain ⟨G, p, e, R, s, m, args, below, meth, c, n, O'⟩ := K
  obtain ⟨c1, c2, c3, c4, c5, c6, c7, c8, c9, c10, c11, c12⟩ := C
  subst c10
  intro H locs cells slots ls h1 h2 h3 h4 h5
  exact lv_istore c1 c2 d h3 hn hl (fun ls' h3' => kk H locs cells slots ls' h1 h2 h3' h4 h5)
theorem r_lstore_n (C : aC K cc own mn fr lc mc ms nL ret O) {k : Fin 4} {i : Nat} {x : Int64} {lv' : List (Nat × Value)} (d : decode cc pc = .ok (.lstore_n k, 1)) (hi : (k : Nat) = i) (hn : i + 1 < nL) (hl : (i, Value.long x) :: lv.filter (fun q => !(q.1 == i) && (!(q.1 == i + 1) && !(q.1 + 1 == i && q.2.category == 2))) = lv') (kk : aW K hp sz rc rs (pc + 1) lv' st) : aW K hp sz rc rs pc lv (.long x :: st) := by
  obtain ⟨G, p, e, R, s, m, args, below, meth, c, n, O'⟩ := K
  obtain ⟨c1, c2, c3, c4, c5, c6, c7, c8, c9, c10, c11, c12⟩ := C
  subst c10
  intro H locs cells slots ls h1 h2 h3 h4 h5
  exact lv_lstore_n c1 c2 d hi h3 hn hl (fun ls' h3' => kk H locs cells slots ls' h1 h2 h3' h4 h5)
theorem r_lstore (C : aC K cc own mn fr lc mc ms nL ret O) {i : Nat} {x : Int64} {lv' : List (Nat × Value)} (d : decode cc pc = .ok (.lstore i, 2)) (hn : i + 1 < nL) (hl : (i, Value.long x) :: lv.filter (fun q => !(q.1 == i) && (!(q.1 == i + 1) && !(q.1 + 1 == i && q.2.category == 2))) = lv') (kk : aW K hp sz rc rs (pc + 2) lv' st) : aW K hp sz rc rs pc lv (.long x :: st) := by
  obtain ⟨G, p, e, R, s, m, args, below, meth, c, n, O'⟩ := K
  obtain ⟨c1, c2, c3, c4, c5, c6, c7, c8, c9, c10, c11, c12⟩ := C
  subst c10
  intro H locs cells slots ls h1 h2 h3 h4 h5
  exact lv_lstore c1 c2 d h3 hn hl (fun ls' h3' => kk H locs cells slots ls' h1 h2 h3' h4 h5)
theorem r_astore_n (C : aC K cc own mn fr lc mc ms nL ret O) {k : Fin 4} {i : Nat} {x : Nat} {lv' : List (Nat × Value)} (d : decode cc pc = .ok (.astore_n k, 1)) (hi : (k : Nat) = i) (hn : i < nL) (hl : (i, Value.ref x) :: lv.filter (fun q => !(q.1 == i) && !(q.1 + 1 == i && q.2.category == 2)) = lv') (kk : aW K hp sz rc rs (pc + 1) lv' st) : aW K hp sz rc rs pc lv (.ref x :: st) := by
  obtain ⟨G, p, e, R, s, m, args, below, meth, c, n, O'⟩ := K
  obtain ⟨c1, c2, c3, c4, c5, c6, c7, c8, c9, c10, c11, c12⟩ := C
  subst c10
  intro H locs cells slots ls h1 h2 h3 h4 h5
  exact lv_astore_n c1 c2 d hi h3 hn hl (fun ls' h3' => kk H locs cells slots ls' h1 h2 h3' h4 h5)
theorem r_astore (C : aC K cc own mn fr lc mc ms nL ret O) {i : Nat} {x : Nat} {lv' : List (Nat × Value)} (d : decode cc pc = .ok (.astore i, 2)) (hn : i < nL) (hl : (i, Value.ref x) :: lv.filter (fun q => !(q.1 == i) && !(q.1 + 1 == i && q.2.category == 2)) = lv') (kk : aW K hp sz rc rs (pc + 2) lv' st) : aW K hp sz rc rs pc lv (.ref x :: st) := by
  obtain ⟨G, p, e, R, s, m, args, below, meth, c, n, O'⟩ := K
  obtain ⟨c1, c2, c3, c4, c5, c6, c7, c8, c9, c10, c11, c12⟩ := C
  subst c10
  intro H locs cells slots ls h1 h2 h3 h4 h5
  exact lv_astore c1 c2 d h3 hn hl (fun ls' h3' => kk H locs cells slots ls' h1 h2 h3' h4 h5)
theorem r_astore_nq (C : aC K cc own mn fr lc mc ms nL ret O) {k : Fin 4} {i : Nat} {x : Option Nat} {lv' : List (Nat × Value)} (d : decode cc pc = .ok (.astore_n k, 1)) (hi : (k : Nat) = i) (hn : i < nL) (hl : (i, va_rf x) :: lv.filter (fun q => !(q.1 == i) && !(q.1 + 1 == i && q.2.category == 2)) = lv') (kk : aW K hp sz rc rs (pc + 1) lv' st) : aW K hp sz rc rs pc lv (va_rf x :: st) := by
  cases x with
  | some x => exact r_astore_n C d hi hn hl kk
  | none =>
    obtain ⟨G, p, e, R, s, m, args, below, meth, c, n, O'⟩ := K
    obtain ⟨c1, c2, c3, c4, c5, c6, c7, c8, c9, c10, c11, c12⟩ := C
    subst c10
    intro H locs cells slots ls h1 h2 h3 h4 h5
    exact lv_astore_nN c1 c2 d hi h3 hn hl (fun ls' h3' => kk H locs cells slots ls' h1 h2 h3' h4 h5)
theorem r_astoreq (C : aC K cc own mn fr lc mc ms nL ret O) {i : Nat} {x : Option Nat} {lv' : List (Nat × Value)} (d : decode cc pc = .ok (.astore i, 2)) (hn : i < nL) (hl : (i, va_rf x) :: lv.filter (fun q => !(q.1 == i) && !(q.1 + 1 == i && q.2.category == 2)) = lv') (kk : aW K hp sz rc rs (pc + 2) lv' st) : aW K hp sz rc rs pc lv (va_rf x :: st) := by
  cases x with
  | some x => exact r_astore C d hn hl kk
  | none =>
    obtain ⟨G, p, e, R, s, m, args, below, meth, c, n, O'⟩ := K
    obtain ⟨c1, c2, c3, c4, c5, c6, c7, c8, c9, c10, c11, c12⟩ := C
    subst c10
    intro H locs cells slots ls h1 h2 h3 h4 h5
    exact lv_astoreN c1 c2 d h3 hn hl (fun ls' h3' => kk H locs cells slots ls' h1 h2 h3' h4 h5)
theorem r_iinc (C : aC K cc own mn fr lc mc ms nL ret O) {i : Nat} {n : Int} {x v : Int32} {lv' : List (Nat × Value)} (j : Nat) (hj : lv[j]? = some (i, .int x)) (d : decode cc pc = .ok (.iinc i n, 3)) (hv : x + Int32.ofInt n = v) (hn : i < nL) (hl : (i, Value.int v) :: lv.filter (fun q => !(q.1 == i) && !(q.1 + 1 == i && q.2.category == 2)) = lv') (kk : aW K hp sz rc rs (pc + 3) lv' st) : aW K hp sz rc rs pc lv st := by
  obtain ⟨G, p, e, R, s, m, args, below, meth, c, n', O'⟩ := K
  obtain ⟨c1, c2, c3, c4, c5, c6, c7, c8, c9, c10, c11, c12⟩ := C
  subst c10
  intro H locs cells slots ls h1 h2 h3 h4 h5
  exact lv_iinc c1 c2 d h3 hj hv hn hl (fun ls' h3' => kk H locs cells slots ls' h1 h2 h3' h4 h5)
theorem r_iadd (C : aC K cc own mn fr lc mc ms nL ret O) {x y : Int32} (d : decode cc pc = .ok (.iadd, 1))  (k : aW K hp sz rc rs (pc + 1) lv (.int (x + y) :: st)) : aW K hp sz rc rs pc lv (.int y :: .int x :: st) := by
  obtain ⟨G, p, e, R, s, m, args, below, meth, c, n, O'⟩ := K
  intro H locs cells slots ls h1 h2 h3 h4 h5
  exact lv_iadd C.1 C.2.1 d  (k H locs cells slots ls h1 h2 h3 h4 h5)
theorem r_isub (C : aC K cc own mn fr lc mc ms nL ret O) {x y : Int32} (d : decode cc pc = .ok (.isub, 1))  (k : aW K hp sz rc rs (pc + 1) lv (.int (x - y) :: st)) : aW K hp sz rc rs pc lv (.int y :: .int x :: st) := by
  obtain ⟨G, p, e, R, s, m, args, below, meth, c, n, O'⟩ := K
  intro H locs cells slots ls h1 h2 h3 h4 h5
  exact lv_isub C.1 C.2.1 d  (k H locs cells slots ls h1 h2 h3 h4 h5)
theorem r_imul (C : aC K cc own mn fr lc mc ms nL ret O) {x y : Int32} (d : decode cc pc = .ok (.imul, 1))  (k : aW K hp sz rc rs (pc + 1) lv (.int (x * y) :: st)) : aW K hp sz rc rs pc lv (.int y :: .int x :: st) := by
  obtain ⟨G, p, e, R, s, m, args, below, meth, c, n, O'⟩ := K
  intro H locs cells slots ls h1 h2 h3 h4 h5
  exact lv_imul C.1 C.2.1 d  (k H locs cells slots ls h1 h2 h3 h4 h5)
theorem r_iand (C : aC K cc own mn fr lc mc ms nL ret O) {x y : Int32} (d : decode cc pc = .ok (.iand, 1))  (k : aW K hp sz rc rs (pc + 1) lv (.int (x &&& y) :: st)) : aW K hp sz rc rs pc lv (.int y :: .int x :: st) := by
  obtain ⟨G, p, e, R, s, m, args, below, meth, c, n, O'⟩ := K
  intro H locs cells slots ls h1 h2 h3 h4 h5
  exact lv_iand C.1 C.2.1 d  (k H locs cells slots ls h1 h2 h3 h4 h5)
theorem r_idiv (C : aC K cc own mn fr lc mc ms nL ret O) {x y : Int32} (d : decode cc pc = .ok (.idiv, 1)) (hne : ¬ y = 0) (k : aW K hp sz rc rs (pc + 1) lv (.int (x / y) :: st)) : aW K hp sz rc rs pc lv (.int y :: .int x :: st) := by
  obtain ⟨G, p, e, R, s, m, args, below, meth, c, n, O'⟩ := K
  intro H locs cells slots ls h1 h2 h3 h4 h5
  exact lv_idiv C.1 C.2.1 d hne (k H locs cells slots ls h1 h2 h3 h4 h5)
theorem r_irem (C : aC K cc own mn fr lc mc ms nL ret O) {x y : Int32} (d : decode cc pc = .ok (.irem, 1)) (hne : ¬ y = 0) (k : aW K hp sz rc rs (pc + 1) lv (.int (x - x / y * y) :: st)) : aW K hp sz rc rs pc lv (.int y :: .int x :: st) := by
  obtain ⟨G, p, e, R, s, m, args, below, meth, c, n, O'⟩ := K
  intro H locs cells slots ls h1 h2 h3 h4 h5
  exact lv_irem C.1 C.2.1 d hne (k H locs cells slots ls h1 h2 h3 h4 h5)
theorem r_ishr (C : aC K cc own mn fr lc mc ms nL ret O) {x y : Int32} (d : decode cc pc = .ok (.ishr, 1))  (k : aW K hp sz rc rs (pc + 1) lv (.int (x >>> (y &&& 31)) :: st)) : aW K hp sz rc rs pc lv (.int y :: .int x :: st) := by
  obtain ⟨G, p, e, R, s, m, args, below, meth, c, n, O'⟩ := K
  intro H locs cells slots ls h1 h2 h3 h4 h5
  exact lv_ishr C.1 C.2.1 d  (k H locs cells slots ls h1 h2 h3 h4 h5)
theorem r_ladd (C : aC K cc own mn fr lc mc ms nL ret O) {x y : Int64} (d : decode cc pc = .ok (.ladd, 1))  (k : aW K hp sz rc rs (pc + 1) lv (.long (x + y) :: st)) : aW K hp sz rc rs pc lv (.long y :: .long x :: st) := by
  obtain ⟨G, p, e, R, s, m, args, below, meth, c, n, O'⟩ := K
  intro H locs cells slots ls h1 h2 h3 h4 h5
  exact lv_ladd C.1 C.2.1 d  (k H locs cells slots ls h1 h2 h3 h4 h5)
theorem r_lsub (C : aC K cc own mn fr lc mc ms nL ret O) {x y : Int64} (d : decode cc pc = .ok (.lsub, 1))  (k : aW K hp sz rc rs (pc + 1) lv (.long (x - y) :: st)) : aW K hp sz rc rs pc lv (.long y :: .long x :: st) := by
  obtain ⟨G, p, e, R, s, m, args, below, meth, c, n, O'⟩ := K
  intro H locs cells slots ls h1 h2 h3 h4 h5
  exact lv_lsub C.1 C.2.1 d  (k H locs cells slots ls h1 h2 h3 h4 h5)
theorem r_lmul (C : aC K cc own mn fr lc mc ms nL ret O) {x y : Int64} (d : decode cc pc = .ok (.lmul, 1))  (k : aW K hp sz rc rs (pc + 1) lv (.long (x * y) :: st)) : aW K hp sz rc rs pc lv (.long y :: .long x :: st) := by
  obtain ⟨G, p, e, R, s, m, args, below, meth, c, n, O'⟩ := K
  intro H locs cells slots ls h1 h2 h3 h4 h5
  exact lv_lmul C.1 C.2.1 d  (k H locs cells slots ls h1 h2 h3 h4 h5)
theorem r_land (C : aC K cc own mn fr lc mc ms nL ret O) {x y : Int64} (d : decode cc pc = .ok (.land, 1))  (k : aW K hp sz rc rs (pc + 1) lv (.long (x &&& y) :: st)) : aW K hp sz rc rs pc lv (.long y :: .long x :: st) := by
  obtain ⟨G, p, e, R, s, m, args, below, meth, c, n, O'⟩ := K
  intro H locs cells slots ls h1 h2 h3 h4 h5
  exact lv_land C.1 C.2.1 d  (k H locs cells slots ls h1 h2 h3 h4 h5)
theorem r_lor (C : aC K cc own mn fr lc mc ms nL ret O) {x y : Int64} (d : decode cc pc = .ok (.lor, 1))  (k : aW K hp sz rc rs (pc + 1) lv (.long (x ||| y) :: st)) : aW K hp sz rc rs pc lv (.long y :: .long x :: st) := by
  obtain ⟨G, p, e, R, s, m, args, below, meth, c, n, O'⟩ := K
  intro H locs cells slots ls h1 h2 h3 h4 h5
  exact lv_lor C.1 C.2.1 d  (k H locs cells slots ls h1 h2 h3 h4 h5)
theorem r_lxor (C : aC K cc own mn fr lc mc ms nL ret O) {x y : Int64} (d : decode cc pc = .ok (.lxor, 1))  (k : aW K hp sz rc rs (pc + 1) lv (.long (x ^^^ y) :: st)) : aW K hp sz rc rs pc lv (.long y :: .long x :: st) := by
  obtain ⟨G, p, e, R, s, m, args, below, meth, c, n, O'⟩ := K
  intro H locs cells slots ls h1 h2 h3 h4 h5
  exact lv_lxor C.1 C.2.1 d  (k H locs cells slots ls h1 h2 h3 h4 h5)
theorem r_ldiv (C : aC K cc own mn fr lc mc ms nL ret O) {x y : Int64} (d : decode cc pc = .ok (.ldiv, 1)) (hne : ¬ y = 0) (k : aW K hp sz rc rs (pc + 1) lv (.long (x / y) :: st)) : aW K hp sz rc rs pc lv (.long y :: .long x :: st) := by
  obtain ⟨G, p, e, R, s, m, args, below, meth, c, n, O'⟩ := K
  intro H locs cells slots ls h1 h2 h3 h4 h5
  exact lv_ldiv C.1 C.2.1 d hne (k H locs cells slots ls h1 h2 h3 h4 h5)
theorem r_lrem (C : aC K cc own mn fr lc mc ms nL ret O) {x y : Int64} (d : decode cc pc = .ok (.lrem, 1)) (hne : ¬ y = 0) (k : aW K hp sz rc rs (pc + 1) lv (.long (x - x / y * y) :: st)) : aW K hp sz rc rs pc lv (.long y :: .long x :: st) := by
  obtain ⟨G, p, e, R, s, m, args, below, meth, c, n, O'⟩ := K
  intro H locs cells slots ls h1 h2 h3 h4 h5
  exact lv_lrem C.1 C.2.1 d hne (k H locs cells slots ls h1 h2 h3 h4 h5)
theorem r_lshl (C : aC K cc own mn fr lc mc ms nL ret O) {x : Int64} {y : Int32} (d : decode cc pc = .ok (.lshl, 1))  (k : aW K hp sz rc rs (pc + 1) lv (.long (x <<< (y.toInt64 &&& 63)) :: st)) : aW K hp sz rc rs pc lv (.int y :: .long x :: st) := by
  obtain ⟨G, p, e, R, s, m, args, below, meth, c, n, O'⟩ := K
  intro H locs cells slots ls h1 h2 h3 h4 h5
  exact lv_lshl C.1 C.2.1 d rfl (k H locs cells slots ls h1 h2 h3 h4 h5)
theorem r_lshr (C : aC K cc own mn fr lc mc ms nL ret O) {x : Int64} {y : Int32} (d : decode cc pc = .ok (.lshr, 1))  (k : aW K hp sz rc rs (pc + 1) lv (.long (x >>> (y.toInt64 &&& 63)) :: st)) : aW K hp sz rc rs pc lv (.int y :: .long x :: st) := by
  obtain ⟨G, p, e, R, s, m, args, below, meth, c, n, O'⟩ := K
  intro H locs cells slots ls h1 h2 h3 h4 h5
  exact lv_lshr C.1 C.2.1 d rfl (k H locs cells slots ls h1 h2 h3 h4 h5)
theorem r_i2l (C : aC K cc own mn fr lc mc ms nL ret O) {x : Int32} (d : decode cc pc = .ok (.i2l, 1))  (k : aW K hp sz rc rs (pc + 1) lv (.long x.toInt64 :: st)) : aW K hp sz rc rs pc lv (.int x :: st) := by
  obtain ⟨G, p, e, R, s, m, args, below, meth, c, n, O'⟩ := K
  intro H locs cells slots ls h1 h2 h3 h4 h5
  exact lv_i2l C.1 C.2.1 d rfl (k H locs cells slots ls h1 h2 h3 h4 h5)
theorem r_l2i (C : aC K cc own mn fr lc mc ms nL ret O) {x : Int64} (d : decode cc pc = .ok (.l2i, 1))  (k : aW K hp sz rc rs (pc + 1) lv (.int x.toInt32 :: st)) : aW K hp sz rc rs pc lv (.long x :: st) := by
  obtain ⟨G, p, e, R, s, m, args, below, meth, c, n, O'⟩ := K
  intro H locs cells slots ls h1 h2 h3 h4 h5
  exact lv_l2i C.1 C.2.1 d rfl (k H locs cells slots ls h1 h2 h3 h4 h5)
theorem r_dup (C : aC K cc own mn fr lc mc ms nL ret O) {v : Value} (d : decode cc pc = .ok (.dup, 1)) (hv : v.category = 1) (k : aW K hp sz rc rs (pc + 1) lv (v :: v :: st)) : aW K hp sz rc rs pc lv (v :: st) := by
  obtain ⟨G, p, e, R, s, m, args, below, meth, c, n, O'⟩ := K
  intro H locs cells slots ls h1 h2 h3 h4 h5
  exact lv_dup C.1 C.2.1 d hv (k H locs cells slots ls h1 h2 h3 h4 h5)
theorem r_pop (C : aC K cc own mn fr lc mc ms nL ret O) {v : Value} (d : decode cc pc = .ok (.pop, 1)) (hv : v.category = 1) (k : aW K hp sz rc rs (pc + 1) lv (st)) : aW K hp sz rc rs pc lv (v :: st) := by
  obtain ⟨G, p, e, R, s, m, args, below, meth, c, n, O'⟩ := K
  intro H locs cells slots ls h1 h2 h3 h4 h5
  exact lv_pop C.1 C.2.1 d hv (k H locs cells slots ls h1 h2 h3 h4 h5)
theorem r_null (C : aC K cc own mn fr lc mc ms nL ret O)  (d : decode cc pc = .ok (.aconst_null, 1))  (k : aW K hp sz rc rs (pc + 1) lv (.null :: st)) : aW K hp sz rc rs pc lv (st) := by
  obtain ⟨G, p, e, R, s, m, args, below, meth, c, n, O'⟩ := K
  intro H locs cells slots ls h1 h2 h3 h4 h5
  exact lv_null C.1 C.2.1 d  (k H locs cells slots ls h1 h2 h3 h4 h5)
theorem r_lcmp (C : aC K cc own mn fr lc mc ms nL ret O) {x y : Int64} (d : decode cc pc = .ok (.lcmp, 1))  (k : aW K hp sz rc rs (pc + 1) lv (.int (lg_cmp x y) :: st)) : aW K hp sz rc rs pc lv (.long y :: .long x :: st) := by
  obtain ⟨G, p, e, R, s, m, args, below, meth, c, n, O'⟩ := K
  intro H locs cells slots ls h1 h2 h3 h4 h5
  exact W.lcmp C.1 C.2.1 d  (k H locs cells slots ls h1 h2 h3 h4 h5)
theorem r_goto (C : aC K cc own mn fr lc mc ms nL ret O) {off : Int} {tgt : Nat} (d : decode cc pc = .ok (.goto off, 3)) (ht : (pc : Int) + off = (tgt : Int)) (k : aW K hp sz rc rs tgt lv st) : aW K hp sz rc rs pc lv st := by
  obtain ⟨G, p, e, R, s, m, args, below, meth, c, n, O'⟩ := K
  intro H locs cells slots ls h1 h2 h3 h4 h5
  exact lv_goto C.1 C.2.1 d ht (k H locs cells slots ls h1 h2 h3 h4 h5)
theorem r_ldc2 (C : aC K cc own mn fr lc mc ms nL ret O) {index : Nat} {v : Int64} (hw : Cond.constantLong own index v ∈ lw_w) (d : decode cc pc = .ok (.ldc2_w index, 3)) (k : aW K hp sz rc rs (pc + 3) lv (.long v :: st)) : aW K hp sz rc rs pc lv st := by
  obtain ⟨G, p, e, R, s, m, args, below, meth, c, n, O'⟩ := K
  intro H locs cells slots ls h1 h2 h3 h4 h5
  exact lv_ldc2 C.1 C.2.1 C.2.2.2.1 (C.2.2.2.2.1 _ hw) d (k H locs cells slots ls h1 h2 h3 h4 h5)
theorem r_lv (ks : List Nat) {lv' : List (Nat × Value)} (hl : lv_pick lv ks = lv') (k : aW K hp sz rc rs pc lv' st) : aW K hp sz rc rs pc lv st := by
  obtain ⟨G, p, e, R, s, m, args, below, meth, c, n, O'⟩ := K
  intro H locs cells slots ls h1 h2 h3 h4 h5
  exact k H locs cells slots ls h1 h2 (lv_sub h3 ks hl) h4 h5
theorem r_rc {rc' rs' : Nat} (h : rc' ≤ rc) (h' : rs' ≤ rs) (k : aW K hp sz rc' rs' pc lv st) : aW K hp sz rc rs pc lv st := by
  obtain ⟨G, p, e, R, s, m, args, below, meth, c, n, O'⟩ := K
  intro H locs cells slots ls h1 h2 h3 h4 h5
  exact k H locs cells slots ls h1 h2 h3 (by omega) (by omega)
theorem r_if_eq (C : aC K cc own mn fr lc mc ms nL ret O) {x : Int32} {off : Int} {tgt : Nat} (d : decode cc pc = .ok (.ifCond .eq off, 3)) (ht : (pc : Int) + off = (tgt : Int)) (kt : x = 0 → aW K hp sz rc rs tgt lv st) (kf : ¬ (x = 0) → aW K hp sz rc rs (pc + 3) lv st) : aW K hp sz rc rs pc lv (.int x :: st) := by
  obtain ⟨G, p, e, R, s, m, args, below, meth, c, n, O'⟩ := K
  intro H locs cells slots ls h1 h2 h3 h4 h5
  exact lv_if_eq C.1 C.2.1 d ht (fun q => kt q H locs cells slots ls h1 h2 h3 h4 h5) (fun q => kf q H locs cells slots ls h1 h2 h3 h4 h5)
theorem r_icmp_eq (C : aC K cc own mn fr lc mc ms nL ret O) {x y : Int32} {off : Int} {tgt : Nat} (d : decode cc pc = .ok (.if_icmp .eq off, 3)) (ht : (pc : Int) + off = (tgt : Int)) (kt : x = y → aW K hp sz rc rs tgt lv st) (kf : ¬ (x = y) → aW K hp sz rc rs (pc + 3) lv st) : aW K hp sz rc rs pc lv (.int y :: .int x :: st) := by
  obtain ⟨G, p, e, R, s, m, args, below, meth, c, n, O'⟩ := K
  intro H locs cells slots ls h1 h2 h3 h4 h5
  exact lv_icmp_eq C.1 C.2.1 d ht (fun q => kt q H locs cells slots ls h1 h2 h3 h4 h5) (fun q => kf q H locs cells slots ls h1 h2 h3 h4 h5)
theorem r_if_lt (C : aC K cc own mn fr lc mc ms nL ret O) {x : Int32} {off : Int} {tgt : Nat} (d : decode cc pc = .ok (.ifCond .lt off, 3)) (ht : (pc : Int) + off = (tgt : Int)) (kt : x < 0 → aW K hp sz rc rs tgt lv st) (kf : ¬ (x < 0) → aW K hp sz rc rs (pc + 3) lv st) : aW K hp sz rc rs pc lv (.int x :: st) := by
  obtain ⟨G, p, e, R, s, m, args, below, meth, c, n, O'⟩ := K
  intro H locs cells slots ls h1 h2 h3 h4 h5
  exact lv_if_lt C.1 C.2.1 d ht (fun q => kt q H locs cells slots ls h1 h2 h3 h4 h5) (fun q => kf q H locs cells slots ls h1 h2 h3 h4 h5)
theorem r_icmp_lt (C : aC K cc own mn fr lc mc ms nL ret O) {x y : Int32} {off : Int} {tgt : Nat} (d : decode cc pc = .ok (.if_icmp .lt off, 3)) (ht : (pc : Int) + off = (tgt : Int)) (kt : x < y → aW K hp sz rc rs tgt lv st) (kf : ¬ (x < y) → aW K hp sz rc rs (pc + 3) lv st) : aW K hp sz rc rs pc lv (.int y :: .int x :: st) := by
  obtain ⟨G, p, e, R, s, m, args, below, meth, c, n, O'⟩ := K
  intro H locs cells slots ls h1 h2 h3 h4 h5
  exact lv_icmp_lt C.1 C.2.1 d ht (fun q => kt q H locs cells slots ls h1 h2 h3 h4 h5) (fun q => kf q H locs cells slots ls h1 h2 h3 h4 h5)
theorem r_if_ge (C : aC K cc own mn fr lc mc ms nL ret O) {x : Int32} {off : Int} {tgt : Nat} (d : decode cc pc = .ok (.ifCond .ge off, 3)) (ht : (pc : Int) + off = (tgt : Int)) (kt : 0 ≤ x → aW K hp sz rc rs tgt lv st) (kf : ¬ (0 ≤ x) → aW K hp sz rc rs (pc + 3) lv st) : aW K hp sz rc rs pc lv (.int x :: st) := by
  obtain ⟨G, p, e, R, s, m, args, below, meth, c, n, O'⟩ := K
  intro H locs cells slots ls h1 h2 h3 h4 h5
  exact lv_if_ge C.1 C.2.1 d ht (fun q => kt q H locs cells slots ls h1 h2 h3 h4 h5) (fun q => kf q H locs cells slots ls h1 h2 h3 h4 h5)
theorem r_icmp_ge (C : aC K cc own mn fr lc mc ms nL ret O) {x y : Int32} {off : Int} {tgt : Nat} (d : decode cc pc = .ok (.if_icmp .ge off, 3)) (ht : (pc : Int) + off = (tgt : Int)) (kt : y ≤ x → aW K hp sz rc rs tgt lv st) (kf : ¬ (y ≤ x) → aW K hp sz rc rs (pc + 3) lv st) : aW K hp sz rc rs pc lv (.int y :: .int x :: st) := by
  obtain ⟨G, p, e, R, s, m, args, below, meth, c, n, O'⟩ := K
  intro H locs cells slots ls h1 h2 h3 h4 h5
  exact lv_icmp_ge C.1 C.2.1 d ht (fun q => kt q H locs cells slots ls h1 h2 h3 h4 h5) (fun q => kf q H locs cells slots ls h1 h2 h3 h4 h5)
theorem r_if_gt (C : aC K cc own mn fr lc mc ms nL ret O) {x : Int32} {off : Int} {tgt : Nat} (d : decode cc pc = .ok (.ifCond .gt off, 3)) (ht : (pc : Int) + off = (tgt : Int)) (kt : 0 < x → aW K hp sz rc rs tgt lv st) (kf : ¬ (0 < x) → aW K hp sz rc rs (pc + 3) lv st) : aW K hp sz rc rs pc lv (.int x :: st) := by
  obtain ⟨G, p, e, R, s, m, args, below, meth, c, n, O'⟩ := K
  intro H locs cells slots ls h1 h2 h3 h4 h5
  exact lv_if_gt C.1 C.2.1 d ht (fun q => kt q H locs cells slots ls h1 h2 h3 h4 h5) (fun q => kf q H locs cells slots ls h1 h2 h3 h4 h5)
theorem r_icmp_gt (C : aC K cc own mn fr lc mc ms nL ret O) {x y : Int32} {off : Int} {tgt : Nat} (d : decode cc pc = .ok (.if_icmp .gt off, 3)) (ht : (pc : Int) + off = (tgt : Int)) (kt : y < x → aW K hp sz rc rs tgt lv st) (kf : ¬ (y < x) → aW K hp sz rc rs (pc + 3) lv st) : aW K hp sz rc rs pc lv (.int y :: .int x :: st) := by
  obtain ⟨G, p, e, R, s, m, args, below, meth, c, n, O'⟩ := K
  intro H locs cells slots ls h1 h2 h3 h4 h5
  exact lv_icmp_gt C.1 C.2.1 d ht (fun q => kt q H locs cells slots ls h1 h2 h3 h4 h5) (fun q => kf q H locs cells slots ls h1 h2 h3 h4 h5)
theorem r_if_le (C : aC K cc own mn fr lc mc ms nL ret O) {x : Int32} {off : Int} {tgt : Nat} (d : decode cc pc = .ok (.ifCond .le off, 3)) (ht : (pc : Int) + off = (tgt : Int)) (kt : x ≤ 0 → aW K hp sz rc rs tgt lv st) (kf : ¬ (x ≤ 0) → aW K hp sz rc rs (pc + 3) lv st) : aW K hp sz rc rs pc lv (.int x :: st) := by
  obtain ⟨G, p, e, R, s, m, args, below, meth, c, n, O'⟩ := K
  intro H locs cells slots ls h1 h2 h3 h4 h5
  exact lv_if_le C.1 C.2.1 d ht (fun q => kt q H locs cells slots ls h1 h2 h3 h4 h5) (fun q => kf q H locs cells slots ls h1 h2 h3 h4 h5)
theorem r_icmp_le (C : aC K cc own mn fr lc mc ms nL ret O) {x y : Int32} {off : Int} {tgt : Nat} (d : decode cc pc = .ok (.if_icmp .le off, 3)) (ht : (pc : Int) + off = (tgt : Int)) (kt : x ≤ y → aW K hp sz rc rs tgt lv st) (kf : ¬ (x ≤ y) → aW K hp sz rc rs (pc + 3) lv st) : aW K hp sz rc rs pc lv (.int y :: .int x :: st) := by
  obtain ⟨G, p, e, R, s, m, args, below, meth, c, n, O'⟩ := K
  intro H locs cells slots ls h1 h2 h3 h4 h5
  exact lv_icmp_le C.1 C.2.1 d ht (fun q => kt q H locs cells slots ls h1 h2 h3 h4 h5) (fun q => kf q H locs cells slots ls h1 h2 h3 h4 h5)
theorem r_if_ne (C : aC K cc own mn fr lc mc ms nL ret O) {x : Int32} {off : Int} {tgt : Nat} (d : decode cc pc = .ok (.ifCond .ne off, 3)) (ht : (pc : Int) + off = (tgt : Int)) (kt : ¬ (x = 0) → aW K hp sz rc rs tgt lv st) (kf : x = 0 → aW K hp sz rc rs (pc + 3) lv st) : aW K hp sz rc rs pc lv (.int x :: st) := by
  obtain ⟨G, p, e, R, s, m, args, below, meth, c, n, O'⟩ := K
  intro H locs cells slots ls h1 h2 h3 h4 h5
  exact lv_if_ne C.1 C.2.1 d ht (fun q => kt q H locs cells slots ls h1 h2 h3 h4 h5) (fun q => kf q H locs cells slots ls h1 h2 h3 h4 h5)
theorem r_icmp_ne (C : aC K cc own mn fr lc mc ms nL ret O) {x y : Int32} {off : Int} {tgt : Nat} (d : decode cc pc = .ok (.if_icmp .ne off, 3)) (ht : (pc : Int) + off = (tgt : Int)) (kt : ¬ (x = y) → aW K hp sz rc rs tgt lv st) (kf : x = y → aW K hp sz rc rs (pc + 3) lv st) : aW K hp sz rc rs pc lv (.int y :: .int x :: st) := by
  obtain ⟨G, p, e, R, s, m, args, below, meth, c, n, O'⟩ := K
  intro H locs cells slots ls h1 h2 h3 h4 h5
  exact lv_icmp_ne C.1 C.2.1 d ht (fun q => kt q H locs cells slots ls h1 h2 h3 h4 h5) (fun q => kf q H locs cells slots ls h1 h2 h3 h4 h5)
theorem r_leq (C : aC K cc own mn fr lc mc ms nL ret O) {x y : Int64} {off : Int} {tgt : Nat} (d : decode cc pc = .ok (.lcmp, 1)) (d2 : decode cc (pc + 1) = .ok (.ifCond .eq off, 3)) (ht : ((pc + 1 : Nat) : Int) + off = (tgt : Int)) (kt : x = y → aW K hp sz rc rs tgt lv st) (kf : ¬ (x = y) → aW K hp sz rc rs (pc + 1 + 3) lv st) : aW K hp sz rc rs pc lv (.long y :: .long x :: st) :=
  r_lcmp C d (r_if_eq C d2 ht (fun q => kt ((lg_cmp_eq x y).mp q)) (fun q => kf (fun z => q ((lg_cmp_eq x y).mpr z))))
theorem r_llt (C : aC K cc own mn fr lc mc ms nL ret O) {x y : Int64} {off : Int} {tgt : Nat} (d : decode cc pc = .ok (.lcmp, 1)) (d2 : decode cc (pc + 1) = .ok (.ifCond .lt off, 3)) (ht : ((pc + 1 : Nat) : Int) + off = (tgt : Int)) (kt : x < y → aW K hp sz rc rs tgt lv st) (kf : ¬ (x < y) → aW K hp sz rc rs (pc + 1 + 3) lv st) : aW K hp sz rc rs pc lv (.long y :: .long x :: st) :=
  r_lcmp C d (r_if_lt C d2 ht (fun q => kt ((lg_cmp_lt x y).mp q)) (fun q => kf (fun z => q ((lg_cmp_lt x y).mpr z))))
theorem r_lge (C : aC K cc own mn fr lc mc ms nL ret O) {x y : Int64} {off : Int} {tgt : Nat} (d : decode cc pc = .ok (.lcmp, 1)) (d2 : decode cc (pc + 1) = .ok (.ifCond .ge off, 3)) (ht : ((pc + 1 : Nat) : Int) + off = (tgt : Int)) (kt : y ≤ x → aW K hp sz rc rs tgt lv st) (kf : ¬ (y ≤ x) → aW K hp sz rc rs (pc + 1 + 3) lv st) : aW K hp sz rc rs pc lv (.long y :: .long x :: st) :=
  r_lcmp C d (r_if_ge C d2 ht (fun q => kt ((lg_cmp_ge x y).mp q)) (fun q => kf (fun z => q ((lg_cmp_ge x y).mpr z))))
theorem r_lgt (C : aC K cc own mn fr lc mc ms nL ret O) {x y : Int64} {off : Int} {tgt : Nat} (d : decode cc pc = .ok (.lcmp, 1)) (d2 : decode cc (pc + 1) = .ok (.ifCond .gt off, 3)) (ht : ((pc + 1 : Nat) : Int) + off = (tgt : Int)) (kt : y < x → aW K hp sz rc rs tgt lv st) (kf : ¬ (y < x) → aW K hp sz rc rs (pc + 1 + 3) lv st) : aW K hp sz rc rs pc lv (.long y :: .long x :: st) :=
  r_lcmp C d (r_if_gt C d2 ht (fun q => kt ((lg_cmp_gt x y).mp q)) (fun q => kf (fun z => q ((lg_cmp_gt x y).mpr z))))
theorem r_lle (C : aC K cc own mn fr lc mc ms nL ret O) {x y : Int64} {off : Int} {tgt : Nat} (d : decode cc pc = .ok (.lcmp, 1)) (d2 : decode cc (pc + 1) = .ok (.ifCond .le off, 3)) (ht : ((pc + 1 : Nat) : Int) + off = (tgt : Int)) (kt : x ≤ y → aW K hp sz rc rs tgt lv st) (kf : ¬ (x ≤ y) → aW K hp sz rc rs (pc + 1 + 3) lv st) : aW K hp sz rc rs pc lv (.long y :: .long x :: st) :=
  r_lcmp C d (r_if_le C d2 ht (fun q => kt ((lg_cmp_le x y).mp q)) (fun q => kf (fun z => q ((lg_cmp_le x y).mpr z))))
theorem r_lne (C : aC K cc own mn fr lc mc ms nL ret O) {x y : Int64} {off : Int} {tgt : Nat} (d : decode cc pc = .ok (.lcmp, 1)) (d2 : decode cc (pc + 1) = .ok (.ifCond .ne off, 3)) (ht : ((pc + 1 : Nat) : Int) + off = (tgt : Int)) (kt : ¬ x = y → aW K hp sz rc rs tgt lv st) (kf : x = y → aW K hp sz rc rs (pc + 1 + 3) lv st) : aW K hp sz rc rs pc lv (.long y :: .long x :: st) :=
  r_lcmp C d (r_if_ne C d2 ht (fun q => kt (fun z => q ((lg_cmp_eq x y).mpr z))) (fun q => kf ((lg_cmp_eq x y).mp q)))
theorem aQ_of {G : gT} {O' O : oT} {v : Option Value} {s t : State} {args : Array Value} {H : Heap} (e : O' = O) (hO : O = (v, hp, sz)) (h1 : aH G hp sz H) (hk : aK G s) (ht : t.heap = H) (hW : s.WarmedH t.vm) : aQ G O' args s (.returned v) t := by
  subst e
  subst hO
  exact ⟨rfl, by rw [ht]; exact h1, aK.moved hW hk⟩
theorem r_ireturn {K : kT} (C : aC K cc own mn fr lc mc ms nL (some .int) O) {v : Int32} (hO : O = (some (.int v), hp, sz)) (d : decode cc pc = .ok (.ireturn, 1)) : aW K hp sz rc rs pc lv [.int v] := by
  obtain ⟨G, p, e, R, s, m, args, below, meth, c, n, O'⟩ := K
  obtain ⟨c1, c2, c3, c4, c5, c6, c7, c8, c9, c10, c11, c12⟩ := C
  intro H locs cells slots ls h1 h2 h3 h4 h5
  refine W.widen (k := R.cells) (n := R.slots) (by omega) (by omega) ?_
  exact W.iret c1 c2 c7 (fun t ht hW => aQ_of c11 hO h1 c6 ht hW) h2 d c8
theorem r_lreturn {K : kT} (C : aC K cc own mn fr lc mc ms nL (some .long) O) {v : Int64} (hO : O = (some (.long v), hp, sz)) (d : decode cc pc = .ok (.lreturn, 1)) : aW K hp sz rc rs pc lv [.long v] := by
  obtain ⟨G, p, e, R, s, m, args, below, meth, c, n, O'⟩ := K
  obtain ⟨c1, c2, c3, c4, c5, c6, c7, c8, c9, c10, c11, c12⟩ := C
  intro H locs cells slots ls h1 h2 h3 h4 h5
  refine W.widen (k := R.cells) (n := R.slots) (by omega) (by omega) ?_
  exact W.lret c1 c2 c7 (fun t ht hW => aQ_of c11 hO h1 c6 ht hW) h2 d c8
theorem r_zreturn {K : kT} (C : aC K cc own mn fr lc mc ms nL (some .boolean) O) {v : Int32} (hn : narrow .boolean (.int v) = .int v) (hO : O = (some (.int v), hp, sz)) (d : decode cc pc = .ok (.ireturn, 1)) : aW K hp sz rc rs pc lv [.int v] := by
  obtain ⟨G, p, e, R, s, m, args, below, meth, c, n, O'⟩ := K
  obtain ⟨c1, c2, c3, c4, c5, c6, c7, c8, c9, c10, c11, c12⟩ := C
  intro H locs cells slots ls h1 h2 h3 h4 h5
  refine W.widen (k := R.cells) (n := R.slots) (by omega) (by omega) ?_
  exact W.zret c1 c2 c7 hn (fun t ht hW => aQ_of c11 hO h1 c6 ht hW) h2 d c8
theorem r_return {K : kT} (C : aC K cc own mn fr lc mc ms nL none O) (hO : O = (none, hp, sz)) (d : decode cc pc = .ok (.return_, 1)) : aW K hp sz rc rs pc lv [] := by
  obtain ⟨G, p, e, R, s, m, args, below, meth, c, n, O'⟩ := K
  obtain ⟨c1, c2, c3, c4, c5, c6, c7, c8, c9, c10, c11, c12⟩ := C
  intro H locs cells slots ls h1 h2 h3 h4 h5
  refine W.widen (k := R.cells) (n := R.slots) (by omega) (by omega) ?_
  exact W.vret c1 c2 c7 (fun t ht hW => aQ_of c11 hO h1 c6 ht hW) h2 d c8
theorem r_areturn {K : kT} {rt : FieldType} (C : aC K cc own mn fr lc mc ms nL (some rt) O) (hrt : (∃ n, rt = .object n) ∨ ∃ t, rt = .array t) {v : Option Nat} (hO : O = (some (va_rf v), hp, sz)) (d : decode cc pc = .ok (.areturn, 1)) : aW K hp sz rc rs pc lv [va_rf v] := by
  obtain ⟨G, p, e, R, s, m, args, below, meth, c, n, O'⟩ := K
  obtain ⟨c1, c2, c3, c4, c5, c6, c7, c8, c9, c10, c11, c12⟩ := C
  intro H locs cells slots ls h1 h2 h3 h4 h5
  refine W.widen (k := R.cells) (n := R.slots) (by omega) (by omega) ?_
  exact W.aret c1 c2 c7 hrt (by cases v with | none => exact Or.inl rfl | some a => exact Or.inr ⟨a, rfl⟩) (fun t ht hW => aQ_of c11 hO h1 c6 ht hW) h2 d c8
end AROWS
