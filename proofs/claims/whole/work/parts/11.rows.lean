def jmin (x y : Int32) : Int32 := if y < x then y else x
def jmax (x y : Int32) : Int32 := if x < y then y else x
def jrem (x y : Int32) : Int32 := x - x / y * y
def jushr (x y : Int32) : Int32 := (x.toUInt32 >>> (y.toUInt32 &&& Int32.toUInt32 31)).toInt32
section ROWS
variable {G : GG} {E : EE} {d : Nat} {own : String} {cc : ByteArray} {nL pc : Nat} {lv : List (Nat × Value)} {st : List Value} {h : AH}
theorem r_iadd {x y : Int32} (K : OK G E d own cc nL) (dc : decode cc pc = .ok (.iadd, 1))  (k : JJ G E nL (pc + 1) lv (.int (x + y) :: st) h) : JJ G E nL pc lv (.int y :: .int x :: st) h := by
  obtain ⟨D, A, ad, cA⟩ := G
  obtain ⟨p, l, e, R, s, m, args, below, meth, c, cells, slots, Q⟩ := E
  obtain ⟨hx, hb, hml, hown, hts, hK, hZ, hN, hR⟩ := K
  intro H locs ls hP hD hS hl
  exact lv_iadd hx hb dc (k H locs ls hP hD hS hl)
theorem r_isub {x y : Int32} (K : OK G E d own cc nL) (dc : decode cc pc = .ok (.isub, 1))  (k : JJ G E nL (pc + 1) lv (.int (x - y) :: st) h) : JJ G E nL pc lv (.int y :: .int x :: st) h := by
  obtain ⟨D, A, ad, cA⟩ := G
  obtain ⟨p, l, e, R, s, m, args, below, meth, c, cells, slots, Q⟩ := E
  obtain ⟨hx, hb, hml, hown, hts, hK, hZ, hN, hR⟩ := K
  intro H locs ls hP hD hS hl
  exact lv_isub hx hb dc (k H locs ls hP hD hS hl)
theorem r_imul {x y : Int32} (K : OK G E d own cc nL) (dc : decode cc pc = .ok (.imul, 1))  (k : JJ G E nL (pc + 1) lv (.int (x * y) :: st) h) : JJ G E nL pc lv (.int y :: .int x :: st) h := by
  obtain ⟨D, A, ad, cA⟩ := G
  obtain ⟨p, l, e, R, s, m, args, below, meth, c, cells, slots, Q⟩ := E
  obtain ⟨hx, hb, hml, hown, hts, hK, hZ, hN, hR⟩ := K
  intro H locs ls hP hD hS hl
  exact lv_imul hx hb dc (k H locs ls hP hD hS hl)
theorem r_iand {x y : Int32} (K : OK G E d own cc nL) (dc : decode cc pc = .ok (.iand, 1))  (k : JJ G E nL (pc + 1) lv (.int (x &&& y) :: st) h) : JJ G E nL pc lv (.int y :: .int x :: st) h := by
  obtain ⟨D, A, ad, cA⟩ := G
  obtain ⟨p, l, e, R, s, m, args, below, meth, c, cells, slots, Q⟩ := E
  obtain ⟨hx, hb, hml, hown, hts, hK, hZ, hN, hR⟩ := K
  intro H locs ls hP hD hS hl
  exact lv_iand hx hb dc (k H locs ls hP hD hS hl)
theorem r_ior {x y : Int32} (K : OK G E d own cc nL) (dc : decode cc pc = .ok (.ior, 1))  (k : JJ G E nL (pc + 1) lv (.int (x ||| y) :: st) h) : JJ G E nL pc lv (.int y :: .int x :: st) h := by
  obtain ⟨D, A, ad, cA⟩ := G
  obtain ⟨p, l, e, R, s, m, args, below, meth, c, cells, slots, Q⟩ := E
  obtain ⟨hx, hb, hml, hown, hts, hK, hZ, hN, hR⟩ := K
  intro H locs ls hP hD hS hl
  exact lv_ior hx hb dc (k H locs ls hP hD hS hl)
theorem r_ixor {x y : Int32} (K : OK G E d own cc nL) (dc : decode cc pc = .ok (.ixor, 1))  (k : JJ G E nL (pc + 1) lv (.int (x ^^^ y) :: st) h) : JJ G E nL pc lv (.int y :: .int x :: st) h := by
  obtain ⟨D, A, ad, cA⟩ := G
  obtain ⟨p, l, e, R, s, m, args, below, meth, c, cells, slots, Q⟩ := E
  obtain ⟨hx, hb, hml, hown, hts, hK, hZ, hN, hR⟩ := K
  intro H locs ls hP hD hS hl
  exact lv_ixor hx hb dc (k H locs ls hP hD hS hl)
theorem r_idiv {x y : Int32} (K : OK G E d own cc nL) (dc : decode cc pc = .ok (.idiv, 1)) (hne : ¬ y = 0) (k : JJ G E nL (pc + 1) lv (.int (x / y) :: st) h) : JJ G E nL pc lv (.int y :: .int x :: st) h := by
  obtain ⟨D, A, ad, cA⟩ := G
  obtain ⟨p, l, e, R, s, m, args, below, meth, c, cells, slots, Q⟩ := E
  obtain ⟨hx, hb, hml, hown, hts, hK, hZ, hN, hR⟩ := K
  intro H locs ls hP hD hS hl
  exact lv_idiv hx hb dc hne (k H locs ls hP hD hS hl)
theorem r_irem {x y : Int32} (K : OK G E d own cc nL) (dc : decode cc pc = .ok (.irem, 1)) (hne : ¬ y = 0) (k : JJ G E nL (pc + 1) lv (.int (jrem x y) :: st) h) : JJ G E nL pc lv (.int y :: .int x :: st) h := by
  obtain ⟨D, A, ad, cA⟩ := G
  obtain ⟨p, l, e, R, s, m, args, below, meth, c, cells, slots, Q⟩ := E
  obtain ⟨hx, hb, hml, hown, hts, hK, hZ, hN, hR⟩ := K
  intro H locs ls hP hD hS hl
  exact lv_irem hx hb dc hne (k H locs ls hP hD hS hl)
theorem r_ineg {x : Int32} (K : OK G E d own cc nL) (dc : decode cc pc = .ok (.ineg, 1))  (k : JJ G E nL (pc + 1) lv (.int (-x) :: st) h) : JJ G E nL pc lv (.int x :: st) h := by
  obtain ⟨D, A, ad, cA⟩ := G
  obtain ⟨p, l, e, R, s, m, args, below, meth, c, cells, slots, Q⟩ := E
  obtain ⟨hx, hb, hml, hown, hts, hK, hZ, hN, hR⟩ := K
  intro H locs ls hP hD hS hl
  exact lv_ineg hx hb dc (k H locs ls hP hD hS hl)
theorem r_iushr {x y : Int32} (K : OK G E d own cc nL) (dc : decode cc pc = .ok (.iushr, 1))  (k : JJ G E nL (pc + 1) lv (.int (jushr x y) :: st) h) : JJ G E nL pc lv (.int y :: .int x :: st) h := by
  obtain ⟨D, A, ad, cA⟩ := G
  obtain ⟨p, l, e, R, s, m, args, below, meth, c, cells, slots, Q⟩ := E
  obtain ⟨hx, hb, hml, hown, hts, hK, hZ, hN, hR⟩ := K
  intro H locs ls hP hD hS hl
  exact lv_iushr hx hb dc rfl (k H locs ls hP hD hS hl)
theorem r_ladd {x y : Int64} (K : OK G E d own cc nL) (dc : decode cc pc = .ok (.ladd, 1))  (k : JJ G E nL (pc + 1) lv (.long (x + y) :: st) h) : JJ G E nL pc lv (.long y :: .long x :: st) h := by
  obtain ⟨D, A, ad, cA⟩ := G
  obtain ⟨p, l, e, R, s, m, args, below, meth, c, cells, slots, Q⟩ := E
  obtain ⟨hx, hb, hml, hown, hts, hK, hZ, hN, hR⟩ := K
  intro H locs ls hP hD hS hl
  exact lv_ladd hx hb dc (k H locs ls hP hD hS hl)
theorem r_lsub {x y : Int64} (K : OK G E d own cc nL) (dc : decode cc pc = .ok (.lsub, 1))  (k : JJ G E nL (pc + 1) lv (.long (x - y) :: st) h) : JJ G E nL pc lv (.long y :: .long x :: st) h := by
  obtain ⟨D, A, ad, cA⟩ := G
  obtain ⟨p, l, e, R, s, m, args, below, meth, c, cells, slots, Q⟩ := E
  obtain ⟨hx, hb, hml, hown, hts, hK, hZ, hN, hR⟩ := K
  intro H locs ls hP hD hS hl
  exact lv_lsub hx hb dc (k H locs ls hP hD hS hl)
theorem r_lmul {x y : Int64} (K : OK G E d own cc nL) (dc : decode cc pc = .ok (.lmul, 1))  (k : JJ G E nL (pc + 1) lv (.long (x * y) :: st) h) : JJ G E nL pc lv (.long y :: .long x :: st) h := by
  obtain ⟨D, A, ad, cA⟩ := G
  obtain ⟨p, l, e, R, s, m, args, below, meth, c, cells, slots, Q⟩ := E
  obtain ⟨hx, hb, hml, hown, hts, hK, hZ, hN, hR⟩ := K
  intro H locs ls hP hD hS hl
  exact lv_lmul hx hb dc (k H locs ls hP hD hS hl)
theorem r_land {x y : Int64} (K : OK G E d own cc nL) (dc : decode cc pc = .ok (.land, 1))  (k : JJ G E nL (pc + 1) lv (.long (x &&& y) :: st) h) : JJ G E nL pc lv (.long y :: .long x :: st) h := by
  obtain ⟨D, A, ad, cA⟩ := G
  obtain ⟨p, l, e, R, s, m, args, below, meth, c, cells, slots, Q⟩ := E
  obtain ⟨hx, hb, hml, hown, hts, hK, hZ, hN, hR⟩ := K
  intro H locs ls hP hD hS hl
  exact lv_land hx hb dc (k H locs ls hP hD hS hl)
theorem r_lor {x y : Int64} (K : OK G E d own cc nL) (dc : decode cc pc = .ok (.lor, 1))  (k : JJ G E nL (pc + 1) lv (.long (x ||| y) :: st) h) : JJ G E nL pc lv (.long y :: .long x :: st) h := by
  obtain ⟨D, A, ad, cA⟩ := G
  obtain ⟨p, l, e, R, s, m, args, below, meth, c, cells, slots, Q⟩ := E
  obtain ⟨hx, hb, hml, hown, hts, hK, hZ, hN, hR⟩ := K
  intro H locs ls hP hD hS hl
  exact lv_lor hx hb dc (k H locs ls hP hD hS hl)
theorem r_lshl {x : Int64} {y : Int32} (K : OK G E d own cc nL) (dc : decode cc pc = .ok (.lshl, 1))  (k : JJ G E nL (pc + 1) lv (.long (x <<< (y.toInt64 &&& 63)) :: st) h) : JJ G E nL pc lv (.int y :: .long x :: st) h := by
  obtain ⟨D, A, ad, cA⟩ := G
  obtain ⟨p, l, e, R, s, m, args, below, meth, c, cells, slots, Q⟩ := E
  obtain ⟨hx, hb, hml, hown, hts, hK, hZ, hN, hR⟩ := K
  intro H locs ls hP hD hS hl
  exact lv_lshl hx hb dc rfl (k H locs ls hP hD hS hl)
theorem r_i2l {x : Int32} (K : OK G E d own cc nL) (dc : decode cc pc = .ok (.i2l, 1))  (k : JJ G E nL (pc + 1) lv (.long x.toInt64 :: st) h) : JJ G E nL pc lv (.int x :: st) h := by
  obtain ⟨D, A, ad, cA⟩ := G
  obtain ⟨p, l, e, R, s, m, args, below, meth, c, cells, slots, Q⟩ := E
  obtain ⟨hx, hb, hml, hown, hts, hK, hZ, hN, hR⟩ := K
  intro H locs ls hP hD hS hl
  exact lv_i2l hx hb dc rfl (k H locs ls hP hD hS hl)
theorem r_l2i {x : Int64} (K : OK G E d own cc nL) (dc : decode cc pc = .ok (.l2i, 1))  (k : JJ G E nL (pc + 1) lv (.int x.toInt32 :: st) h) : JJ G E nL pc lv (.long x :: st) h := by
  obtain ⟨D, A, ad, cA⟩ := G
  obtain ⟨p, l, e, R, s, m, args, below, meth, c, cells, slots, Q⟩ := E
  obtain ⟨hx, hb, hml, hown, hts, hK, hZ, hN, hR⟩ := K
  intro H locs ls hP hD hS hl
  exact lv_l2i hx hb dc rfl (k H locs ls hP hD hS hl)
theorem r_i2b {x : Int32} (K : OK G E d own cc nL) (dc : decode cc pc = .ok (.i2b, 1))  (k : JJ G E nL (pc + 1) lv (.int x.toInt8.toInt32 :: st) h) : JJ G E nL pc lv (.int x :: st) h := by
  obtain ⟨D, A, ad, cA⟩ := G
  obtain ⟨p, l, e, R, s, m, args, below, meth, c, cells, slots, Q⟩ := E
  obtain ⟨hx, hb, hml, hown, hts, hK, hZ, hN, hR⟩ := K
  intro H locs ls hP hD hS hl
  exact lv_i2b hx hb dc rfl (k H locs ls hP hD hS hl)
theorem r_i2s {x : Int32} (K : OK G E d own cc nL) (dc : decode cc pc = .ok (.i2s, 1))  (k : JJ G E nL (pc + 1) lv (.int x.toInt16.toInt32 :: st) h) : JJ G E nL pc lv (.int x :: st) h := by
  obtain ⟨D, A, ad, cA⟩ := G
  obtain ⟨p, l, e, R, s, m, args, below, meth, c, cells, slots, Q⟩ := E
  obtain ⟨hx, hb, hml, hown, hts, hK, hZ, hN, hR⟩ := K
  intro H locs ls hP hD hS hl
  exact lv_i2s hx hb dc rfl (k H locs ls hP hD hS hl)
theorem r_lcmp {x y : Int64} (K : OK G E d own cc nL) (dc : decode cc pc = .ok (.lcmp, 1))  (k : JJ G E nL (pc + 1) lv (.int (lg_cmp x y) :: st) h) : JJ G E nL pc lv (.long y :: .long x :: st) h := by
  obtain ⟨D, A, ad, cA⟩ := G
  obtain ⟨p, l, e, R, s, m, args, below, meth, c, cells, slots, Q⟩ := E
  obtain ⟨hx, hb, hml, hown, hts, hK, hZ, hN, hR⟩ := K
  intro H locs ls hP hD hS hl
  exact W.lcmp hx hb dc (k H locs ls hP hD hS hl)
theorem r_iconst {n : Int} {v : Int32} (K : OK G E d own cc nL) (dc : decode cc pc = .ok (.iconst n, 1)) (hv : Int32.ofInt n = v) (k : JJ G E nL (pc + 1) lv (.int v :: st) h) : JJ G E nL pc lv (st) h := by
  obtain ⟨D, A, ad, cA⟩ := G
  obtain ⟨p, l, e, R, s, m, args, below, meth, c, cells, slots, Q⟩ := E
  obtain ⟨hx, hb, hml, hown, hts, hK, hZ, hN, hR⟩ := K
  intro H locs ls hP hD hS hl
  exact lv_iconst hx hb dc hv (k H locs ls hP hD hS hl)
theorem r_bipush {n : Int} {v : Int32} (K : OK G E d own cc nL) (dc : decode cc pc = .ok (.bipush n, 2)) (hv : (Int8.ofInt n).toInt32 = v) (k : JJ G E nL (pc + 2) lv (.int v :: st) h) : JJ G E nL pc lv (st) h := by
  obtain ⟨D, A, ad, cA⟩ := G
  obtain ⟨p, l, e, R, s, m, args, below, meth, c, cells, slots, Q⟩ := E
  obtain ⟨hx, hb, hml, hown, hts, hK, hZ, hN, hR⟩ := K
  intro H locs ls hP hD hS hl
  exact lv_bipush hx hb dc hv (k H locs ls hP hD hS hl)
theorem r_sipush {n : Int} {v : Int32} (K : OK G E d own cc nL) (dc : decode cc pc = .ok (.sipush n, 3)) (hv : (Int16.ofInt n).toInt32 = v) (k : JJ G E nL (pc + 3) lv (.int v :: st) h) : JJ G E nL pc lv (st) h := by
  obtain ⟨D, A, ad, cA⟩ := G
  obtain ⟨p, l, e, R, s, m, args, below, meth, c, cells, slots, Q⟩ := E
  obtain ⟨hx, hb, hml, hown, hts, hK, hZ, hN, hR⟩ := K
  intro H locs ls hP hD hS hl
  exact lv_sipush hx hb dc hv (k H locs ls hP hD hS hl)
theorem r_lconst {n : Fin 2} {v : Int64} (K : OK G E d own cc nL) (dc : decode cc pc = .ok (.lconst n, 1)) (hv : Int64.ofNat (n : Nat) = v) (k : JJ G E nL (pc + 1) lv (.long v :: st) h) : JJ G E nL pc lv (st) h := by
  obtain ⟨D, A, ad, cA⟩ := G
  obtain ⟨p, l, e, R, s, m, args, below, meth, c, cells, slots, Q⟩ := E
  obtain ⟨hx, hb, hml, hown, hts, hK, hZ, hN, hR⟩ := K
  intro H locs ls hP hD hS hl
  exact lv_lconst hx hb dc hv (k H locs ls hP hD hS hl)
theorem r_dup {a : Value} (K : OK G E d own cc nL) (dc : decode cc pc = .ok (.dup, 1)) (ha : a.category = 1) (k : JJ G E nL (pc + 1) lv (a :: a :: st) h) : JJ G E nL pc lv (a :: st) h := by
  obtain ⟨D, A, ad, cA⟩ := G
  obtain ⟨p, l, e, R, s, m, args, below, meth, c, cells, slots, Q⟩ := E
  obtain ⟨hx, hb, hml, hown, hts, hK, hZ, hN, hR⟩ := K
  intro H locs ls hP hD hS hl
  exact lv_dup hx hb dc ((cv_cat ad a).trans ha) (k H locs ls hP hD hS hl)
theorem r_pop {a : Value} (K : OK G E d own cc nL) (dc : decode cc pc = .ok (.pop, 1)) (ha : a.category = 1) (k : JJ G E nL (pc + 1) lv (st) h) : JJ G E nL pc lv (a :: st) h := by
  obtain ⟨D, A, ad, cA⟩ := G
  obtain ⟨p, l, e, R, s, m, args, below, meth, c, cells, slots, Q⟩ := E
  obtain ⟨hx, hb, hml, hown, hts, hK, hZ, hN, hR⟩ := K
  intro H locs ls hP hD hS hl
  exact lv_pop hx hb dc ((cv_cat ad a).trans ha) (k H locs ls hP hD hS hl)
theorem r_dup2 {a b : Value} (K : OK G E d own cc nL) (dc : decode cc pc = .ok (.dup2, 1)) (ha : a.category = 1) (hb2 : b.category = 1) (k : JJ G E nL (pc + 1) lv (a :: b :: a :: b :: st) h) : JJ G E nL pc lv (a :: b :: st) h := by
  obtain ⟨D, A, ad, cA⟩ := G
  obtain ⟨p, l, e, R, s, m, args, below, meth, c, cells, slots, Q⟩ := E
  obtain ⟨hx, hb, hml, hown, hts, hK, hZ, hN, hR⟩ := K
  intro H locs ls hP hD hS hl
  exact lv_dup2_11 hx hb dc ((cv_cat ad a).trans ha) ((cv_cat ad b).trans hb2) (k H locs ls hP hD hS hl)
theorem r_ldc {idx : Nat} {v : Int32} (K : OK G E d own cc nL) (dc : decode cc pc = .ok (.ldc idx, 2)) (hc : Cond.constant own idx v ∈ gtbl) (k : JJ G E nL (pc + 2) lv (.int v :: st) h) : JJ G E nL pc lv st h := by
  obtain ⟨D, A, ad, cA⟩ := G
  obtain ⟨p, l, e, R, s, m, args, below, meth, c, cells, slots, Q⟩ := E
  obtain ⟨hx, hb, hml, hown, hts, hK, hZ, hN, hR⟩ := K
  intro H locs ls hP hD hS hl
  exact lv_ldc hx hb hown (hts _ hc) dc (k H locs ls hP hD hS hl)
theorem r_ldcw {idx : Nat} {v : Int32} (K : OK G E d own cc nL) (dc : decode cc pc = .ok (.ldc_w idx, 3)) (hc : Cond.constant own idx v ∈ gtbl) (k : JJ G E nL (pc + 3) lv (.int v :: st) h) : JJ G E nL pc lv st h := by
  obtain ⟨D, A, ad, cA⟩ := G
  obtain ⟨p, l, e, R, s, m, args, below, meth, c, cells, slots, Q⟩ := E
  obtain ⟨hx, hb, hml, hown, hts, hK, hZ, hN, hR⟩ := K
  intro H locs ls hP hD hS hl
  exact lv_ldcw hx hb hown (hts _ hc) dc (k H locs ls hP hD hS hl)
theorem r_ldc2 {idx : Nat} {v : Int64} (K : OK G E d own cc nL) (dc : decode cc pc = .ok (.ldc2_w idx, 3)) (hc : Cond.constantLong own idx v ∈ gtbl) (k : JJ G E nL (pc + 3) lv (.long v :: st) h) : JJ G E nL pc lv st h := by
  obtain ⟨D, A, ad, cA⟩ := G
  obtain ⟨p, l, e, R, s, m, args, below, meth, c, cells, slots, Q⟩ := E
  obtain ⟨hx, hb, hml, hown, hts, hK, hZ, hN, hR⟩ := K
  intro H locs ls hP hD hS hl
  exact lv_ldc2 hx hb hown (hts _ hc) dc (k H locs ls hP hD hS hl)
theorem lv_cv {ad : Nat → Nat} {ls : Array Slot} (hl : lv_has ls nL (lv.map (cvp ad))) (k : Nat) {i : Nat} {v : Value} (hk : lv[k]? = some (i, v)) : ls[i]? = some (.val (cv ad v)) := lv_at hl k (by rw [List.getElem?_map, hk]; rfl)
theorem r_iload_n {n : Fin 4} {i : Nat} {x : Int32} (K : OK G E d own cc nL) (dc : decode cc pc = .ok (.iload_n n, 1)) (q : Nat) (hi : (n : Nat) = i) (hq : lv[q]? = some (i, .int x)) (k : JJ G E nL (pc + 1) lv (.int x :: st) h) : JJ G E nL pc lv st h := by
  obtain ⟨D, A, ad, cA⟩ := G
  obtain ⟨p, l, e, R, s, m, args, below, meth, c, cells, slots, Q⟩ := E
  obtain ⟨hx, hb, hml, hown, hts, hK, hZ, hN, hR⟩ := K
  intro H locs ls hP hD hS hl
  exact lv_iload_n hx hb dc hi (lv_cv hl q hq) (k H locs ls hP hD hS hl)
theorem r_iload {i : Nat} {x : Int32} (K : OK G E d own cc nL) (dc : decode cc pc = .ok (.iload i, 2)) (q : Nat) (hq : lv[q]? = some (i, .int x)) (k : JJ G E nL (pc + 2) lv (.int x :: st) h) : JJ G E nL pc lv st h := by
  obtain ⟨D, A, ad, cA⟩ := G
  obtain ⟨p, l, e, R, s, m, args, below, meth, c, cells, slots, Q⟩ := E
  obtain ⟨hx, hb, hml, hown, hts, hK, hZ, hN, hR⟩ := K
  intro H locs ls hP hD hS hl
  exact lv_iload hx hb dc (lv_cv hl q hq) (k H locs ls hP hD hS hl)
theorem r_lload_n {n : Fin 4} {i : Nat} {x : Int64} (K : OK G E d own cc nL) (dc : decode cc pc = .ok (.lload_n n, 1)) (q : Nat) (hi : (n : Nat) = i) (hq : lv[q]? = some (i, .long x)) (k : JJ G E nL (pc + 1) lv (.long x :: st) h) : JJ G E nL pc lv st h := by
  obtain ⟨D, A, ad, cA⟩ := G
  obtain ⟨p, l, e, R, s, m, args, below, meth, c, cells, slots, Q⟩ := E
  obtain ⟨hx, hb, hml, hown, hts, hK, hZ, hN, hR⟩ := K
  intro H locs ls hP hD hS hl
  exact lv_lload_n hx hb dc hi (lv_cv hl q hq) (k H locs ls hP hD hS hl)
theorem r_lload {i : Nat} {x : Int64} (K : OK G E d own cc nL) (dc : decode cc pc = .ok (.lload i, 2)) (q : Nat) (hq : lv[q]? = some (i, .long x)) (k : JJ G E nL (pc + 2) lv (.long x :: st) h) : JJ G E nL pc lv st h := by
  obtain ⟨D, A, ad, cA⟩ := G
  obtain ⟨p, l, e, R, s, m, args, below, meth, c, cells, slots, Q⟩ := E
  obtain ⟨hx, hb, hml, hown, hts, hK, hZ, hN, hR⟩ := K
  intro H locs ls hP hD hS hl
  exact lv_lload hx hb dc (lv_cv hl q hq) (k H locs ls hP hD hS hl)
theorem r_aload_n {n : Fin 4} {i : Nat} {x : Nat} (K : OK G E d own cc nL) (dc : decode cc pc = .ok (.aload_n n, 1)) (q : Nat) (hi : (n : Nat) = i) (hq : lv[q]? = some (i, .ref x)) (k : JJ G E nL (pc + 1) lv (.ref x :: st) h) : JJ G E nL pc lv st h := by
  obtain ⟨D, A, ad, cA⟩ := G
  obtain ⟨p, l, e, R, s, m, args, below, meth, c, cells, slots, Q⟩ := E
  obtain ⟨hx, hb, hml, hown, hts, hK, hZ, hN, hR⟩ := K
  intro H locs ls hP hD hS hl
  exact lv_aload_n hx hb dc hi (lv_cv hl q hq) (k H locs ls hP hD hS hl)
theorem r_aload {i : Nat} {x : Nat} (K : OK G E d own cc nL) (dc : decode cc pc = .ok (.aload i, 2)) (q : Nat) (hq : lv[q]? = some (i, .ref x)) (k : JJ G E nL (pc + 2) lv (.ref x :: st) h) : JJ G E nL pc lv st h := by
  obtain ⟨D, A, ad, cA⟩ := G
  obtain ⟨p, l, e, R, s, m, args, below, meth, c, cells, slots, Q⟩ := E
  obtain ⟨hx, hb, hml, hown, hts, hK, hZ, hN, hR⟩ := K
  intro H locs ls hP hD hS hl
  exact lv_aload hx hb dc (lv_cv hl q hq) (k H locs ls hP hD hS hl)
theorem r_istore_n {n : Fin 4} {i : Nat} {x : Int32} {lv' : List (Nat × Value)} (K : OK G E d own cc nL) (dc : decode cc pc = .ok (.istore_n n, 1)) (hi : (n : Nat) = i) (hn : i < nL) (hv : (i, Value.int x) :: lv.filter (fun q => !(q.1 == i) && !(q.1 + 1 == i && q.2.category == 2)) = lv') (k : JJ G E nL (pc + 1) lv' st h) : JJ G E nL pc lv (.int x :: st) h := by
  obtain ⟨D, A, ad, cA⟩ := G
  obtain ⟨p, l, e, R, s, m, args, below, meth, c, cells, slots, Q⟩ := E
  obtain ⟨hx, hb, hml, hown, hts, hK, hZ, hN, hR⟩ := K
  intro H locs ls hP hD hS hl
  subst hv
  exact lv_istore_n hx hb dc hi hl hn (by rw [cvp_filter1]; rfl) (fun ls' hl' => k H locs ls' hP hD hS hl')
theorem r_istore {i : Nat} {x : Int32} {lv' : List (Nat × Value)} (K : OK G E d own cc nL) (dc : decode cc pc = .ok (.istore i, 2)) (hn : i < nL) (hv : (i, Value.int x) :: lv.filter (fun q => !(q.1 == i) && !(q.1 + 1 == i && q.2.category == 2)) = lv') (k : JJ G E nL (pc + 2) lv' st h) : JJ G E nL pc lv (.int x :: st) h := by
  obtain ⟨D, A, ad, cA⟩ := G
  obtain ⟨p, l, e, R, s, m, args, below, meth, c, cells, slots, Q⟩ := E
  obtain ⟨hx, hb, hml, hown, hts, hK, hZ, hN, hR⟩ := K
  intro H locs ls hP hD hS hl
  subst hv
  exact lv_istore hx hb dc hl hn (by rw [cvp_filter1]; rfl) (fun ls' hl' => k H locs ls' hP hD hS hl')
theorem r_astore_n {n : Fin 4} {i : Nat} {x : Nat} {lv' : List (Nat × Value)} (K : OK G E d own cc nL) (dc : decode cc pc = .ok (.astore_n n, 1)) (hi : (n : Nat) = i) (hn : i < nL) (hv : (i, Value.ref x) :: lv.filter (fun q => !(q.1 == i) && !(q.1 + 1 == i && q.2.category == 2)) = lv') (k : JJ G E nL (pc + 1) lv' st h) : JJ G E nL pc lv (.ref x :: st) h := by
  obtain ⟨D, A, ad, cA⟩ := G
  obtain ⟨p, l, e, R, s, m, args, below, meth, c, cells, slots, Q⟩ := E
  obtain ⟨hx, hb, hml, hown, hts, hK, hZ, hN, hR⟩ := K
  intro H locs ls hP hD hS hl
  subst hv
  exact lv_astore_n hx hb dc hi hl hn (by rw [cvp_filter1]; rfl) (fun ls' hl' => k H locs ls' hP hD hS hl')
theorem r_astore {i : Nat} {x : Nat} {lv' : List (Nat × Value)} (K : OK G E d own cc nL) (dc : decode cc pc = .ok (.astore i, 2)) (hn : i < nL) (hv : (i, Value.ref x) :: lv.filter (fun q => !(q.1 == i) && !(q.1 + 1 == i && q.2.category == 2)) = lv') (k : JJ G E nL (pc + 2) lv' st h) : JJ G E nL pc lv (.ref x :: st) h := by
  obtain ⟨D, A, ad, cA⟩ := G
  obtain ⟨p, l, e, R, s, m, args, below, meth, c, cells, slots, Q⟩ := E
  obtain ⟨hx, hb, hml, hown, hts, hK, hZ, hN, hR⟩ := K
  intro H locs ls hP hD hS hl
  subst hv
  exact lv_astore hx hb dc hl hn (by rw [cvp_filter1]; rfl) (fun ls' hl' => k H locs ls' hP hD hS hl')
theorem r_lstore_n {n : Fin 4} {i : Nat} {x : Int64} {lv' : List (Nat × Value)} (K : OK G E d own cc nL) (dc : decode cc pc = .ok (.lstore_n n, 1)) (hi : (n : Nat) = i) (hn : i + 1 < nL) (hv : (i, Value.long x) :: lv.filter (fun q => !(q.1 == i) && (!(q.1 == i + 1) && !(q.1 + 1 == i && q.2.category == 2))) = lv') (k : JJ G E nL (pc + 1) lv' st h) : JJ G E nL pc lv (.long x :: st) h := by
  obtain ⟨D, A, ad, cA⟩ := G
  obtain ⟨p, l, e, R, s, m, args, below, meth, c, cells, slots, Q⟩ := E
  obtain ⟨hx, hb, hml, hown, hts, hK, hZ, hN, hR⟩ := K
  intro H locs ls hP hD hS hl
  subst hv
  exact lv_lstore_n hx hb dc hi hl hn (by rw [cvp_filter2]; rfl) (fun ls' hl' => k H locs ls' hP hD hS hl')
theorem r_lstore {i : Nat} {x : Int64} {lv' : List (Nat × Value)} (K : OK G E d own cc nL) (dc : decode cc pc = .ok (.lstore i, 2)) (hn : i + 1 < nL) (hv : (i, Value.long x) :: lv.filter (fun q => !(q.1 == i) && (!(q.1 == i + 1) && !(q.1 + 1 == i && q.2.category == 2))) = lv') (k : JJ G E nL (pc + 2) lv' st h) : JJ G E nL pc lv (.long x :: st) h := by
  obtain ⟨D, A, ad, cA⟩ := G
  obtain ⟨p, l, e, R, s, m, args, below, meth, c, cells, slots, Q⟩ := E
  obtain ⟨hx, hb, hml, hown, hts, hK, hZ, hN, hR⟩ := K
  intro H locs ls hP hD hS hl
  subst hv
  exact lv_lstore hx hb dc hl hn (by rw [cvp_filter2]; rfl) (fun ls' hl' => k H locs ls' hP hD hS hl')
theorem r_iinc {i : Nat} {n : Int} {x y : Int32} {lv' : List (Nat × Value)} (K : OK G E d own cc nL) (dc : decode cc pc = .ok (.iinc i n, 3)) (q : Nat) (hq : lv[q]? = some (i, .int x)) (hy : Int32.ofInt n = y) (hn : i < nL) (hv : (i, Value.int (x + y)) :: lv.filter (fun q => !(q.1 == i) && !(q.1 + 1 == i && q.2.category == 2)) = lv') (k : JJ G E nL (pc + 3) lv' st h) : JJ G E nL pc lv st h := by
  obtain ⟨D, A, ad, cA⟩ := G
  obtain ⟨p, l, e, R, s, m, args, below, meth, c, cells, slots, Q⟩ := E
  obtain ⟨hx, hb, hml, hown, hts, hK, hZ, hN, hR⟩ := K
  intro H locs ls hP hD hS hl
  subst hv
  subst hy
  exact lv_iinc hx hb dc hl (k := q) (by rw [List.getElem?_map, hq]; rfl) rfl hn (by rw [cvp_filter1]; rfl) (fun ls' hl' => k H locs ls' hP hD hS hl')
theorem r_lv (ks : List Nat) {lv' : List (Nat × Value)} (hv : lv_pick lv ks = lv') (k : JJ G E nL pc lv' st h) : JJ G E nL pc lv st h := by
  obtain ⟨D, A, ad, cA⟩ := G
  obtain ⟨p, l, e, R, s, m, args, below, meth, c, cells, slots, Q⟩ := E
  intro H locs ls hP hD hS hl
  refine k H locs ls hP hD hS (lv_sub hl ks ?_)
  subst hv
  unfold lv_pick
  rw [List.map_filterMap]
  have e2 : (fun i : Nat => (lv.map (cvp ad))[i]?) = fun i : Nat => (lv[i]?).map (cvp ad) := by
    funext i
    rw [List.getElem?_map]
  rw [e2]
theorem r_if_eq {x : Int32} {off : Int} {tgt : Nat} (K : OK G E d own cc nL) (dc : decode cc pc = .ok (.ifCond .eq off, 3)) (ht : (pc : Int) + off = (tgt : Int)) (kt : x = 0 → JJ G E nL tgt lv st h) (kf : ¬ x = 0 → JJ G E nL (pc + 3) lv st h) : JJ G E nL pc lv (.int x :: st) h := by
  obtain ⟨D, A, ad, cA⟩ := G
  obtain ⟨p, l, e, R, s, m, args, below, meth, c, cells, slots, Q⟩ := E
  obtain ⟨hx, hb, hml, hown, hts, hK, hZ, hN, hR⟩ := K
  intro H locs ls hP hD hS hl
  exact lv_if_eq hx hb dc ht (fun z => kt z H locs ls hP hD hS hl) (fun z => kf z H locs ls hP hD hS hl)
theorem r_icmp_eq {x y : Int32} {off : Int} {tgt : Nat} (K : OK G E d own cc nL) (dc : decode cc pc = .ok (.if_icmp .eq off, 3)) (ht : (pc : Int) + off = (tgt : Int)) (kt : x = y → JJ G E nL tgt lv st h) (kf : ¬ x = y → JJ G E nL (pc + 3) lv st h) : JJ G E nL pc lv (.int y :: .int x :: st) h := by
  obtain ⟨D, A, ad, cA⟩ := G
  obtain ⟨p, l, e, R, s, m, args, below, meth, c, cells, slots, Q⟩ := E
  obtain ⟨hx, hb, hml, hown, hts, hK, hZ, hN, hR⟩ := K
  intro H locs ls hP hD hS hl
  exact lv_icmp_eq hx hb dc ht (fun z => kt z H locs ls hP hD hS hl) (fun z => kf z H locs ls hP hD hS hl)
theorem r_if_ne {x : Int32} {off : Int} {tgt : Nat} (K : OK G E d own cc nL) (dc : decode cc pc = .ok (.ifCond .ne off, 3)) (ht : (pc : Int) + off = (tgt : Int)) (kt : ¬ x = 0 → JJ G E nL tgt lv st h) (kf : x = 0 → JJ G E nL (pc + 3) lv st h) : JJ G E nL pc lv (.int x :: st) h := by
  obtain ⟨D, A, ad, cA⟩ := G
  obtain ⟨p, l, e, R, s, m, args, below, meth, c, cells, slots, Q⟩ := E
  obtain ⟨hx, hb, hml, hown, hts, hK, hZ, hN, hR⟩ := K
  intro H locs ls hP hD hS hl
  exact lv_if_ne hx hb dc ht (fun z => kt z H locs ls hP hD hS hl) (fun z => kf z H locs ls hP hD hS hl)
theorem r_icmp_ne {x y : Int32} {off : Int} {tgt : Nat} (K : OK G E d own cc nL) (dc : decode cc pc = .ok (.if_icmp .ne off, 3)) (ht : (pc : Int) + off = (tgt : Int)) (kt : ¬ x = y → JJ G E nL tgt lv st h) (kf : x = y → JJ G E nL (pc + 3) lv st h) : JJ G E nL pc lv (.int y :: .int x :: st) h := by
  obtain ⟨D, A, ad, cA⟩ := G
  obtain ⟨p, l, e, R, s, m, args, below, meth, c, cells, slots, Q⟩ := E
  obtain ⟨hx, hb, hml, hown, hts, hK, hZ, hN, hR⟩ := K
  intro H locs ls hP hD hS hl
  exact lv_icmp_ne hx hb dc ht (fun z => kt z H locs ls hP hD hS hl) (fun z => kf z H locs ls hP hD hS hl)
theorem r_if_lt {x : Int32} {off : Int} {tgt : Nat} (K : OK G E d own cc nL) (dc : decode cc pc = .ok (.ifCond .lt off, 3)) (ht : (pc : Int) + off = (tgt : Int)) (kt : x < 0 → JJ G E nL tgt lv st h) (kf : ¬ x < 0 → JJ G E nL (pc + 3) lv st h) : JJ G E nL pc lv (.int x :: st) h := by
  obtain ⟨D, A, ad, cA⟩ := G
  obtain ⟨p, l, e, R, s, m, args, below, meth, c, cells, slots, Q⟩ := E
  obtain ⟨hx, hb, hml, hown, hts, hK, hZ, hN, hR⟩ := K
  intro H locs ls hP hD hS hl
  exact lv_if_lt hx hb dc ht (fun z => kt z H locs ls hP hD hS hl) (fun z => kf z H locs ls hP hD hS hl)
theorem r_icmp_lt {x y : Int32} {off : Int} {tgt : Nat} (K : OK G E d own cc nL) (dc : decode cc pc = .ok (.if_icmp .lt off, 3)) (ht : (pc : Int) + off = (tgt : Int)) (kt : x < y → JJ G E nL tgt lv st h) (kf : ¬ x < y → JJ G E nL (pc + 3) lv st h) : JJ G E nL pc lv (.int y :: .int x :: st) h := by
  obtain ⟨D, A, ad, cA⟩ := G
  obtain ⟨p, l, e, R, s, m, args, below, meth, c, cells, slots, Q⟩ := E
  obtain ⟨hx, hb, hml, hown, hts, hK, hZ, hN, hR⟩ := K
  intro H locs ls hP hD hS hl
  exact lv_icmp_lt hx hb dc ht (fun z => kt z H locs ls hP hD hS hl) (fun z => kf z H locs ls hP hD hS hl)
theorem r_if_ge {x : Int32} {off : Int} {tgt : Nat} (K : OK G E d own cc nL) (dc : decode cc pc = .ok (.ifCond .ge off, 3)) (ht : (pc : Int) + off = (tgt : Int)) (kt : 0 ≤ x → JJ G E nL tgt lv st h) (kf : ¬ 0 ≤ x → JJ G E nL (pc + 3) lv st h) : JJ G E nL pc lv (.int x :: st) h := by
  obtain ⟨D, A, ad, cA⟩ := G
  obtain ⟨p, l, e, R, s, m, args, below, meth, c, cells, slots, Q⟩ := E
  obtain ⟨hx, hb, hml, hown, hts, hK, hZ, hN, hR⟩ := K
  intro H locs ls hP hD hS hl
  exact lv_if_ge hx hb dc ht (fun z => kt z H locs ls hP hD hS hl) (fun z => kf z H locs ls hP hD hS hl)
theorem r_icmp_ge {x y : Int32} {off : Int} {tgt : Nat} (K : OK G E d own cc nL) (dc : decode cc pc = .ok (.if_icmp .ge off, 3)) (ht : (pc : Int) + off = (tgt : Int)) (kt : y ≤ x → JJ G E nL tgt lv st h) (kf : ¬ y ≤ x → JJ G E nL (pc + 3) lv st h) : JJ G E nL pc lv (.int y :: .int x :: st) h := by
  obtain ⟨D, A, ad, cA⟩ := G
  obtain ⟨p, l, e, R, s, m, args, below, meth, c, cells, slots, Q⟩ := E
  obtain ⟨hx, hb, hml, hown, hts, hK, hZ, hN, hR⟩ := K
  intro H locs ls hP hD hS hl
  exact lv_icmp_ge hx hb dc ht (fun z => kt z H locs ls hP hD hS hl) (fun z => kf z H locs ls hP hD hS hl)
theorem r_if_gt {x : Int32} {off : Int} {tgt : Nat} (K : OK G E d own cc nL) (dc : decode cc pc = .ok (.ifCond .gt off, 3)) (ht : (pc : Int) + off = (tgt : Int)) (kt : 0 < x → JJ G E nL tgt lv st h) (kf : ¬ 0 < x → JJ G E nL (pc + 3) lv st h) : JJ G E nL pc lv (.int x :: st) h := by
  obtain ⟨D, A, ad, cA⟩ := G
  obtain ⟨p, l, e, R, s, m, args, below, meth, c, cells, slots, Q⟩ := E
  obtain ⟨hx, hb, hml, hown, hts, hK, hZ, hN, hR⟩ := K
  intro H locs ls hP hD hS hl
  exact lv_if_gt hx hb dc ht (fun z => kt z H locs ls hP hD hS hl) (fun z => kf z H locs ls hP hD hS hl)
theorem r_icmp_gt {x y : Int32} {off : Int} {tgt : Nat} (K : OK G E d own cc nL) (dc : decode cc pc = .ok (.if_icmp .gt off, 3)) (ht : (pc : Int) + off = (tgt : Int)) (kt : y < x → JJ G E nL tgt lv st h) (kf : ¬ y < x → JJ G E nL (pc + 3) lv st h) : JJ G E nL pc lv (.int y :: .int x :: st) h := by
  obtain ⟨D, A, ad, cA⟩ := G
  obtain ⟨p, l, e, R, s, m, args, below, meth, c, cells, slots, Q⟩ := E
  obtain ⟨hx, hb, hml, hown, hts, hK, hZ, hN, hR⟩ := K
  intro H locs ls hP hD hS hl
  exact lv_icmp_gt hx hb dc ht (fun z => kt z H locs ls hP hD hS hl) (fun z => kf z H locs ls hP hD hS hl)
theorem r_if_le {x : Int32} {off : Int} {tgt : Nat} (K : OK G E d own cc nL) (dc : decode cc pc = .ok (.ifCond .le off, 3)) (ht : (pc : Int) + off = (tgt : Int)) (kt : x ≤ 0 → JJ G E nL tgt lv st h) (kf : ¬ x ≤ 0 → JJ G E nL (pc + 3) lv st h) : JJ G E nL pc lv (.int x :: st) h := by
  obtain ⟨D, A, ad, cA⟩ := G
  obtain ⟨p, l, e, R, s, m, args, below, meth, c, cells, slots, Q⟩ := E
  obtain ⟨hx, hb, hml, hown, hts, hK, hZ, hN, hR⟩ := K
  intro H locs ls hP hD hS hl
  exact lv_if_le hx hb dc ht (fun z => kt z H locs ls hP hD hS hl) (fun z => kf z H locs ls hP hD hS hl)
theorem r_icmp_le {x y : Int32} {off : Int} {tgt : Nat} (K : OK G E d own cc nL) (dc : decode cc pc = .ok (.if_icmp .le off, 3)) (ht : (pc : Int) + off = (tgt : Int)) (kt : x ≤ y → JJ G E nL tgt lv st h) (kf : ¬ x ≤ y → JJ G E nL (pc + 3) lv st h) : JJ G E nL pc lv (.int y :: .int x :: st) h := by
  obtain ⟨D, A, ad, cA⟩ := G
  obtain ⟨p, l, e, R, s, m, args, below, meth, c, cells, slots, Q⟩ := E
  obtain ⟨hx, hb, hml, hown, hts, hK, hZ, hN, hR⟩ := K
  intro H locs ls hP hD hS hl
  exact lv_icmp_le hx hb dc ht (fun z => kt z H locs ls hP hD hS hl) (fun z => kf z H locs ls hP hD hS hl)
theorem r_goto {off : Int} {tgt : Nat} (K : OK G E d own cc nL) (dc : decode cc pc = .ok (.goto off, 3)) (ht : (pc : Int) + off = (tgt : Int)) (k : JJ G E nL tgt lv st h) : JJ G E nL pc lv st h := by
  obtain ⟨D, A, ad, cA⟩ := G
  obtain ⟨p, l, e, R, s, m, args, below, meth, c, cells, slots, Q⟩ := E
  obtain ⟨hx, hb, hml, hown, hts, hK, hZ, hN, hR⟩ := K
  intro H locs ls hP hD hS hl
  exact lv_goto hx hb dc ht (k H locs ls hP hD hS hl)
theorem r_tblIn {dflt lo hi : Int} {offs : Array Int} {len : Nat} {x : Int32} {off : Int} {tgt : Nat} (K : OK G E d own cc nL) (dc : decode cc pc = .ok (.tableswitch dflt lo hi offs, len)) (h1 : ¬ x.toInt < lo) (h2 : ¬ hi < x.toInt) (ho : offs[(x.toInt - lo).toNat]? = some off) (ht : (pc : Int) + off = (tgt : Int)) (k : JJ G E nL tgt lv st h) : JJ G E nL pc lv (.int x :: st) h := by
  obtain ⟨D, A, ad, cA⟩ := G
  obtain ⟨p, l, e, R, s, m, args, below, meth, c, cells, slots, Q⟩ := E
  obtain ⟨hx, hb, hml, hown, hts, hK, hZ, hN, hR⟩ := K
  intro H locs ls hP hD hS hl
  exact lv_tableIn hx hb dc h1 h2 ho ht (k H locs ls hP hD hS hl)
theorem r_tblOut {dflt lo hi : Int} {offs : Array Int} {len : Nat} {x : Int32} {tgt : Nat} (K : OK G E d own cc nL) (dc : decode cc pc = .ok (.tableswitch dflt lo hi offs, len)) (h1 : x.toInt < lo ∨ hi < x.toInt) (ht : (pc : Int) + dflt = (tgt : Int)) (k : JJ G E nL tgt lv st h) : JJ G E nL pc lv (.int x :: st) h := by
  obtain ⟨D, A, ad, cA⟩ := G
  obtain ⟨p, l, e, R, s, m, args, below, meth, c, cells, slots, Q⟩ := E
  obtain ⟨hx, hb, hml, hown, hts, hK, hZ, hN, hR⟩ := K
  intro H locs ls hP hD hS hl
  exact lv_tableOut hx hb dc h1 ht (k H locs ls hP hD hS hl)
theorem r_look {dflt : Int} {ps : Array (Int × Int)} {len : Nat} {x : Int32} {off : Int} {tgt : Nat} (K : OK G E d own cc nL) (dc : decode cc pc = .ok (.lookupswitch dflt ps, len)) (hp : (ps.toList.zip (ps.toList.drop 1)).all (fun (a, next) => a.1 < next.1) = true) (ho : Op.lookupswitch.offset ps.toList dflt x.toInt = off) (ht : (pc : Int) + off = (tgt : Int)) (k : JJ G E nL tgt lv st h) : JJ G E nL pc lv (.int x :: st) h := by
  obtain ⟨D, A, ad, cA⟩ := G
  obtain ⟨p, l, e, R, s, m, args, below, meth, c, cells, slots, Q⟩ := E
  obtain ⟨hx, hb, hml, hown, hts, hK, hZ, hN, hR⟩ := K
  intro H locs ls hP hD hS hl
  exact lv_lookup hx hb dc hp ho ht (k H locs ls hP hD hS hl)
def FL (own : String) (idx ci N k : Nat) : Prop := ∃ (C : String) (T : u_T), vwCl[ci]? = some (C, T, N) ∧ k < N ∧ ci < 20 ∧ (∀ w ∈ u_ws C T N, w ∈ gtbl) ∧ Cond.fieldLink own idx C (T k).2.1 (T k).2.2.1 ∈ gtbl ∧ (T k).1 = C
def FP (own : String) (idx ci N k : Nat) (ty : FieldType) : Prop := ∃ (C : String) (T : u_T) (t0 : Nat → FieldType), vwCl[ci]? = some (C, T, N) ∧ k < N ∧ ci < 20 ∧ (∀ w ∈ u_ws C T N, w ∈ gtbl) ∧ Cond.fieldLink own idx C (T k).2.1 (T k).2.2.1 ∈ gtbl ∧ (T k).1 = C ∧ (∀ k, k < N → parseFieldDescriptor (T k).2.2.1 = some (t0 k)) ∧ (∀ a, a < N → ∀ b, b < N → a ≠ b → (T a).2.1 ≠ (T b).2.1) ∧ (T k).2.2.2 = false ∧ parseFieldDescriptor (T k).2.2.1 = some ty
theorem wd_obj {ad : Nat → Nat} {cA : Nat → ClassId} {o ci N : Nat} (ho : KD o = (ci, N)) (hc : ci < 20) : (Wd ad cA h)[o]? = some (ad o, .inr (ci, (List.range N).map (fldV ad h ci o))) := by
  rw [wd_get (kd_lt (by rw [ho]; show ci < 50; omega)), cell_o ho hc]
theorem r_getI {idx ci N k o : Nat} (K : OK G E d own cc nL) (F : FL own idx ci N k) (dc : decode cc pc = .ok (.getfield idx, 3)) (ho : KD o = (ci, N)) (hr : isR ci k = false) (kk : JJ G E nL (pc + 3) lv (.int (h.1 o k) :: st) h) : JJ G E nL pc lv (.ref o :: st) h := by
  obtain ⟨D, A, ad, cA⟩ := G
  obtain ⟨p, l, e, R, s, m, args, below, meth, c, cells, slots, Q⟩ := E
  obtain ⟨hx, hb, hml, hown, hts, hK, hZ, hN, hR⟩ := K
  intro H locs ls hP hD hS hl
  obtain ⟨C, T, f1, f2, f3, f4, f5, f6⟩ := F
  refine va_get (D := D) hx hb hts f4 hown hK hP o (wd_obj ho f3) f1 k f2 (hts _ f5) (fun x hh => by rw [f6] at hh; exact hh) (v := .int (h.1 o k)) ?_ dc (kk H locs ls hP hD hS hl)
  rw [List.getElem?_map, List.getElem?_range f2]
  show some (fldV ad h ci o k) = _
  unfold fldV
  rw [hr]
  rfl
theorem r_getR {idx ci N k o o' : Nat} (K : OK G E d own cc nL) (F : FL own idx ci N k) (dc : decode cc pc = .ok (.getfield idx, 3)) (ho : KD o = (ci, N)) (hr : isR ci k = true) (he : rf o k = o') (kk : JJ G E nL (pc + 3) lv (.ref o' :: st) h) : JJ G E nL pc lv (.ref o :: st) h := by
  obtain ⟨D, A, ad, cA⟩ := G
  obtain ⟨p, l, e, R, s, m, args, below, meth, c, cells, slots, Q⟩ := E
  obtain ⟨hx, hb, hml, hown, hts, hK, hZ, hN, hR⟩ := K
  intro H locs ls hP hD hS hl
  obtain ⟨C, T, f1, f2, f3, f4, f5, f6⟩ := F
  subst he
  refine va_get (D := D) hx hb hts f4 hown hK hP o (wd_obj ho f3) f1 k f2 (hts _ f5) (fun x hh => by rw [f6] at hh; exact hh) (v := .ref (ad (rf o k))) ?_ dc (kk H locs ls hP hD hS hl)
  rw [List.getElem?_map, List.getElem?_range f2]
  show some (fldV ad h ci o k) = _
  unfold fldV
  rw [hr]
  rfl
theorem r_putT {idx ci N k o : Nat} {v : Int32} {ty : FieldType} (K : OK G E d own cc nL) (F : FP own idx ci N k ty) (dc : decode cc pc = .ok (.putfield idx, 3)) (ho : KD o = (ci, N)) (hr : isR ci k = false) {h1 : AH} (hn : narrow ty (.int v) = .int v) (hf : fits ty (.int v) = true) (he : h1 = wI h o k v) (kk : JJ G E nL (pc + 3) lv st h1) : JJ G E nL pc lv (.int v :: .ref o :: st) h := by
  subst he
  obtain ⟨D, A, ad, cA⟩ := G
  obtain ⟨p, l, e, R, s, m, args, below, meth, c, cells, slots, Q⟩ := E
  obtain ⟨hx, hb, hml, hown, hts, hK, hZ, hN, hR⟩ := K
  intro H locs ls hP hD hS hl
  obtain ⟨C, T, t0, f1, f2, f3, f4, f5, f6, f7, f8, f9, f10⟩ := F
  refine va_put (D := D) hx hb hts f4 t0 f7 f8 hown hK hP hD hS o (wd_obj ho f3) f1 k f2 (hts _ f5) (fun x hh => by rw [f6] at hh; exact hh) f9 (v := .int v) f10 hn hf (by simp; exact f2) dc (fun H' locs' hP' hD' hS' => ?_)
  rw [wd_setF ho f3 hr] at hP' hD'
  exact kk H' locs' ls hP' hD' hS' hl
theorem r_putI {idx ci N k o : Nat} {v : Int32} (K : OK G E d own cc nL) (F : FP own idx ci N k .int) (dc : decode cc pc = .ok (.putfield idx, 3)) (ho : KD o = (ci, N)) (hr : isR ci k = false) {h1 : AH} (he : h1 = wI h o k v) (kk : JJ G E nL (pc + 3) lv st h1) : JJ G E nL pc lv (.int v :: .ref o :: st) h := r_putT K F dc ho hr (vp_nar_int v) rfl he kk
theorem isB_nar {v : Int32} (h : isB v = true) : narrow .boolean (.int v) = .int v ∧ fits .boolean (.int v) = true := by
  unfold isB at h
  rcases (Bool.or_eq_true _ _).mp h with q | q
  · have e := eq_of_beq q
    subst e
    exact ⟨by decide +kernel, by decide +kernel⟩
  · have e := eq_of_beq q
    subst e
    exact ⟨by decide +kernel, by decide +kernel⟩
theorem r_putZ {idx ci N k o : Nat} {v : Int32} (K : OK G E d own cc nL) (F : FP own idx ci N k .boolean) (dc : decode cc pc = .ok (.putfield idx, 3)) (ho : KD o = (ci, N)) (hr : isR ci k = false) (hb2 : isB v = true) {h1 : AH} (he : h1 = wI h o k v) (kk : JJ G E nL (pc + 3) lv st h1) : JJ G E nL pc lv (.int v :: .ref o :: st) h := r_putT K F dc ho hr (isB_nar hb2).1 (isB_nar hb2).2 he kk
theorem wd_arr {ad : Nat → Nat} {cA : Nat → ClassId} {o n : Nat} (ho : KD o = (20, n)) : (Wd ad cA h)[o]? = some (ad o, .inl (cA 20, n, .inl (h.1 o))) := by
  rw [wd_get (kd_lt (by rw [ho]; exact Nat.le_of_ble_eq_true rfl)), cell_i ho]
theorem wd_arrL {ad : Nat → Nat} {cA : Nat → ClassId} {o n : Nat} (ho : KD o = (21, n)) : (Wd ad cA h)[o]? = some (ad o, .inl (cA 21, n, .inr (.inl (h.2 o)))) := by
  rw [wd_get (kd_lt (by rw [ho]; exact Nat.le_of_ble_eq_true rfl)), cell_l ho]
theorem wd_arrC {ad : Nat → Nat} {cA : Nat → ClassId} {o n : Nat} (ho : KD o = (22, n)) : (Wd ad cA h)[o]? = some (ad o, .inl (cA 22, n, .inl (h.1 o))) := by
  rw [wd_get (kd_lt (by rw [ho]; exact Nat.le_of_ble_eq_true rfl)), cell_c ho]
theorem wd_arrR {ad : Nat → Nat} {cA : Nat → ClassId} {o n : Nat} (ho : KD o = (23, n)) : (Wd ad cA h)[o]? = some (ad o, .inl (cA 23, n, .inr (.inr (.inr (.inr (fun k => some (ad (rf o k)))))))) := by
  rw [wd_get (kd_lt (by rw [ho]; exact Nat.le_of_ble_eq_true rfl)), cell_r ho]
theorem r_iald {o n : Nat} {i : Int32} (K : OK G E d own cc nL) (dc : decode cc pc = .ok (.iaload, 1)) (ho : KD o = (20, n)) (hi : inb i n = true) (kk : JJ G E nL (pc + 1) lv (.int (h.1 o (ix i)) :: st) h) : JJ G E nL pc lv (.int i :: .ref o :: st) h := by
  obtain ⟨D, A, ad, cA⟩ := G
  obtain ⟨p, l, e, R, s, m, args, below, meth, c, cells, slots, Q⟩ := E
  obtain ⟨hx, hb, hml, hown, hts, hK, hZ, hN, hR⟩ := K
  intro H locs ls hP hD hS hl
  exact va_iald (D := D) hx hb hK hP o 0 (wd_arr ho) rfl (inb_in hi) dc (kk H locs ls hP hD hS hl)
theorem r_cald {o n : Nat} {i : Int32} (K : OK G E d own cc nL) (dc : decode cc pc = .ok (.caload, 1)) (ho : KD o = (22, n)) (hi : inb i n = true) (kk : JJ G E nL (pc + 1) lv (.int (h.1 o (ix i)) :: st) h) : JJ G E nL pc lv (.int i :: .ref o :: st) h := by
  obtain ⟨D, A, ad, cA⟩ := G
  obtain ⟨p, l, e, R, s, m, args, below, meth, c, cells, slots, Q⟩ := E
  obtain ⟨hx, hb, hml, hown, hts, hK, hZ, hN, hR⟩ := K
  intro H locs ls hP hD hS hl
  exact va_cald (D := D) hx hb hK hP o 2 (wd_arrC ho) rfl (inb_in hi) dc (kk H locs ls hP hD hS hl)
theorem r_lald {o n : Nat} {i : Int32} (K : OK G E d own cc nL) (dc : decode cc pc = .ok (.laload, 1)) (ho : KD o = (21, n)) (hi : inb i n = true) (kk : JJ G E nL (pc + 1) lv (.long (h.2 o (ix i)) :: st) h) : JJ G E nL pc lv (.int i :: .ref o :: st) h := by
  obtain ⟨D, A, ad, cA⟩ := G
  obtain ⟨p, l, e, R, s, m, args, below, meth, c, cells, slots, Q⟩ := E
  obtain ⟨hx, hb, hml, hown, hts, hK, hZ, hN, hR⟩ := K
  intro H locs ls hP hD hS hl
  exact va_lald (D := D) hx hb hK hP o 1 (wd_arrL ho) rfl (inb_in hi) dc (kk H locs ls hP hD hS hl)
theorem r_aald {o n : Nat} {i : Int32} (K : OK G E d own cc nL) (dc : decode cc pc = .ok (.aaload, 1)) (ho : KD o = (23, n)) (hi : inb i n = true) (kk : JJ G E nL (pc + 1) lv (.ref (rf o (ix i)) :: st) h) : JJ G E nL pc lv (.int i :: .ref o :: st) h := by
  obtain ⟨D, A, ad, cA⟩ := G
  obtain ⟨p, l, e, R, s, m, args, below, meth, c, cells, slots, Q⟩ := E
  obtain ⟨hx, hb, hml, hown, hts, hK, hZ, hN, hR⟩ := K
  intro H locs ls hP hD hS hl
  exact va_aldq (D := D) hx hb hK hP o 3 (wd_arrR ho) rfl (inb_in hi) dc (kk H locs ls hP hD hS hl)
theorem r_iast {o n : Nat} {i v : Int32} (K : OK G E d own cc nL) (dc : decode cc pc = .ok (.iastore, 1)) (ho : KD o = (20, n)) (hi : inb i n = true) {h1 : AH} (he : h1 = wI h o (ix i) v) (kk : JJ G E nL (pc + 1) lv st h1) : JJ G E nL pc lv (.int v :: .int i :: .ref o :: st) h := by
  subst he
  obtain ⟨D, A, ad, cA⟩ := G
  obtain ⟨p, l, e, R, s, m, args, below, meth, c, cells, slots, Q⟩ := E
  obtain ⟨hx, hb, hml, hown, hts, hK, hZ, hN, hR⟩ := K
  intro H locs ls hP hD hS hl
  refine va_iast (D := D) hx hb hK hP hD hS o 0 (wd_arr ho) rfl (inb_in hi) dc (fun H' locs' hP' hD' hS' => ?_)
  rw [wd_setI ho] at hP' hD'
  exact kk H' locs' ls hP' hD' hS' hl
theorem r_last {o n : Nat} {i : Int32} {v : Int64} (K : OK G E d own cc nL) (dc : decode cc pc = .ok (.lastore, 1)) (ho : KD o = (21, n)) (hi : inb i n = true) {h1 : AH} (he : h1 = wL h o (ix i) v) (kk : JJ G E nL (pc + 1) lv st h1) : JJ G E nL pc lv (.long v :: .int i :: .ref o :: st) h := by
  subst he
  obtain ⟨D, A, ad, cA⟩ := G
  obtain ⟨p, l, e, R, s, m, args, below, meth, c, cells, slots, Q⟩ := E
  obtain ⟨hx, hb, hml, hown, hts, hK, hZ, hN, hR⟩ := K
  intro H locs ls hP hD hS hl
  refine va_last (D := D) hx hb hK hP hD hS o 1 (wd_arrL ho) rfl (inb_in hi) dc (fun H' locs' hP' hD' hS' => ?_)
  rw [wd_setL ho] at hP' hD'
  exact kk H' locs' ls hP' hD' hS' hl
theorem r_alen {o n : Nat} {v : Int32} (K : OK G E d own cc nL) (dc : decode cc pc = .ok (.arraylength, 1)) (ho : KD o = (20, n)) (hv : Int32.ofNat n = v) (kk : JJ G E nL (pc + 1) lv (.int v :: st) h) : JJ G E nL pc lv (.ref o :: st) h := by
  obtain ⟨D, A, ad, cA⟩ := G
  obtain ⟨p, l, e, R, s, m, args, below, meth, c, cells, slots, Q⟩ := E
  obtain ⟨hx, hb, hml, hown, hts, hK, hZ, hN, hR⟩ := K
  intro H locs ls hP hD hS hl
  exact va_alen (D := D) hx hb hK hP o 0 (wd_arr ho) (ty := .int) rfl hv dc (kk H locs ls hP hD hS hl)
def GS (own : String) (idx q : Nat) : Prop := ∃ e : Nat × String × String × Nat, e ∈ STN ∧ e.1 = q ∧ Cond.fieldLink own idx e.2.1 e.2.2.1 "[I" ∈ gtbl
theorem r_gets {idx q : Nat} (K : OK G E d own cc nL) (F : GS own idx q) (dc : decode cc pc = .ok (.getstatic idx, 3)) (kk : JJ G E nL (pc + 3) lv (.ref q :: st) h) : JJ G E nL pc lv st h := by
  obtain ⟨D, A, ad, cA⟩ := G
  obtain ⟨p, l, e, R, s, m, args, below, meth, c, cells, slots, Q⟩ := E
  obtain ⟨hx, hb, hml, hown, hts, hK, hZ, hN, hR⟩ := K
  intro H locs ls hP hD hS hl
  obtain ⟨e1, f1, f2, f3⟩ := F
  subst f2
  exact va_gets hx hb (hZ e1 f1).1 hS hown (hts _ f3) (fun x hh => hh) dc (kk H locs ls hP hD hS hl)
def SL (q n : Nat) : Prop := ∃ e : Nat × String × String × Nat, e ∈ STN ∧ e.1 = q ∧ e.2.2.2 = n
theorem r_sald {o n : Nat} {i : Int32} (K : OK G E d own cc nL) (dc : decode cc pc = .ok (.iaload, 1)) (ho : SL o n) (hi : inb i n = true) (kk : JJ G E nL (pc + 1) lv (.int (ST o (ix i)) :: st) h) : JJ G E nL pc lv (.int i :: .ref o :: st) h := by
  obtain ⟨D, A, ad, cA⟩ := G
  obtain ⟨p, l, e, R, s, m, args, below, meth, c, cells, slots, Q⟩ := E
  obtain ⟨hx, hb, hml, hown, hts, hK, hZ, hN, hR⟩ := K
  intro H locs ls hP hD hS hl
  obtain ⟨e1, f1, f2, f3⟩ := ho
  subst f2
  subst f3
  obtain ⟨cell, g1, g2, g3, g4, g5, g6, g7⟩ := (hZ e1 f1).2.kept hS.2.1
  have hin := inb_in hi
  have hlt : i.toNatClampNeg < e1.2.2.2 := Nat.not_le.mp fun q => hin (Or.inr q)
  exact W.iald (v := .int (ST e1.1 i.toNatClampNeg)) hx hb g1 g2 g3 (fun q => hin (q.imp id (fun z => Nat.le_trans g4 z))) (g6 _ hlt) rfl rfl dc (kk H locs ls hP hD hS hl)
theorem r_slen {o n : Nat} {v : Int32} (K : OK G E d own cc nL) (dc : decode cc pc = .ok (.arraylength, 1)) (ho : SL o n) (hv : Int32.ofNat n = v) (kk : JJ G E nL (pc + 1) lv (.int v :: st) h) : JJ G E nL pc lv (.ref o :: st) h := by
  obtain ⟨D, A, ad, cA⟩ := G
  obtain ⟨p, l, e, R, s, m, args, below, meth, c, cells, slots, Q⟩ := E
  obtain ⟨hx, hb, hml, hown, hts, hK, hZ, hN, hR⟩ := K
  intro H locs ls hP hD hS hl
  obtain ⟨e1, f1, f2, f3⟩ := ho
  subst f2
  subst f3
  subst hv
  obtain ⟨cell, g1, g2, g3, g4, g5, g6, g7⟩ := (hZ e1 f1).2.kept hS.2.1
  exact W.alen hx hb g1 g2 g5 rfl rfl dc (kk H locs ls hP hD hS hl)
theorem r_iret {h' : AH} {v rv : Int32} (K : OK G E d own cc nL) (Z : RT G E (some .int) (some (.int rv)) h') (dc : decode cc pc = .ok (.ireturn, 1))  (hf : some (v, h) = some (rv, h')) : JJ G E nL pc lv [.int v] h := by
  obtain ⟨D, A, ad, cA⟩ := G
  obtain ⟨p, l, e, R, s, m, args, below, meth, c, cells, slots, Q⟩ := E
  obtain ⟨hx, hb, hml, hown, hts, hK, hZ, hN, hR⟩ := K
  intro H locs ls hP hD hS hl
  obtain ⟨z1, z2, z3, z4, z5⟩ := Z
  subst z3; subst z4; subst z5
  cases hf
  exact W.iret (Qc := QcJ _ _ _) hx hb z1 (fun t ht hW => ⟨⟨rfl, by rw [ht]; exact hP, hD⟩, hS.F ht⟩) hS.2.2 dc z2
theorem r_zret {h' : AH} {v rv : Int32} (K : OK G E d own cc nL) (Z : RT G E (some .boolean) (some (.int rv)) h') (dc : decode cc pc = .ok (.ireturn, 1)) (hv : isB v = true) (hf : some (v, h) = some (rv, h')) : JJ G E nL pc lv [.int v] h := by
  obtain ⟨D, A, ad, cA⟩ := G
  obtain ⟨p, l, e, R, s, m, args, below, meth, c, cells, slots, Q⟩ := E
  obtain ⟨hx, hb, hml, hown, hts, hK, hZ, hN, hR⟩ := K
  intro H locs ls hP hD hS hl
  obtain ⟨z1, z2, z3, z4, z5⟩ := Z
  subst z3; subst z4; subst z5
  cases hf
  exact W.zret (Qc := QcJ _ _ _) hx hb z1 (isB_nar hv).1 (fun t ht hW => ⟨⟨rfl, by rw [ht]; exact hP, hD⟩, hS.F ht⟩) hS.2.2 dc z2
theorem r_lret {h' : AH} {v rv : Int64} (K : OK G E d own cc nL) (Z : RT G E (some .long) (some (.long rv)) h') (dc : decode cc pc = .ok (.lreturn, 1))  (hf : some (v, h) = some (rv, h')) : JJ G E nL pc lv [.long v] h := by
  obtain ⟨D, A, ad, cA⟩ := G
  obtain ⟨p, l, e, R, s, m, args, below, meth, c, cells, slots, Q⟩ := E
  obtain ⟨hx, hb, hml, hown, hts, hK, hZ, hN, hR⟩ := K
  intro H locs ls hP hD hS hl
  obtain ⟨z1, z2, z3, z4, z5⟩ := Z
  subst z3; subst z4; subst z5
  cases hf
  exact W.lret (Qc := QcJ _ _ _) hx hb z1 (fun t ht hW => ⟨⟨rfl, by rw [ht]; exact hP, hD⟩, hS.F ht⟩) hS.2.2 dc z2
theorem r_vret {h' : AH}  (K : OK G E d own cc nL) (Z : RT G E (none) (none) h') (dc : decode cc pc = .ok (.return_, 1))  (hf : some h = some h') : JJ G E nL pc lv [] h := by
  obtain ⟨D, A, ad, cA⟩ := G
  obtain ⟨p, l, e, R, s, m, args, below, meth, c, cells, slots, Q⟩ := E
  obtain ⟨hx, hb, hml, hown, hts, hK, hZ, hN, hR⟩ := K
  intro H locs ls hP hD hS hl
  obtain ⟨z1, z2, z3, z4, z5⟩ := Z
  subst z3; subst z4; subst z5
  cases hf
  exact W.vret (Qc := QcJ _ _ _) hx hb z1 (fun t ht hW => ⟨⟨rfl, by rw [ht]; exact hP, hD⟩, hS.F ht⟩) hS.2.2 dc z2
theorem r_aret {h' : AH} {v rv : Nat} (K : OK G E d own cc nL) (Z : RT G E (some (.array .int)) (some (.ref rv)) h') (dc : decode cc pc = .ok (.areturn, 1))  (hf : some (v, h) = some (rv, h')) : JJ G E nL pc lv [.ref v] h := by
  obtain ⟨D, A, ad, cA⟩ := G
  obtain ⟨p, l, e, R, s, m, args, below, meth, c, cells, slots, Q⟩ := E
  obtain ⟨hx, hb, hml, hown, hts, hK, hZ, hN, hR⟩ := K
  intro H locs ls hP hD hS hl
  obtain ⟨z1, z2, z3, z4, z5⟩ := Z
  subst z3; subst z4; subst z5
  cases hf
  exact W.aret (Qc := QcJ _ _ _) hx hb z1 (Or.inr ⟨_, rfl⟩) (Or.inr ⟨_, rfl⟩) (fun t ht hW => ⟨⟨rfl, by rw [ht]; exact hP, hD⟩, hS.F ht⟩) hS.2.2 dc z2
theorem r_nmI {x y : Int32} (e : y = x) (k : JJ G E nL pc lv (.int y :: st) h) : JJ G E nL pc lv (.int x :: st) h := e ▸ k
theorem r_nmL {x y : Int64} (e : y = x) (k : JJ G E nL pc lv (.long y :: st) h) : JJ G E nL pc lv (.long x :: st) h := e ▸ k
theorem r_nmR {x y : Nat} (e : y = x) (k : JJ G E nL pc lv (.ref y :: st) h) : JJ G E nL pc lv (.ref x :: st) h := e ▸ k
def letV {α β : Type} (x : α) (f : α → β) : β := f x
def bind2 {α β : Type} (o : Option (α × AH)) (f : α → AH → Option β) : Option β := match o with
  | none => none
  | some q => f q.1 q.2
def bindV {β : Type} (o : Option AH) (f : AH → Option β) : Option β := match o with
  | none => none
  | some q => f q
theorem e_t {α : Type} {c : Prop} {i : Decidable c} {a b x : α} (hf : (if c then a else b) = x) (hc : c) : a = x := by rw [if_pos hc] at hf; exact hf
theorem e_f {α : Type} {c : Prop} {i : Decidable c} {a b x : α} (hf : (if c then a else b) = x) (hc : ¬ c) : b = x := by rw [if_neg hc] at hf; exact hf
theorem e_g {α : Type} {c : Prop} {i : Decidable c} {a : Option α} {x : α} (hf : (if c then a else none) = some x) : c ∧ a = some x := by
  by_cases hc : c
  · rw [if_pos hc] at hf; exact ⟨hc, hf⟩
  · rw [if_neg hc] at hf; cases hf
theorem e_n {α : Type} {c : Prop} {i : Decidable c} {a : Option α} {x : α} (hf : (if c then none else a) = some x) : ¬ c ∧ a = some x := by
  by_cases hc : c
  · rw [if_pos hc] at hf; cases hf
  · rw [if_neg hc] at hf; exact ⟨hc, hf⟩
theorem e_l {α β : Type} {x : α} {f : α → β} {y : β} (hf : letV x f = y) : ∃ z, z = x ∧ f z = y := ⟨x, rfl, hf⟩
theorem e_2 {α β : Type} {o : Option (α × AH)} {f : α → AH → Option β} {x : β} (hf : bind2 o f = some x) : ∃ (r : α) (h : AH), o = some (r, h) ∧ f r h = some x := by
  cases o with
  | none => cases hf
  | some q => exact ⟨q.1, q.2, rfl, hf⟩
theorem e_v {β : Type} {o : Option AH} {f : AH → Option β} {x : β} (hf : bindV o f = some x) : ∃ h : AH, o = some h ∧ f h = some x := by
  cases o with
  | none => cases hf
  | some q => exact ⟨q, rfl, hf⟩
def FU : Nat := 4000
end ROWS
