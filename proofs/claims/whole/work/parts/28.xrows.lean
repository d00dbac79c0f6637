/-! rows for the law: its script, its end -/
def XOK (G : GG) (E : EE) (L : Nat) (xs : Nat → Int32) : Prop := match G, E with
  | (D, A, ad, cA), (p, l, e, R, s, m, args, below, meth, c, cells, slots, Q) => va_X (ad 300) L xs s s.heap ∧ ad 300 < s.heap.size ∧ ¬ A (ad 300)
def RTL (G : GG) (E : EE) : Prop := match G, E with
  | (D, A, ad, cA), (p, l, e, R, s, m, args, below, meth, c, cells, slots, Q) => args = #[Value.ref (ad 300)] ∧ R = room_1 ∧ Q = lw_Z below #[Value.ref (ad 300)] s ∧ meth.sig.returnType = ret ∧ meth.locks = false ∧ cells ≤ 600000 ∧ slots ≤ 7302249 ∧ c.code = code ∧ (∀ q, A q → s.heap.size ≤ q)
section XROWS
variable {G : GG} {E : EE} {d : Nat} {own : String} {cc : ByteArray} {nL pc : Nat} {lv : List (Nat × Value)} {st : List Value} {h : AH}
theorem r_xald {L : Nat} {xs : Nat → Int32} {i : Int32} (K : OK G E d own cc nL) (XO : XOK G E L xs) (dc : decode cc pc = .ok (.iaload, 1)) (hi : inb i L = true) (kk : JJ G E nL (pc + 1) lv (.int (xs (ix i)) :: st) h) : JJ G E nL pc lv (.int i :: .ref 300 :: st) h := by
  obtain ⟨D, A, ad, cA⟩ := G
  obtain ⟨p, l, e, R, s, m, args, below, meth, c, cells, slots, Q⟩ := E
  obtain ⟨hx, hb, hml, hown, hts, hK, hZ, hN, hR⟩ := K
  intro H locs ls hP hD hS hl
  obtain ⟨x1, x2, x3⟩ := XO
  exact va_sld hx hb x1 x2 x3 hS (inb_in hi) dc (kk H locs ls hP hD hS hl)
theorem r_xlen {L : Nat} {xs : Nat → Int32} (K : OK G E d own cc nL) (XO : XOK G E L xs) (dc : decode cc pc = .ok (.arraylength, 1)) (kk : JJ G E nL (pc + 1) lv (.int (Int32.ofNat L) :: st) h) : JJ G E nL pc lv (.ref 300 :: st) h := by
  obtain ⟨D, A, ad, cA⟩ := G
  obtain ⟨p, l, e, R, s, m, args, below, meth, c, cells, slots, Q⟩ := E
  obtain ⟨hx, hb, hml, hown, hts, hK, hZ, hN, hR⟩ := K
  intro H locs ls hP hD hS hl
  obtain ⟨x1, x2, x3⟩ := XO
  exact va_slen hx hb x1 x2 x3 hS dc (kk H locs ls hP hD hS hl)
theorem r_lawret {v : Int32} {h' : AH} (K : OK G E d own code nL) (Z : RTL G E) (dc : decode code pc = .ok (.ireturn, 1)) (hf : some (v, h) = some (1, h')) : JJ G E nL pc lv [.int v] h := by
  obtain ⟨D, A, ad, cA⟩ := G
  obtain ⟨p, l, e, R, s, m, args, below, meth, c, cells, slots, Q⟩ := E
  obtain ⟨hx, hb, hml, hown, hts, hK, hZ, hN, hR⟩ := K
  intro H locs ls hP hD hS hl
  obtain ⟨z1, z2, z3, z4, z5, z6, z7, z8, z9⟩ := Z
  subst z1; subst z2; subst z3
  cases hf
  refine va_forget (fun q hq => z9 _ (hS.2.2 q hq)) ?_
  refine W.widen (k := 600000) (n := 7302249) z6 z7 ?_
  exact lw_ret hx hb z4 z5 dc
end XROWS
