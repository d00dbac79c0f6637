/-! ===== worlds that grow: constructors ===== -/
abbrev RH : Type := Nat → Nat → Option Nat
def wR (r : RH) (o k : Nat) (v : Option Nat) : RH := fun o' => if o' = o then va_up (r o) k v else r o'
def fldN (ad : Nat → Nat) (h : AH) (r : RH) (ci o k : Nat) : Value := if isR ci k = true then va_rf ((r o k).map ad) else .int (h.1 o k)
def cellN (ad : Nat → Nat) (cA : Nat → ClassId) (h : AH) (r : RH) (o : Nat) : va_E :=
  if (KD o).1 = 20 then .inl (cA 20, (KD o).2, .inl (h.1 o))
  else if (KD o).1 = 21 then .inl (cA 21, (KD o).2, .inr (.inl (h.2 o)))
  else if (KD o).1 = 22 then .inl (cA 22, (KD o).2, .inl (h.1 o))
  else if (KD o).1 = 23 then .inl (cA 23, (KD o).2, .inr (.inr (.inr (.inr (fun k => (r o k).map ad)))))
  else .inr ((KD o).1, (List.range (KD o).2).map (fldN ad h r (KD o).1 o))
def Wn (ad : Nat → Nat) (cA : Nat → ClassId) (n : Nat) (h : AH) (r : RH) : va_W := (List.range n).map (fun o => (ad o, cellN ad cA h r o))
theorem wn_get {ad : Nat → Nat} {cA : Nat → ClassId} {n : Nat} {h : AH} {r : RH} {o : Nat} (ho : o < n) : (Wn ad cA n h r)[o]? = some (ad o, cellN ad cA h r o) := by
  unfold Wn
  rw [List.getElem?_map, List.getElem?_range ho]
  rfl
theorem wn_succ {ad : Nat → Nat} {cA : Nat → ClassId} {n : Nat} {h : AH} {r : RH} : Wn ad cA (n + 1) h r = Wn ad cA n h r ++ [(ad n, cellN ad cA h r n)] := by
  unfold Wn
  rw [List.range_succ, List.map_append]
  rfl
theorem celN_i {ad : Nat → Nat} {cA : Nat → ClassId} {h : AH} {r : RH} {o n : Nat} (k : KD o = (20, n)) : cellN ad cA h r o = .inl (cA 20, n, .inl (h.1 o)) := by
  unfold cellN; rw [k]; rfl
theorem celN_l {ad : Nat → Nat} {cA : Nat → ClassId} {h : AH} {r : RH} {o n : Nat} (k : KD o = (21, n)) : cellN ad cA h r o = .inl (cA 21, n, .inr (.inl (h.2 o))) := by
  unfold cellN; rw [k]; rfl
theorem celN_c {ad : Nat → Nat} {cA : Nat → ClassId} {h : AH} {r : RH} {o n : Nat} (k : KD o = (22, n)) : cellN ad cA h r o = .inl (cA 22, n, .inl (h.1 o)) := by
  unfold cellN; rw [k]; rfl
theorem celN_r {ad : Nat → Nat} {cA : Nat → ClassId} {h : AH} {r : RH} {o n : Nat} (k : KD o = (23, n)) : cellN ad cA h r o = .inl (cA 23, n, .inr (.inr (.inr (.inr (fun k => (r o k).map ad))))) := by
  unfold cellN; rw [k]; rfl
theorem celN_o {ad : Nat → Nat} {cA : Nat → ClassId} {h : AH} {r : RH} {o ci n : Nat} (k : KD o = (ci, n)) (hc : ci < 20) : cellN ad cA h r o = .inr (ci, (List.range n).map (fldN ad h r ci o)) := by
  unfold cellN; rw [k]
  show (if ci = 20 then _ else _) = _
  rw [if_neg (by omega)]
  show (if ci = 21 then _ else _) = _
  rw [if_neg (by omega)]
  show (if ci = 22 then _ else _) = _
  rw [if_neg (by omega)]
  show (if ci = 23 then _ else _) = _
  rw [if_neg (by omega)]
theorem celN_ext {ad : Nat → Nat} {cA : Nat → ClassId} {h h' : AH} {r r' : RH} {o : Nat} (e1 : h'.1 o = h.1 o) (e2 : h'.2 o = h.2 o) (e3 : r' o = r o) : cellN ad cA h' r' o = cellN ad cA h r o := by
  unfold cellN
  have e4 : fldN ad h' r' (KD o).1 o = fldN ad h r (KD o).1 o := by
    funext k
    unfold fldN
    rw [e1, e3]
  rw [e1, e2, e3, e4]
theorem wn_set {ad : Nat → Nat} {cA : Nat → ClassId} {n : Nat} {h h' : AH} {r r' : RH} {o : Nat} {c : va_E} (ho : o < n) (hc : cellN ad cA h' r' o = c) (e1 : ∀ q, q ≠ o → h'.1 q = h.1 q) (e2 : ∀ q, q ≠ o → h'.2 q = h.2 q) (e3 : ∀ q, q ≠ o → r' q = r q) : (Wn ad cA n h r).set o (ad o, c) = Wn ad cA n h' r' := by
  apply List.ext_getElem?
  intro k
  have hl : (Wn ad cA n h r).length = n := by simp [Wn]
  have hl' : (Wn ad cA n h' r').length = n := by simp [Wn]
  by_cases hk : k = o
  · subst hk
    rw [List.getElem?_set_self (by rw [hl]; exact ho), wn_get ho, hc]
  · rw [List.getElem?_set_ne (Ne.symm hk)]
    rcases Nat.lt_or_ge k n with q | q
    · rw [wn_get q, wn_get q, celN_ext (e1 k hk) (e2 k hk) (e3 k hk)]
    · rw [List.getElem?_eq_none (by rw [hl]; exact q), List.getElem?_eq_none (by rw [hl']; exact q)]
theorem wR_ne {r : RH} {o o' k : Nat} {v : Option Nat} (e : o' ≠ o) : wR r o k v o' = r o' := by
  unfold wR
  rw [if_neg e]
theorem wR_eq {r : RH} {o k : Nat} {v : Option Nat} : wR r o k v o = va_up (r o) k v := by
  unfold wR
  rw [if_pos rfl]
theorem fields_set {n k : Nat} {f g : Nat → Value} {v : Value} (hk : k < n) (h1 : g k = v) (h2 : ∀ j, j ≠ k → g j = f j) : ((List.range n).map f).set k v = (List.range n).map g := by
  apply List.ext_getElem?
  intro j
  have hl : ((List.range n).map f).length = n := by simp
  rcases Nat.lt_or_ge j n with q | q
  · rw [List.getElem?_map, List.getElem?_range q]
    by_cases hj : j = k
    · subst hj
      rw [List.getElem?_set_self (by rw [hl]; exact q)]
      show some v = some (g j)
      rw [h1]
    · rw [List.getElem?_set_ne (Ne.symm hj), List.getElem?_map, List.getElem?_range q]
      show some (f j) = some (g j)
      rw [h2 j hj]
  · rw [List.getElem?_eq_none (by simpa using q), List.getElem?_eq_none (by simpa using q)]
theorem wn_setF {ad : Nat → Nat} {cA : Nat → ClassId} {m n : Nat} {h : AH} {r : RH} {o ci k : Nat} {v : Int32} (hm : o < m) (hk : KD o = (ci, n)) (hc : ci < 20) (hkn : k < n) (hr : isR ci k = false) : (Wn ad cA m h r).set o (ad o, .inr (ci, ((List.range n).map (fldN ad h r ci o)).set k (.int v))) = Wn ad cA m (wI h o k v) r := by
  refine wn_set hm ?_ (fun q hq => upO_ne hq) (fun q hq => rfl) (fun q hq => rfl)
  rw [celN_o hk hc, fields_set hkn (g := fldN ad (wI h o k v) r ci o)]
  · unfold fldN wI
    rw [hr, upO_eq, pk_us]
    rfl
  · intro j hj
    unfold fldN wI
    rw [upO_eq, pk_un hj]
theorem wn_setR {ad : Nat → Nat} {cA : Nat → ClassId} {m n : Nat} {h : AH} {r : RH} {o ci k q : Nat} (hm : o < m) (hk : KD o = (ci, n)) (hc : ci < 20) (hkn : k < n) (hr : isR ci k = true) : (Wn ad cA m h r).set o (ad o, .inr (ci, ((List.range n).map (fldN ad h r ci o)).set k (.ref (ad q)))) = Wn ad cA m h (wR r o k (some q)) := by
  refine wn_set hm ?_ (fun q hq => rfl) (fun q hq => rfl) (fun q hq => wR_ne hq)
  rw [celN_o hk hc, fields_set hkn (g := fldN ad h (wR r o k (some q)) ci o)]
  · unfold fldN
    rw [hr, wR_eq]
    show va_rf (Option.map ad (if k = k then some q else r o k)) = _
    rw [if_pos rfl]
    rfl
  · intro j hj
    unfold fldN
    rw [wR_eq]
    show (if isR ci j = true then va_rf (Option.map ad (if j = k then some q else r o j)) else _) = _
    rw [if_neg hj]
theorem celN_ad {ad ad' : Nat → Nat} {cA : Nat → ClassId} {h : AH} {r : RH} {o n : Nat} (hr : ∀ k q, r o k = some q → q < n) (e : ∀ q, q < n → ad' q = ad q) : cellN ad' cA h r o = cellN ad cA h r o := by
  have e0 : ∀ k, (r o k).map ad' = (r o k).map ad := by
    intro k
    cases hk : r o k with
    | none => rfl
    | some q =>
      show some (ad' q) = some (ad q)
      rw [e q (hr k q hk)]
  unfold cellN
  have e4 : fldN ad' h r (KD o).1 o = fldN ad h r (KD o).1 o := by
    funext k
    unfold fldN
    rw [e0]
  have e5 : (fun k => (r o k).map ad') = fun k => (r o k).map ad := funext e0
  rw [e4, e5]
theorem wn_ad {ad ad' : Nat → Nat} {cA : Nat → ClassId} {h : AH} {r : RH} {n : Nat} (hr : ∀ o k q, r o k = some q → q < n) (e : ∀ q, q < n → ad' q = ad q) : Wn ad' cA n h r = Wn ad cA n h r := by
  unfold Wn
  apply List.map_congr_left
  intro o ho
  rw [celN_ad (hr o) e, e o (List.mem_range.mp ho)]
def okV (n : Nat) (v : Value) : Bool := match v with
  | .ref o => Nat.ble (o + 1) n || Nat.ble 100 o
  | _ => true
theorem okV_cv {ad ad' : Nat → Nat} {n : Nat} {v : Value} (hv : okV n v = true) (e : ∀ q, q < n ∨ 100 ≤ q → ad' q = ad q) : cv ad' v = cv ad v := by
  cases v with
  | ref o => show Value.ref (ad' o) = Value.ref (ad o); rw [e o (((Bool.or_eq_true _ _).mp hv).imp Nat.le_of_ble_eq_true Nat.le_of_ble_eq_true)]
  | _ => rfl
theorem okV_st {ad ad' : Nat → Nat} {n : Nat} {st : List Value} (hv : st.all (okV n) = true) (e : ∀ q, q < n ∨ 100 ≤ q → ad' q = ad q) : st.map (cv ad') = st.map (cv ad) := List.map_congr_left fun v hm => okV_cv (List.all_eq_true.mp hv v hm) e
theorem okV_lv {ad ad' : Nat → Nat} {n : Nat} {lv : List (Nat × Value)} (hv : (lv.all fun q => okV n q.2) = true) (e : ∀ q, q < n ∨ 100 ≤ q → ad' q = ad q) : lv.map (cvp ad') = lv.map (cvp ad) := List.map_congr_left fun v hm => by
  show (v.1, cv ad' v.2) = (v.1, cv ad v.2)
  rw [okV_cv (List.all_eq_true.mp hv v hm) e]
def NWC : List (String × Nat × MethodName × String) := [(RX9, 9, yX7_init, RX9), (RX9, 26, yX4_init, RX9), (RX9, 33, yX3_init, RX9), (RX6, 11, yX7_init, RX9), (RX9, 61, yX2_init, RX9), (RX9, 68, yX0_init, RX9), (RX9, 75, yX1_init, RX9), (RX9, 86, yX5_init, RX9)]
def NWc (U : State) : Prop := (∀ q ∈ NWC, va_Nw (.methodLinkNest q.1 q.2.1 q.2.2.1 q.2.2.2) U) ∧ va_AO RX5 U
theorem NWc.same {u U : State} (e : u.vm = U.vm) (hA : u.vm.Alike U.vm) (h : NWc u) : NWc U := ⟨fun q hq => (h.1 q hq).same rfl e, h.2.moved hA⟩
theorem NWc.warm {s U : State} (hW : s.WarmedH U.vm) (h : NWc s) : NWc U := ⟨fun q hq => va_Nw.warmM hW (h.1 q hq), h.2.moved hW.alike⟩
def frN (n : Nat) (h : AH) (r : RH) : Prop := (∀ o, n ≤ o → h.1 o = (fun _ => 0) ∧ h.2 o = (fun _ => 0) ∧ r o = (fun _ => none)) ∧ ∀ o k q, r o k = some q → q < n
def WpreC (G : GG) (ad : Nat → Nat) (n : Nat) (h : AH) (r : RH) (U : State) : Prop := va_P G.1 vwCl (Wn ad G.2.2.2 n h r) U.heap ∧ va_D G.2.1 (Wn ad G.2.2.2 n h r) ∧ va_K G.1 vwCl (tyL G.2.2.2) U ∧ NWc U ∧ (∀ q, U.heap.size ≤ q → G.2.1 q)
def QcC (G : GG) (ad : Nat → Nat) (n0 n : Nat) (h : AH) (r : RH) : Array Value → State → Outcome → State → Prop := fun _ st oc t => (oc = .returned none ∧ ∃ ad' : Nat → Nat, (∀ o, o < n0 ∨ 100 ≤ o → ad' o = ad o) ∧ va_P G.1 vwCl (Wn ad' G.2.2.2 n h r) t.heap ∧ va_D G.2.1 (Wn ad' G.2.2.2 n h r)) ∧ va_F G.2.1 st t
def rmC (d mc ms : Nat) : Room := { frames := d, cells := mc, slots := ms, locals := 60 * d }
def ConC (G : GG) (d mc ms : Nat) (y : MethodName) (cc : ByteArray) (maxL : Nat) (av : List Value) (n : Nat) (h : AH) (r : RH) (n' : Nat) (h' : AH) (r' : RH) : Prop :=
  ∀ (l : Launch) (ad : Nat → Nat), Met l y (Cond.code y cc maxL none :: gtbl) (rmC d mc ms) (va_Pc (av.map (cv ad)) (WpreC G ad n h r)) (QcC G ad n n' h' r') mc ms G.2.1
def JC (G : GG) (E : EE) (nL n0 c0 s0 n pc : Nat) (lv : List (Nat × Value)) (st : List Value) (h : AH) (r : RH) : Prop := match G, E with
  | (D, A, ad0, cA), (p, l, e, R, s, m, args, below, meth, c, _, _, Q) =>
    ∀ (ad : Nat → Nat) (H : Heap) (locs : List Loc) (ls : Array Slot), (∀ o, o < n0 ∨ 100 ≤ o → ad o = ad0 o) → va_P D vwCl (Wn ad cA n h r) H → va_D A (Wn ad cA n h r) → va_S A s.heap H locs → lv_has ls nL (lv.map (cvp ad)) → W p l e R s m args below meth c H locs c0 s0 Q (F0 m pc ls (st.map (cv ad)))
def OKC (G : GG) (E : EE) (d mc ms : Nat) (own : String) (cc : ByteArray) (nL : Nat) : Prop := match G, E with
  | (D, A, ad, cA), (p, l, e, R, s, m, args, below, meth, c, _, _, Q) =>
    p.tables.exec = Jvm.exec ∧ c.code = cc ∧ c.maxLocals = nL ∧ s.vm.findClass own = some m.cls ∧ (∀ w ∈ gtbl, w.before args s = true) ∧ va_K D vwCl (tyL cA) s ∧ NWc s ∧ (d ≤ R.frames ∧ 60 * d ≤ R.locals ∧ mc ≤ R.cells ∧ ms ≤ R.slots) ∧ (∀ q, s.heap.size ≤ q → A q)
def RTC (G : GG) (E : EE) (mc ms n0 n : Nat) (h : AH) (r : RH) : Prop := match G, E with
  | (D, A, ad, cA), (p, l, e, R, s, m, args, below, meth, c, _, _, Q) =>
    meth.sig.returnType = none ∧ meth.locks = false ∧ meth.name = "<init>" ∧ Q = MQ below (QcC (D, A, ad, cA) ad n0 n h r) args s mc ms A
set_option maxHeartbeats 1000000 in
theorem conC_of {G : GG} {d mc ms : Nat} {y : MethodName} {cc : ByteArray} {maxL k n n' : Nat} {av : List Value} {h h' : AH} {r r' : RH} (M : MW y cc maxL none k) (hy : y.name = "<init>") (hlen : (lg_sl av).length ≤ maxL) (body : ∀ (ad : Nat → Nat) (E : EE), OKC (G.1, G.2.1, ad, G.2.2.2) E d mc ms y.cls cc maxL → RTC (G.1, G.2.1, ad, G.2.2.2) E mc ms n n' h' r' → JC (G.1, G.2.1, ad, G.2.2.2) E maxL n 0 0 n 0 (lv_args 0 av) [] h r) : ConC G d mc ms y cc maxL av n h r n' h' r' := by
  intro l ad
  refine Met.ofW (cc := cc) (maxL := maxL) (ret := none) M.2.2.2.1 rfl ?_
  intro p e s m args below meth c s₁ B hml hv
  obtain ⟨D, A, ad9, cA⟩ := G
  obtain ⟨rfl, hP, hD, hK, hN, hA⟩ := hv
  have hts := atoms_spec (ws := Cond.code y cc maxL none :: gtbl) B.pre
  have hl := lv_entry (av.map (cv ad)) (n := maxL) (by rw [lg_cv]; exact hlen)
  have hin : meth.name = "<init>" := (name_of_methodNamed B.named B.method).1.trans hy
  rw [lg_entry_eq]
  rw [cvp_args] at hl
  exact body ad (p, l, e, rmC d mc ms, s, m, (av.map (cv ad)).toArray, below, meth, c, 0, 0, MQ below (QcC (D, A, ad, cA) ad n n' h' r') (av.map (cv ad)).toArray s mc ms A) ⟨B.exec, B.bytes, hml, findClass_of_methodNamed B.named, fun w hw => hts w (List.mem_cons_of_mem _ hw), hK, hN, ⟨Nat.le_refl _, Nat.le_refl _, Nat.le_refl _, Nat.le_refl _⟩, hA⟩ ⟨B.returns, B.notSynchronized, hin, rfl⟩ ad s.heap [] _ (fun _ _ => rfl) hP hD va_S.rf hl

section CROWS
variable {G : GG} {E : EE} {d mc ms : Nat} {own : String} {cc : ByteArray} {nL n0 c0 s0 n pc : Nat} {lv : List (Nat × Value)} {st : List Value} {h : AH} {r : RH}
theorem rc_iconst {z : Int} {v : Int32} (K : OKC G E d mc ms own cc nL) (dc : decode cc pc = .ok (.iconst z, 1)) (hv : Int32.ofInt z = v) (k : JC G E nL n0 c0 s0 n (pc + 1) lv (.int v :: st) h r) : JC G E nL n0 c0 s0 n pc lv (st) h r := by
  obtain ⟨D, A, ad0, cA⟩ := G
  obtain ⟨p, l, e, R, s, m, args, below, meth, c, cells, slots, Q⟩ := E
  obtain ⟨hx, hb, hml, hown, hts, hK, hN, hR, hA⟩ := K
  intro ad H locs ls had hP hD hS hl
  exact lv_iconst hx hb dc hv (k ad H locs ls had hP hD hS hl)
theorem rc_bipush {z : Int} {v : Int32} (K : OKC G E d mc ms own cc nL) (dc : decode cc pc = .ok (.bipush z, 2)) (hv : (Int8.ofInt z).toInt32 = v) (k : JC G E nL n0 c0 s0 n (pc + 2) lv (.int v :: st) h r) : JC G E nL n0 c0 s0 n pc lv (st) h r := by
  obtain ⟨D, A, ad0, cA⟩ := G
  obtain ⟨p, l, e, R, s, m, args, below, meth, c, cells, slots, Q⟩ := E
  obtain ⟨hx, hb, hml, hown, hts, hK, hN, hR, hA⟩ := K
  intro ad H locs ls had hP hD hS hl
  exact lv_bipush hx hb dc hv (k ad H locs ls had hP hD hS hl)
theorem rc_sipush {z : Int} {v : Int32} (K : OKC G E d mc ms own cc nL) (dc : decode cc pc = .ok (.sipush z, 3)) (hv : (Int16.ofInt z).toInt32 = v) (k : JC G E nL n0 c0 s0 n (pc + 3) lv (.int v :: st) h r) : JC G E nL n0 c0 s0 n pc lv (st) h r := by
  obtain ⟨D, A, ad0, cA⟩ := G
  obtain ⟨p, l, e, R, s, m, args, below, meth, c, cells, slots, Q⟩ := E
  obtain ⟨hx, hb, hml, hown, hts, hK, hN, hR, hA⟩ := K
  intro ad H locs ls had hP hD hS hl
  exact lv_sipush hx hb dc hv (k ad H locs ls had hP hD hS hl)
theorem rc_dup {a : Value} (K : OKC G E d mc ms own cc nL) (dc : decode cc pc = .ok (.dup, 1)) (ha : a.category = 1) (k : JC G E nL n0 c0 s0 n (pc + 1) lv (a :: a :: st) h r) : JC G E nL n0 c0 s0 n pc lv (a :: st) h r := by
  obtain ⟨D, A, ad0, cA⟩ := G
  obtain ⟨p, l, e, R, s, m, args, below, meth, c, cells, slots, Q⟩ := E
  obtain ⟨hx, hb, hml, hown, hts, hK, hN, hR, hA⟩ := K
  intro ad H locs ls had hP hD hS hl
  exact lv_dup hx hb dc ((cv_cat ad a).trans ha) (k ad H locs ls had hP hD hS hl)
theorem rc_iload_n {z : Fin 4} {i : Nat} {x : Int32} (K : OKC G E d mc ms own cc nL) (dc : decode cc pc = .ok (.iload_n z, 1)) (q : Nat) (hi : (z : Nat) = i) (hq : lv[q]? = some (i, .int x)) (k : JC G E nL n0 c0 s0 n (pc + 1) lv (.int x :: st) h r) : JC G E nL n0 c0 s0 n pc lv st h r := by
  obtain ⟨D, A, ad0, cA⟩ := G
  obtain ⟨p, l, e, R, s, m, args, below, meth, c, cells, slots, Q⟩ := E
  obtain ⟨hx, hb, hml, hown, hts, hK, hN, hR, hA⟩ := K
  intro ad H locs ls had hP hD hS hl
  exact lv_iload_n hx hb dc hi (lv_cv hl q hq) (k ad H locs ls had hP hD hS hl)
theorem rc_aload_n {z : Fin 4} {i : Nat} {x : Nat} (K : OKC G E d mc ms own cc nL) (dc : decode cc pc = .ok (.aload_n z, 1)) (q : Nat) (hi : (z : Nat) = i) (hq : lv[q]? = some (i, .ref x)) (k : JC G E nL n0 c0 s0 n (pc + 1) lv (.ref x :: st) h r) : JC G E nL n0 c0 s0 n pc lv st h r := by
  obtain ⟨D, A, ad0, cA⟩ := G
  obtain ⟨p, l, e, R, s, m, args, below, meth, c, cells, slots, Q⟩ := E
  obtain ⟨hx, hb, hml, hown, hts, hK, hN, hR, hA⟩ := K
  intro ad H locs ls had hP hD hS hl
  exact lv_aload_n hx hb dc hi (lv_cv hl q hq) (k ad H locs ls had hP hD hS hl)
theorem rc_istore_n {z : Fin 4} {i : Nat} {x : Int32} {lv' : List (Nat × Value)} (K : OKC G E d mc ms own cc nL) (dc : decode cc pc = .ok (.istore_n z, 1)) (hi : (z : Nat) = i) (hn : i < nL) (hv : (i, Value.int x) :: lv.filter (fun q => !(q.1 == i) && !(q.1 + 1 == i && q.2.category == 2)) = lv') (k : JC G E nL n0 c0 s0 n (pc + 1) lv' st h r) : JC G E nL n0 c0 s0 n pc lv (.int x :: st) h r := by
  obtain ⟨D, A, ad0, cA⟩ := G
  obtain ⟨p, l, e, R, s, m, args, below, meth, c, cells, slots, Q⟩ := E
  obtain ⟨hx, hb, hml, hown, hts, hK, hN, hR, hA⟩ := K
  intro ad H locs ls had hP hD hS hl
  subst hv
  exact lv_istore_n hx hb dc hi hl hn (by rw [cvp_filter1]; rfl) (fun ls' hl' => k ad H locs ls' had hP hD hS hl')
theorem rc_astore_n {z : Fin 4} {i : Nat} {x : Nat} {lv' : List (Nat × Value)} (K : OKC G E d mc ms own cc nL) (dc : decode cc pc = .ok (.astore_n z, 1)) (hi : (z : Nat) = i) (hn : i < nL) (hv : (i, Value.ref x) :: lv.filter (fun q => !(q.1 == i) && !(q.1 + 1 == i && q.2.category == 2)) = lv') (k : JC G E nL n0 c0 s0 n (pc + 1) lv' st h r) : JC G E nL n0 c0 s0 n pc lv (.ref x :: st) h r := by
  obtain ⟨D, A, ad0, cA⟩ := G
  obtain ⟨p, l, e, R, s, m, args, below, meth, c, cells, slots, Q⟩ := E
  obtain ⟨hx, hb, hml, hown, hts, hK, hN, hR, hA⟩ := K
  intro ad H locs ls had hP hD hS hl
  subst hv
  exact lv_astore_n hx hb dc hi hl hn (by rw [cvp_filter1]; rfl) (fun ls' hl' => k ad H locs ls' had hP hD hS hl')
theorem rc_iinc {i : Nat} {z : Int} {x y : Int32} {lv' : List (Nat × Value)} (K : OKC G E d mc ms own cc nL) (dc : decode cc pc = .ok (.iinc i z, 3)) (q : Nat) (hq : lv[q]? = some (i, .int x)) (hy : x + Int32.ofInt z = y) (hn : i < nL) (hv : (i, Value.int y) :: lv.filter (fun q => !(q.1 == i) && !(q.1 + 1 == i && q.2.category == 2)) = lv') (k : JC G E nL n0 c0 s0 n (pc + 3) lv' st h r) : JC G E nL n0 c0 s0 n pc lv st h r := by
  obtain ⟨D, A, ad0, cA⟩ := G
  obtain ⟨p, l, e, R, s, m, args, below, meth, c, cells, slots, Q⟩ := E
  obtain ⟨hx, hb, hml, hown, hts, hK, hN, hR, hA⟩ := K
  intro ad H locs ls had hP hD hS hl
  subst hv
  subst hy
  exact lv_iinc hx hb dc hl (k := q) (by rw [List.getElem?_map, hq]; rfl) rfl hn (by rw [cvp_filter1]; rfl) (fun ls' hl' => k ad H locs ls' had hP hD hS hl')
theorem rc_goto {off : Int} {tgt : Nat} (K : OKC G E d mc ms own cc nL) (dc : decode cc pc = .ok (.goto off, 3)) (ht : (pc : Int) + off = (tgt : Int)) (k : JC G E nL n0 c0 s0 n tgt lv st h r) : JC G E nL n0 c0 s0 n pc lv st h r := by
  obtain ⟨D, A, ad0, cA⟩ := G
  obtain ⟨p, l, e, R, s, m, args, below, meth, c, cells, slots, Q⟩ := E
  obtain ⟨hx, hb, hml, hown, hts, hK, hN, hR, hA⟩ := K
  intro ad H locs ls had hP hD hS hl
  exact lv_goto hx hb dc ht (k ad H locs ls had hP hD hS hl)
theorem rc_geT {x y : Int32} {off : Int} {tgt : Nat} (K : OKC G E d mc ms own cc nL) (dc : decode cc pc = .ok (.if_icmp .ge off, 3)) (ht : (pc : Int) + off = (tgt : Int)) (hc : y ≤ x) (k : JC G E nL n0 c0 s0 n tgt lv st h r) : JC G E nL n0 c0 s0 n pc lv (.int y :: .int x :: st) h r := by
  obtain ⟨D, A, ad0, cA⟩ := G
  obtain ⟨p, l, e, R, s, m, args, below, meth, c, cells, slots, Q⟩ := E
  obtain ⟨hx, hb, hml, hown, hts, hK, hN, hR, hA⟩ := K
  intro ad H locs ls had hP hD hS hl
  exact lv_icmp_ge hx hb dc ht (fun z => k ad H locs ls had hP hD hS hl) (fun z => absurd hc z)
theorem rc_geF {x y : Int32} {off : Int} (tgt : Nat) (K : OKC G E d mc ms own cc nL) (dc : decode cc pc = .ok (.if_icmp .ge off, 3)) (ht : (pc : Int) + off = (tgt : Int)) (hc : ¬ y ≤ x) (k : JC G E nL n0 c0 s0 n (pc + 3) lv st h r) : JC G E nL n0 c0 s0 n pc lv (.int y :: .int x :: st) h r := by
  obtain ⟨D, A, ad0, cA⟩ := G
  obtain ⟨p, l, e, R, s, m, args, below, meth, c, cells, slots, Q⟩ := E
  obtain ⟨hx, hb, hml, hown, hts, hK, hN, hR, hA⟩ := K
  intro ad H locs ls had hP hD hS hl
  exact lv_icmp_ge hx hb dc ht (fun z => absurd z hc) (fun z => k ad H locs ls had hP hD hS hl)
theorem rc_lv (ks : List Nat) {lv' : List (Nat × Value)} (hv : lv_pick lv ks = lv') (k : JC G E nL n0 c0 s0 n pc lv' st h r) : JC G E nL n0 c0 s0 n pc lv st h r := by
  obtain ⟨D, A, ad0, cA⟩ := G
  obtain ⟨p, l, e, R, s, m, args, below, meth, c, cells, slots, Q⟩ := E
  intro ad H locs ls had hP hD hS hl
  refine k ad H locs ls had hP hD hS (lv_sub hl ks ?_)
  subst hv
  unfold lv_pick
  rw [List.map_filterMap]
  have e2 : (fun i : Nat => (lv.map (cvp ad))[i]?) = fun i : Nat => (lv[i]?).map (cvp ad) := by
    funext i
    rw [List.getElem?_map]
  rw [e2]
theorem wn_obj {ad : Nat → Nat} {cA : Nat → ClassId} {o ci N : Nat} (hn : o < n) (ho : KD o = (ci, N)) (hc : ci < 20) : (Wn ad cA n h r)[o]? = some (ad o, .inr (ci, (List.range N).map (fldN ad h r ci o))) := by
  rw [wn_get hn, celN_o ho hc]
theorem rc_objInit {idx o : Nat} (K : OKC G E d mc ms own cc nL) (L : Cond.methodLink own idx objectInit ∈ gtbl) (L2 : Cond.instanceMethod objectInit ∈ gtbl ∧ Cond.code objectInit ⟨#[0xb1]⟩ 1 none ∈ gtbl) (dc : decode cc pc = .ok (.invokespecial idx, 3)) (hd : 1 ≤ d) (hw : (st.map fun v => v.category).sum ≤ 8) (k : JC G E nL n0 c0 s0 n (pc + 3) lv st h r) : JC G E nL n0 c0 s0 n pc lv (.ref o :: st) h r := by
  obtain ⟨D, A, ad0, cA⟩ := G
  obtain ⟨p, l, e, R, s, m, args, below, meth, c, cells, slots, Q⟩ := E
  obtain ⟨hx, hb, hml, hown, hts, hK, hN, hR, hA⟩ := K
  intro ad H locs ls had hP hD hS hl
  refine W.objInit hx hb hown (hts _ L) (hts _ L2.1) (hts _ L2.2) (g := F0 m pc ls (.ref (ad o) :: st.map (cv ad))) rfl (by rw [hml]; exact hl.1) rfl dc (by have := hR.1; omega) ?_ (k ad H locs ls had hP hD hS hl)
  show 2 * 0 + ((st.map (cv ad)).map fun v => v.category).sum + 12 ≤ R.locals
  rw [cv_cats]
  have := hR.2.1
  omega
theorem rc_getR {idx ci N k o o2 : Nat} (K : OKC G E d mc ms own cc nL) (F : FL own idx ci N k) (dc : decode cc pc = .ok (.getfield idx, 3)) (ho : KD o = (ci, N)) (hon : o < n) (hr : isR ci k = true) (he : r o k = some o2) (kk : JC G E nL n0 c0 s0 n (pc + 3) lv (.ref o2 :: st) h r) : JC G E nL n0 c0 s0 n pc lv (.ref o :: st) h r := by
  obtain ⟨D, A, ad0, cA⟩ := G
  obtain ⟨p, l, e, R, s, m, args, below, meth, c, cells, slots, Q⟩ := E
  obtain ⟨hx, hb, hml, hown, hts, hK, hN, hR, hA⟩ := K
  intro ad H locs ls had hP hD hS hl
  obtain ⟨C, T, f1, f2, f3, f4, f5, f6⟩ := F
  refine va_get (D := D) hx hb hts f4 hown hK hP o (wn_obj hon ho f3) f1 k f2 (hts _ f5) (fun x hh => by rw [f6] at hh; exact hh) (v := .ref (ad o2)) ?_ dc (kk ad H locs ls had hP hD hS hl)
  rw [List.getElem?_map, List.getElem?_range f2]
  show some (fldN ad h r ci o k) = _
  unfold fldN
  rw [hr, he]
  rfl
theorem rc_putT {idx ci N k o : Nat} {v : Int32} {ty : FieldType} (K : OKC G E d mc ms own cc nL) (F : FP own idx ci N k ty) (dc : decode cc pc = .ok (.putfield idx, 3)) (ho : KD o = (ci, N)) (hon : o < n) (hr : isR ci k = false) (hn : narrow ty (.int v) = .int v) (hf : fits ty (.int v) = true) (kk : JC G E nL n0 c0 s0 n (pc + 3) lv st (wI h o k v) r) : JC G E nL n0 c0 s0 n pc lv (.int v :: .ref o :: st) h r := by
  obtain ⟨D, A, ad0, cA⟩ := G
  obtain ⟨p, l, e, R, s, m, args, below, meth, c, cells, slots, Q⟩ := E
  obtain ⟨hx, hb, hml, hown, hts, hK, hN, hR, hA⟩ := K
  intro ad H locs ls had hP hD hS hl
  obtain ⟨C, T, t0, f1, f2, f3, f4, f5, f6, f7, f8, f9, f10⟩ := F
  refine va_put (D := D) hx hb hts f4 t0 f7 f8 hown hK hP hD hS o (wn_obj hon ho f3) f1 k f2 (hts _ f5) (fun x hh => by rw [f6] at hh; exact hh) f9 (v := .int v) f10 hn hf (by simp; exact f2) dc (fun H' locs' hP' hD' hS' => ?_)
  rw [wn_setF hon ho f3 f2 hr] at hP' hD'
  exact kk ad H' locs' ls had hP' hD' hS' hl
theorem rc_putI {idx ci N k o : Nat} {v : Int32} (K : OKC G E d mc ms own cc nL) (F : FP own idx ci N k .int) (dc : decode cc pc = .ok (.putfield idx, 3)) (ho : KD o = (ci, N)) (hon : o < n) (hr : isR ci k = false) (kk : JC G E nL n0 c0 s0 n (pc + 3) lv st (wI h o k v) r) : JC G E nL n0 c0 s0 n pc lv (.int v :: .ref o :: st) h r := rc_putT K F dc ho hon hr (vp_nar_int v) rfl kk
theorem rc_putZ {idx ci N k o : Nat} {v : Int32} (K : OKC G E d mc ms own cc nL) (F : FP own idx ci N k .boolean) (dc : decode cc pc = .ok (.putfield idx, 3)) (ho : KD o = (ci, N)) (hon : o < n) (hr : isR ci k = false) (hb2 : isB v = true) (kk : JC G E nL n0 c0 s0 n (pc + 3) lv st (wI h o k v) r) : JC G E nL n0 c0 s0 n pc lv (.int v :: .ref o :: st) h r := rc_putT K F dc ho hon hr (isB_nar hb2).1 (isB_nar hb2).2 kk
def FPF (own : String) (idx ci N k : Nat) (ty : FieldType) : Prop := ∃ (T : u_T) (t0 : Nat → FieldType), vwCl[ci]? = some (own, T, N) ∧ k < N ∧ ci < 20 ∧ (∀ w ∈ u_ws own T N, w ∈ gtbl) ∧ Cond.fieldLink own idx own (T k).2.1 (T k).2.2.1 ∈ gtbl ∧ (T k).1 = own ∧ (∀ k, k < N → parseFieldDescriptor (T k).2.2.1 = some (t0 k)) ∧ (∀ a, a < N → ∀ b, b < N → a ≠ b → (T a).2.1 ≠ (T b).2.1) ∧ (T k).2.2.2 = true ∧ parseFieldDescriptor (T k).2.2.1 = some ty ∧ ((∃ t, ty = .array t) ∨ ∃ t, ty = .object t)
theorem rc_putR {idx ci N k o q mcc mss n9 : Nat} {ty : FieldType} {h9 : AH} {r9 : RH} (K : OKC G E d mc ms own cc nL) (Z : RTC G E mcc mss n0 n9 h9 r9) (F : FPF own idx ci N k ty) (dc : decode cc pc = .ok (.putfield idx, 3)) (ho : KD o = (ci, N)) (hon : o < n) (hr : isR ci k = true) (kk : JC G E nL n0 c0 s0 n (pc + 3) lv st h (wR r o k (some q))) : JC G E nL n0 c0 s0 n pc lv (.ref q :: .ref o :: st) h r := by
  obtain ⟨D, A, ad0, cA⟩ := G
  obtain ⟨p, l, e, R, s, m, args, below, meth, c, cells, slots, Q⟩ := E
  obtain ⟨hx, hb, hml, hown, hts, hK, hN, hR, hA⟩ := K
  intro ad H locs ls had hP hD hS hl
  obtain ⟨T, t0, f1, f2, f3, f4, f5, f6, f7, f8, f9, f10, f11⟩ := F
  have hin2 : meth.name = "<init>" := Z.2.2.1
  have hnf : narrow ty (.ref (ad q)) = .ref (ad q) ∧ fits ty (.ref (ad q)) = true := by
    rcases f11 with ⟨t, rfl⟩ | ⟨t, rfl⟩ <;> exact ⟨rfl, rfl⟩
  refine va_putF (D := D) hx hb hts f4 t0 f7 f8 hown hK hP hD hS o (wn_obj hon ho f3) f1 k f2 (hts _ f5) (fun x hh => by rw [f6] at hh; exact hh) f9 hin2 f6 (v := .ref (ad q)) f10 hnf.1 hnf.2 (by simp; exact f2) dc (fun H' locs' hP' hD' hS' => ?_)
  rw [wn_setR hon ho f3 f2 hr] at hP' hD'
  exact kk ad H' locs' ls had hP' hD' hS' hl
theorem rc_iast {o N : Nat} {i v : Int32} (K : OKC G E d mc ms own cc nL) (dc : decode cc pc = .ok (.iastore, 1)) (ho : KD o = (20, N)) (hon : o < n) (hi : inb i N = true) (kk : JC G E nL n0 c0 s0 n (pc + 1) lv st (wI h o (ix i) v) r) : JC G E nL n0 c0 s0 n pc lv (.int v :: .int i :: .ref o :: st) h r := by
  obtain ⟨D, A, ad0, cA⟩ := G
  obtain ⟨p, l, e, R, s, m, args, below, meth, c, cells, slots, Q⟩ := E
  obtain ⟨hx, hb, hml, hown, hts, hK, hN, hR, hA⟩ := K
  intro ad H locs ls had hP hD hS hl
  refine va_iast (D := D) hx hb hK hP hD hS o 0 (by rw [wn_get hon, celN_i ho]) rfl (inb_in hi) dc (fun H' locs' hP' hD' hS' => ?_)
  rw [wn_set (h' := wI h o (ix i) v) (r' := r) hon (celN_i ho |>.trans (by unfold wI; rw [upO_eq])) (fun q hq => upO_ne hq) (fun q hq => rfl) (fun q hq => rfl)] at hP' hD'
  exact kk ad H' locs' ls had hP' hD' hS' hl
theorem rc_cast {o N : Nat} {i v : Int32} (K : OKC G E d mc ms own cc nL) (dc : decode cc pc = .ok (.castore, 1)) (ho : KD o = (22, N)) (hon : o < n) (hi : inb i N = true) (hv : vp_nar .char v = v) (kk : JC G E nL n0 c0 s0 n (pc + 1) lv st (wI h o (ix i) v) r) : JC G E nL n0 c0 s0 n pc lv (.int v :: .int i :: .ref o :: st) h r := by
  obtain ⟨D, A, ad0, cA⟩ := G
  obtain ⟨p, l, e, R, s, m, args, below, meth, c, cells, slots, Q⟩ := E
  obtain ⟨hx, hb, hml, hown, hts, hK, hN, hR, hA⟩ := K
  intro ad H locs ls had hP hD hS hl
  refine va_cast (D := D) hx hb hK hP hD hS o 2 (by rw [wn_get hon, celN_c ho]) rfl (inb_in hi) dc (fun H' locs' hP' hD' hS' => ?_)
  rw [hv] at hP' hD'
  rw [wn_set (h' := wI h o (ix i) v) (r' := r) hon (celN_c ho |>.trans (by unfold wI; rw [upO_eq])) (fun q hq => upO_ne hq) (fun q hq => rfl) (fun q hq => rfl)] at hP' hD'
  exact kk ad H' locs' ls had hP' hD' hS' hl
theorem rc_aast {o N q : Nat} {i : Int32} (K : OKC G E d mc ms own cc nL) (dc : decode cc pc = .ok (.aastore, 1)) (ho : KD o = (23, N)) (hon : o < n) (hi : inb i N = true) (hq : KD q = (5, 5)) (hqn : q < n) (kk : JC G E nL n0 c0 s0 n (pc + 1) lv st h (wR r o (ix i) (some q))) : JC G E nL n0 c0 s0 n pc lv (.ref q :: .int i :: .ref o :: st) h r := by
  obtain ⟨D, A, ad0, cA⟩ := G
  obtain ⟨p, l, e, R, s, m, args, below, meth, c, cells, slots, Q⟩ := E
  obtain ⟨hx, hb, hml, hown, hts, hK, hN, hR, hA⟩ := K
  intro ad H locs ls had hP hD hS hl
  refine va_astq (D := D) hx hb hK hP hD hS o 3 q 5 (r := (RX5, TX5, 5)) (by rw [wn_get hon, celN_r ho]) rfl (wn_obj hqn hq (Nat.le_of_ble_eq_true rfl)) rfl (inb_in hi) dc (fun H' locs' hP' hD' hS' => ?_)
  have e9 : va_up (fun k => (r o k).map ad) i.toNatClampNeg (some (ad q)) = fun k => ((wR r o (ix i) (some q)) o k).map ad := by
    funext k
    rw [wR_eq]
    unfold va_up
    by_cases hk : k = i.toNatClampNeg
    · rw [if_pos hk, if_pos hk]; rfl
    · rw [if_neg hk, if_neg hk]
  rw [e9] at hP' hD'
  rw [wn_set (h' := h) (r' := wR r o (ix i) (some q)) hon (celN_r ho) (fun q hq => rfl) (fun q hq => rfl) (fun q hq => wR_ne hq)] at hP' hD'
  exact kk ad H' locs' ls had hP' hD' hS' hl
theorem push_ad {D : va_G} {A : Nat → Prop} {cA : Nat → ClassId} {ad : Nat → Nat} {q : Nat} {H1 : Heap} {ce : va_E} (hnn : n < 86) (hfr : frN n h r) (hce : cellN ad cA h r n = ce) (hP : va_P D vwCl (Wn ad cA n h r ++ [(q, ce)]) H1) (hD : va_D A (Wn ad cA n h r ++ [(q, ce)])) : ∃ ad' : Nat → Nat, (∀ o, o < n ∨ 100 ≤ o → ad' o = ad o) ∧ ad' n = q ∧ va_P D vwCl (Wn ad' cA (n + 1) h r) H1 ∧ va_D A (Wn ad' cA (n + 1) h r) := by
  refine ⟨fun o => if o = n then q else ad o, fun o ho => if_neg (by omega), if_pos rfl, ?_⟩
  have e : ∀ z, z < n → (fun o => if o = n then q else ad o) z = ad z := fun z hz => if_neg (by omega)
  have e2 : Wn (fun o => if o = n then q else ad o) cA (n + 1) h r = Wn ad cA n h r ++ [(q, ce)] := by
    rw [wn_succ, wn_ad hfr.2 e, celN_ad (hfr.2 n) e, hce]
    show _ ++ [((if n = n then q else ad n), ce)] = _
    rw [if_pos rfl]
  rw [e2]
  exact ⟨hP, hD⟩
def NL (own : String) (idx ci N : Nat) : Prop := ∃ (C : String) (T : u_T) (t0 : Nat → FieldType), vwCl[ci]? = some (C, T, N) ∧ ci < 20 ∧ (∀ w ∈ u_ws C T N, w ∈ gtbl) ∧ (∀ k, k < N → parseFieldDescriptor (T k).2.2.1 = some (t0 k)) ∧ (∀ k, k < N → defaultValue (t0 k) = if isR ci k = true then .null else .int 0) ∧ Cond.classLink own idx C ∈ gtbl ∧ Cond.instantiable C N ∈ gtbl ∧ Cond.initialized C ∈ gtbl
theorem rc_new {idx ci N : Nat} (K : OKC G E d mc ms own cc nL) (F : NL own idx ci N) (hfr : frN n h r) (dc : decode cc pc = .ok (.new idx, 3)) (ho : KD n = (ci, N)) (hc : c0 + 1 ≤ mc) (hs : s0 + N ≤ ms) (hlv : (lv.all fun q => okV n q.2) = true) (hst : st.all (okV n) = true) (hn0 : n0 ≤ n) (kk : JC G E nL n0 (c0 + 1) (s0 + N) (n + 1) (pc + 3) lv (.ref n :: st) h r) : JC G E nL n0 c0 s0 n pc lv st h r := by
  obtain ⟨D, A, ad0, cA⟩ := G
  obtain ⟨p, l, e, R, s, m, args, below, meth, c, cells, slots, Q⟩ := E
  obtain ⟨hx, hb, hml, hown, hts, hK, hN, hR, hA⟩ := K
  intro ad H locs ls had hP hD hS hl
  obtain ⟨C, T, t0, f1, f3, f4, f7, f8, g1, g2, g3⟩ := F
  refine va_new (D := D) (ci := ci) (fs := (List.range N).map (fldN ad h r ci n)) hx hb hts f4 t0 f7 hown (hts _ g1) (hts _ g2) (hts _ g3) hK hP hD hS hA f1 (fun j hj => ?_) (Nat.le_trans hc hR.2.2.1) (Nat.le_trans hs hR.2.2.2) dc (fun q H1 hP1 hD1 hS1 => ?_)
  · rw [f8 j hj]
    unfold vp_V
    rw [List.getD_eq_getElem?_getD, List.getElem?_map, List.getElem?_range hj]
    show _ = fldN ad h r ci n j
    unfold fldN
    rw [(hfr.1 n (Nat.le_refl n)).1, (hfr.1 n (Nat.le_refl n)).2.2]
    rfl
  · obtain ⟨ad', a1, a2, hP2, hD2⟩ := push_ad (kd_lt (by rw [ho]; show ci < 50; omega)) hfr (celN_o ho f3) hP1 hD1
    have hl2 := hl
    rw [← okV_lv hlv a1] at hl2
    have hk := kk ad' H1 locs ls (fun o ho2 => (a1 o (by omega)).trans (had o ho2)) hP2 hD2 hS1 hl2
    have e3 : (Value.ref n :: st).map (cv ad') = .ref q :: st.map (cv ad) := by
      rw [← okV_st hst a1, ← a2]
      rfl
    rw [e3] at hk
    exact hk
theorem vcell_i {f : Nat → Int32} {N : Nat} (hf : f = fun _ => 0) (cA : ClassId) : vp_cell cA (N, .inl f) = arrV cA N (fun _ => .int 0) := by
  subst hf
  rfl
theorem vcell_l {f : Nat → Int64} {N : Nat} (hf : f = fun _ => 0) (cA : ClassId) : vp_cell cA (N, .inr (.inl f)) = arrV cA N (fun _ => .long 0) := by
  subst hf
  rfl

theorem rc_newI {N : Nat} {z : Int32} (K : OKC G E d mc ms own cc nL) (F : Cond.arrayClass .int ∈ gtbl) (hfr : frN n h r) (dc : decode cc pc = .ok (.newarray .int, 2)) (ho : KD n = (20, N)) (hz : ¬ z < 0) (hzN : z.toNatClampNeg = N) (hby : N * componentBytes .int ≤ 536870912) (hc : c0 + 1 ≤ mc) (hs : s0 + N ≤ ms) (hlv : (lv.all fun q => okV n q.2) = true) (hst : st.all (okV n) = true) (hn0 : n0 ≤ n) (kk : JC G E nL n0 (c0 + 1) (s0 + N) (n + 1) (pc + 2) lv (.ref n :: st) h r) : JC G E nL n0 c0 s0 n pc lv (.int z :: st) h r := by
  obtain ⟨D, A, ad0, cA⟩ := G
  obtain ⟨p, l, e, R, s, m, args, below, meth, c, cells, slots, Q⟩ := E
  obtain ⟨hx, hb, hml, hown, hts, hK, hN, hR, hA⟩ := K
  intro ad H locs ls had hP hD hS hl
  refine va_newa (D := D) (atype := .int) hx hb (hts _ F) (ty := .int) rfl hK hP hD hS hA (a0 := (N, .inl (h.1 n))) (fun c9 => vcell_i (hfr.1 n (Nat.le_refl n)).1 c9) hz hzN hby (Nat.le_trans hc hR.2.2.1) (Nat.le_trans hs hR.2.2.2) dc (fun q cA9 H1 hK1 hP1 hD1 hS1 => ?_)
  have ec : cA9 = cA 20 := by
    have k1 : s.vm.findClass ("[" ++ (FieldType.toString .int)) = some cA9 := (hK1.2 (tyL cA).length (cA9, .int) (by rw [List.getElem?_append_right (Nat.le_refl _), Nat.sub_self]; rfl)).2
    have k2 : s.vm.findClass ("[" ++ (FieldType.toString .int)) = some (cA 20) := (hK.2 0 (cA 20, .int) rfl).2
    exact Option.some.inj (k1.symm.trans k2)
  subst ec
  obtain ⟨ad', a1, a2, hP2, hD2⟩ := push_ad (kd_lt (by rw [ho]; exact Nat.le_of_ble_eq_true rfl)) hfr (celN_i ho) hP1 hD1
  have hl2 := hl
  rw [← okV_lv hlv a1] at hl2
  have hk := kk ad' H1 locs ls (fun o ho2 => (a1 o (by omega)).trans (had o ho2)) hP2 hD2 hS1 hl2
  have e3 : (Value.ref n :: st).map (cv ad') = .ref q :: st.map (cv ad) := by
    rw [← okV_st hst a1, ← a2]
    rfl
  rw [e3] at hk
  exact hk
theorem rc_newL {N : Nat} {z : Int32} (K : OKC G E d mc ms own cc nL) (F : Cond.arrayClass .long ∈ gtbl) (hfr : frN n h r) (dc : decode cc pc = .ok (.newarray .long, 2)) (ho : KD n = (21, N)) (hz : ¬ z < 0) (hzN : z.toNatClampNeg = N) (hby : N * componentBytes .long ≤ 536870912) (hc : c0 + 1 ≤ mc) (hs : s0 + N ≤ ms) (hlv : (lv.all fun q => okV n q.2) = true) (hst : st.all (okV n) = true) (hn0 : n0 ≤ n) (kk : JC G E nL n0 (c0 + 1) (s0 + N) (n + 1) (pc + 2) lv (.ref n :: st) h r) : JC G E nL n0 c0 s0 n pc lv (.int z :: st) h r := by
  obtain ⟨D, A, ad0, cA⟩ := G
  obtain ⟨p, l, e, R, s, m, args, below, meth, c, cells, slots, Q⟩ := E
  obtain ⟨hx, hb, hml, hown, hts, hK, hN, hR, hA⟩ := K
  intro ad H locs ls had hP hD hS hl
  refine va_newa (D := D) (atype := .long) hx hb (hts _ F) (ty := .long) rfl hK hP hD hS hA (a0 := (N, .inr (.inl (h.2 n)))) (fun c9 => vcell_l (hfr.1 n (Nat.le_refl n)).2.1 c9) hz hzN hby (Nat.le_trans hc hR.2.2.1) (Nat.le_trans hs hR.2.2.2) dc (fun q cA9 H1 hK1 hP1 hD1 hS1 => ?_)
  have ec : cA9 = cA 21 := by
    have k1 : s.vm.findClass ("[" ++ (FieldType.toString .long)) = some cA9 := (hK1.2 (tyL cA).length (cA9, .long) (by rw [List.getElem?_append_right (Nat.le_refl _), Nat.sub_self]; rfl)).2
    have k2 : s.vm.findClass ("[" ++ (FieldType.toString .long)) = some (cA 21) := (hK.2 1 (cA 21, .long) rfl).2
    exact Option.some.inj (k1.symm.trans k2)
  subst ec
  obtain ⟨ad', a1, a2, hP2, hD2⟩ := push_ad (kd_lt (by rw [ho]; exact Nat.le_of_ble_eq_true rfl)) hfr (celN_l ho) hP1 hD1
  have hl2 := hl
  rw [← okV_lv hlv a1] at hl2
  have hk := kk ad' H1 locs ls (fun o ho2 => (a1 o (by omega)).trans (had o ho2)) hP2 hD2 hS1 hl2
  have e3 : (Value.ref n :: st).map (cv ad') = .ref q :: st.map (cv ad) := by
    rw [← okV_st hst a1, ← a2]
    rfl
  rw [e3] at hk
  exact hk
theorem rc_newC {N : Nat} {z : Int32} (K : OKC G E d mc ms own cc nL) (F : Cond.arrayClass .char ∈ gtbl) (hfr : frN n h r) (dc : decode cc pc = .ok (.newarray .char, 2)) (ho : KD n = (22, N)) (hz : ¬ z < 0) (hzN : z.toNatClampNeg = N) (hby : N * componentBytes .char ≤ 536870912) (hc : c0 + 1 ≤ mc) (hs : s0 + N ≤ ms) (hlv : (lv.all fun q => okV n q.2) = true) (hst : st.all (okV n) = true) (hn0 : n0 ≤ n) (kk : JC G E nL n0 (c0 + 1) (s0 + N) (n + 1) (pc + 2) lv (.ref n :: st) h r) : JC G E nL n0 c0 s0 n pc lv (.int z :: st) h r := by
  obtain ⟨D, A, ad0, cA⟩ := G
  obtain ⟨p, l, e, R, s, m, args, below, meth, c, cells, slots, Q⟩ := E
  obtain ⟨hx, hb, hml, hown, hts, hK, hN, hR, hA⟩ := K
  intro ad H locs ls had hP hD hS hl
  refine va_newa (D := D) (atype := .char) hx hb (hts _ F) (ty := .char) rfl hK hP hD hS hA (a0 := (N, .inl (h.1 n))) (fun c9 => vcell_i (hfr.1 n (Nat.le_refl n)).1 c9) hz hzN hby (Nat.le_trans hc hR.2.2.1) (Nat.le_trans hs hR.2.2.2) dc (fun q cA9 H1 hK1 hP1 hD1 hS1 => ?_)
  have ec : cA9 = cA 22 := by
    have k1 : s.vm.findClass ("[" ++ (FieldType.toString .char)) = some cA9 := (hK1.2 (tyL cA).length (cA9, .char) (by rw [List.getElem?_append_right (Nat.le_refl _), Nat.sub_self]; rfl)).2
    have k2 : s.vm.findClass ("[" ++ (FieldType.toString .char)) = some (cA 22) := (hK.2 2 (cA 22, .char) rfl).2
    exact Option.some.inj (k1.symm.trans k2)
  subst ec
  obtain ⟨ad', a1, a2, hP2, hD2⟩ := push_ad (kd_lt (by rw [ho]; exact Nat.le_of_ble_eq_true rfl)) hfr (celN_c ho) hP1 hD1
  have hl2 := hl
  rw [← okV_lv hlv a1] at hl2
  have hk := kk ad' H1 locs ls (fun o ho2 => (a1 o (by omega)).trans (had o ho2)) hP2 hD2 hS1 hl2
  have e3 : (Value.ref n :: st).map (cv ad') = .ref q :: st.map (cv ad) := by
    rw [← okV_st hst a1, ← a2]
    rfl
  rw [e3] at hk
  exact hk
theorem rc_newR {idx N : Nat} {z : Int32} (K : OKC G E d mc ms own cc nL) (F : Cond.classLink own idx RX5 ∈ gtbl) (hfr : frN n h r) (dc : decode cc pc = .ok (.anewarray idx, 3)) (ho : KD n = (23, N)) (hz : ¬ z < 0) (hzN : z.toNatClampNeg = N) (hby : N * 4 ≤ 536870912) (hc : c0 + 1 ≤ mc) (hs : s0 + N ≤ ms) (hlv : (lv.all fun q => okV n q.2) = true) (hst : st.all (okV n) = true) (hn0 : n0 ≤ n) (kk : JC G E nL n0 (c0 + 1) (s0 + N) (n + 1) (pc + 3) lv (.ref n :: st) h r) : JC G E nL n0 c0 s0 n pc lv (.int z :: st) h r := by
  obtain ⟨D, A, ad0, cA⟩ := G
  obtain ⟨p, l, e, R, s, m, args, below, meth, c, cells, slots, Q⟩ := E
  obtain ⟨hx, hb, hml, hown, hts, hK, hN, hR, hA⟩ := K
  intro ad H locs ls had hP hD hS hl
  refine va_newq (D := D) hx hb hown (hts _ F) hN.2 hK hP hD hS hA hz hzN hby (Nat.le_trans hc hR.2.2.1) (Nat.le_trans hs hR.2.2.2) dc (fun q cA9 H1 hK1 hP1 hD1 hS1 => ?_)
  have ec : cA9 = cA 23 := by
    obtain ⟨_, _, _, _, _, k1⟩ : va_RA s cA9 (.object RX5) := (hK1.2 (tyL cA).length (cA9, .object RX5) (by rw [List.getElem?_append_right (Nat.le_refl _), Nat.sub_self]; rfl)).2
    obtain ⟨_, _, _, _, _, k2⟩ : va_RA s (cA 23) (.object RX5) := (hK.2 3 (cA 23, .object RX5) rfl).2
    exact Option.some.inj (k1.symm.trans k2)
  subst ec
  have e8 : cellN ad cA h r n = .inl (cA 23, N, .inr (.inr (.inr (.inr (fun _ => none))))) := by
    rw [celN_r ho, (hfr.1 n (Nat.le_refl n)).2.2]
    rfl
  obtain ⟨ad', a1, a2, hP2, hD2⟩ := push_ad (kd_lt (by rw [ho]; exact Nat.le_of_ble_eq_true rfl)) hfr e8 hP1 hD1
  have hl2 := hl
  rw [← okV_lv hlv a1] at hl2
  have hk := kk ad' H1 locs ls (fun o ho2 => (a1 o (by omega)).trans (had o ho2)) hP2 hD2 hS1 hl2
  have e3 : (Value.ref n :: st).map (cv ad') = .ref q :: st.map (cv ad) := by
    rw [← okV_st hst a1, ← a2]
    rfl
  rw [e3] at hk
  exact hk
theorem rc_vret {h9 : AH} {r9 : RH} (K : OKC G E d mc ms own cc nL) (Z : RTC G E c0 s0 n0 n h9 r9) (dc : decode cc pc = .ok (.return_, 1)) (eh : h9 = h) (er : r9 = r) : JC G E nL n0 c0 s0 n pc lv [] h r := by
  subst eh; subst er
  obtain ⟨D, A, ad0, cA⟩ := G
  obtain ⟨p, l, e, R, s, m, args, below, meth, c, cells, slots, Q⟩ := E
  obtain ⟨hx, hb, hml, hown, hts, hK, hN, hR, hA⟩ := K
  intro ad H locs ls had hP hD hS hl
  obtain ⟨z1, z2, z3, z4⟩ := Z
  subst z4
  exact W.vret (Qc := QcC _ _ _ _ _ _) hx hb z1 (fun t ht hW => ⟨⟨rfl, ad, had, by rw [ht]; exact hP, hD⟩, hS.F ht⟩) hS.2.2 dc z2
theorem callC_go {p : Program} {l : Launch} {e : Env} {R : Room} {s : State} {m : MethodId} {args : Array Value} {below : List Frame} {meth : Method} {c : Code} {H : Heap} {locs : List Loc} {cells slots mc ms n' : Nat} {Q : State → Prop} {ls : Array Slot} {rest st0 : List Value} {a : Array Value} {G : GG} {ad : Nat → Nat} {H0 : Heap} {h' : AH} {r' : RH}
    (hr : va_Run p l e R s m args below meth c H locs cells slots mc ms (F0 m pc ls st0) rest (QcC G ad n n' h' r' a) G.2.1) (hS : va_S G.2.1 H0 H locs)
    (kk : ∀ (H1 : Heap) (locs1 : List Loc) (ad' : Nat → Nat), (∀ o, o < n ∨ 100 ≤ o → ad' o = ad o) → va_P G.1 vwCl (Wn ad' G.2.2.2 n' h' r') H1 → va_D G.2.1 (Wn ad' G.2.2.2 n' h' r') → va_S G.2.1 H0 H1 locs1 → W p l e R s m args below meth c H1 locs1 (cells + mc) (slots + ms) Q (F0 m (pc + 3) ls rest)) : W p l e R s m args below meth c H locs cells slots Q (F0 m pc ls st0) := by
  intro T hT X
  obtain ⟨v, st₀, t, T', L, h0, X', hL, e1, e2, ⟨⟨hv, ad', ha, hP, hD⟩, hz, hk⟩, st⟩ := hr T hT X
  cases hv
  rw [h0] at hz hk
  obtain ⟨t2, a1, b1⟩ := kk T'.heap (locs ++ L) ad' ha (by rw [e1]; exact hP) hD
    ⟨Nat.le_trans hS.1 (by rw [e1]; exact hz), fun q h1 h2 => by rw [e1, hk q (Nat.lt_of_lt_of_le h1 hS.1) h2]; exact hS.2.1 q h1 h2, fun q hq => by
      rcases List.mem_append.mp hq with h | h
      · exact hS.2.2 q h
      · exact hL q h⟩ T' rfl X'
  exact ⟨t2, st t2 a1, b1⟩
set_option maxHeartbeats 1000000 in
theorem rc_callI {idx d9 mc9 ms9 maxL k o n9 : Nat} {y : MethodName} {bb : ByteArray} {av st0 : List Value} {h9 : AH} {r9 : RH} (K : OKC G E d mc ms own cc nL) (L : Cond.methodLink own idx y ∈ gtbl ∧ Cond.instanceMethod y ∈ gtbl) (M : MW y bb maxL none k) (hy : y.name = "<init>") (C : ConC G d9 mc9 ms9 y bb maxL (.ref o :: av) n h r n9 h9 r9) (dc : decode cc pc = .ok (.invokespecial idx, 3)) (hd : d9 + 1 ≤ d) (hc : c0 + mc9 ≤ mc) (hs : s0 + ms9 ≤ ms) (hn : av.length = k) (hst : av.reverse ++ .ref o :: st = st0) (hw : (st.map fun v => v.category).sum ≤ 8) (hlv : (lv.all fun q => okV n q.2) = true) (hsv : st.all (okV n) = true) (hn0 : n0 ≤ n) (kk : JC G E nL n0 (c0 + mc9) (s0 + ms9) n9 (pc + 3) lv st h9 r9) : JC G E nL n0 c0 s0 n pc lv st0 h r := by
  obtain ⟨D, A, ad0, cA⟩ := G
  obtain ⟨p, l, e, R, s, m, args, below, meth, c, cells, slots, Q⟩ := E
  obtain ⟨hx, hb, hml, hown, hts, hK, hN, hR, hA⟩ := K
  intro ad H locs ls had hP hD hS hl
  subst hst
  have hblind : FrameBlind (va_Pc ((.ref o :: av).map (cv ad)) (WpreC (D, A, ad0, cA) ad n h r)) := fun a U g mk q => by
    obtain ⟨q0, qP, qD, qK, qN, qA⟩ := q
    exact ⟨q0, qP, qD, va_K.moved (u := U) (U := U.calling g mk a) (Vm.Alike.refl U.vm) qK, NWc.same (u := U) (U := U.calling g mk a) rfl (Vm.Alike.refl U.vm) qN, qA⟩
  have hrm : (rmC d9 mc9 ms9).frames + 1 ≤ R.frames ∧ 8 + (maxL + 11) + (rmC d9 mc9 ms9).locals ≤ R.locals := by
    show d9 + 1 ≤ R.frames ∧ 8 + (maxL + 11) + 60 * d9 ≤ R.locals
    have := hR.1
    have := hR.2.1
    have := M.2.2.2.2
    omega
  have hpv : PreS s H (va_Pc ((.ref o :: av).map (cv ad)) (WpreC (D, A, ad0, cA) ad n h r)) (.ref (ad o) :: av.map (cv ad)) := ⟨hblind, fun U hU hW => ⟨rfl, by rw [hU]; exact hP, hD, hK.moved hW.alike, hN.warm hW, fun q hq => hA q (Nat.le_trans (by rw [← hU] at hS; exact hS.1) hq)⟩⟩
  have hrun := va_runI (l := l) (e := e) (R := R) (below := below) (meth := meth) (locs := locs) (cells := c0) (slots := s0) (g := F0 m pc ls ((av.reverse ++ .ref o :: st).map (cv ad))) (As := av.map (cv ad)) (rest := st.map (cv ad)) (⟨hx, hb, hml, hown, hts⟩ : CallFix p m c cc nL s args gtbl own) (C l ad) ⟨callB_of (ws := Cond.code y bb maxL none :: gtbl) k hts (mw_good M) rfl rfl rfl (hts _ M.2.1) (hts _ L.1) M.2.2.1 hrm, hy, hts _ L.2⟩ hpv rfl (by rw [List.length_map]; exact hn) hl.1 (by show (av.reverse ++ .ref o :: st).map (cv ad) = (av.map (cv ad)).reverse ++ .ref (ad o) :: st.map (cv ad); rw [List.map_append, List.map_reverse]; rfl) (lv_room (m := m) (pc := pc) (ls := ls) (rest := []) (by rw [cv_cats]; exact hw)) dc ⟨Nat.le_trans hc hR.2.2.1, Nat.le_trans hs hR.2.2.2⟩
  refine callC_go (G := (D, A, ad0, cA)) hrun hS (fun H1 locs1 ad' a1 hP1 hD1 hS1 => ?_)
  have hl2 := hl
  rw [← okV_lv hlv a1] at hl2
  have hk := kk ad' H1 locs1 ls (fun o ho2 => (a1 o (by omega)).trans (had o ho2)) hP1 hD1 hS1 hl2
  rw [okV_st hsv a1] at hk
  exact hk
set_option maxHeartbeats 1000000 in
theorem rc_callIN {idx d9 mc9 ms9 maxL k o n9 : Nat} {y : MethodName} {bb : ByteArray} {av st0 : List Value} {h9 : AH} {r9 : RH} (K : OKC G E d mc ms own cc nL) (L : (own, idx, y, RX9) ∈ NWC ∧ Cond.instanceMethod y ∈ gtbl) (M : MW y bb maxL none k) (hy : y.name = "<init>") (C : ConC G d9 mc9 ms9 y bb maxL (.ref o :: av) n h r n9 h9 r9) (dc : decode cc pc = .ok (.invokespecial idx, 3)) (hd : d9 + 1 ≤ d) (hc : c0 + mc9 ≤ mc) (hs : s0 + ms9 ≤ ms) (hn : av.length = k) (hst : av.reverse ++ .ref o :: st = st0) (hw : (st.map fun v => v.category).sum ≤ 8) (hlv : (lv.all fun q => okV n q.2) = true) (hsv : st.all (okV n) = true) (hn0 : n0 ≤ n) (kk : JC G E nL n0 (c0 + mc9) (s0 + ms9) n9 (pc + 3) lv st h9 r9) : JC G E nL n0 c0 s0 n pc lv st0 h r := by
  obtain ⟨D, A, ad0, cA⟩ := G
  obtain ⟨p, l, e, R, s, m, args, below, meth, c, cells, slots, Q⟩ := E
  obtain ⟨hx, hb, hml, hown, hts, hK, hN, hR, hA⟩ := K
  intro ad H locs ls had hP hD hS hl
  subst hst
  have hblind : FrameBlind (va_Pc ((.ref o :: av).map (cv ad)) (WpreC (D, A, ad0, cA) ad n h r)) := fun a U g mk q => by
    obtain ⟨q0, qP, qD, qK, qN, qA⟩ := q
    exact ⟨q0, qP, qD, va_K.moved (u := U) (U := U.calling g mk a) (Vm.Alike.refl U.vm) qK, NWc.same (u := U) (U := U.calling g mk a) rfl (Vm.Alike.refl U.vm) qN, qA⟩
  have hrm : (rmC d9 mc9 ms9).frames + 1 ≤ R.frames ∧ 8 + (maxL + 11) + (rmC d9 mc9 ms9).locals ≤ R.locals := by
    show d9 + 1 ≤ R.frames ∧ 8 + (maxL + 11) + 60 * d9 ≤ R.locals
    have := hR.1
    have := hR.2.1
    have := M.2.2.2.2
    omega
  have hpv : PreS s H (va_Pc ((.ref o :: av).map (cv ad)) (WpreC (D, A, ad0, cA) ad n h r)) (.ref (ad o) :: av.map (cv ad)) := ⟨hblind, fun U hU hW => ⟨rfl, by rw [hU]; exact hP, hD, hK.moved hW.alike, hN.warm hW, fun q hq => hA q (Nat.le_trans (by rw [← hU] at hS; exact hS.1) hq)⟩⟩
  have hrun := va_runIN (l := l) (e := e) (R := R) (below := below) (meth := meth) (locs := locs) (cells := c0) (slots := s0) (g := F0 m pc ls ((av.reverse ++ .ref o :: st).map (cv ad))) (As := av.map (cv ad)) (rest := st.map (cv ad)) (⟨hx, hb, hml, hown, hts⟩ : CallFix p m c cc nL s args gtbl own) (C l ad) ⟨va_cnB (ws := Cond.code y bb maxL none :: gtbl) k hts (mw_good M) rfl rfl rfl (hN.1 _ L.1) (hts _ M.2.1) M.2.2.1 hrm, hy, hts _ L.2⟩ hpv rfl (by rw [List.length_map]; exact hn) hl.1 (by show (av.reverse ++ .ref o :: st).map (cv ad) = (av.map (cv ad)).reverse ++ .ref (ad o) :: st.map (cv ad); rw [List.map_append, List.map_reverse]; rfl) (lv_room (m := m) (pc := pc) (ls := ls) (rest := []) (by rw [cv_cats]; exact hw)) dc ⟨Nat.le_trans hc hR.2.2.1, Nat.le_trans hs hR.2.2.2⟩
  refine callC_go (G := (D, A, ad0, cA)) hrun hS (fun H1 locs1 ad' a1 hP1 hD1 hS1 => ?_)
  have hl2 := hl
  rw [← okV_lv hlv a1] at hl2
  have hk := kk ad' H1 locs1 ls (fun o ho2 => (a1 o (by omega)).trans (had o ho2)) hP1 hD1 hS1 hl2
  rw [okV_st hsv a1] at hk
  exact hk
end CROWS
