/-! ===== the fixed layout of cells, abstract heaps ===== -/
abbrev AH : Type := (Nat → Nat → Int32) × (Nat → Nat → Int64)
def LY : List (Nat × Nat) := [(9, 12), (7, 12), (20, 9), (20, 9), (20, 9), (20, 9), (20, 9), (20, 9), (20, 13), (20, 13), (20, 13), (20, 120), (4, 9), (20, 121), (20, 120), (3, 4), (20, 121), (20, 121), (6, 7), (7, 12), (20, 9), (20, 9), (20, 9), (20, 9), (20, 9), (20, 9), (20, 13), (20, 13), (20, 13), (20, 9), (8, 4), (20, 100), (20, 5), (2, 7), (20, 9), (20, 9), (20, 9), (20, 5), (0, 6), (20, 40), (20, 40), (20, 40), (20, 40), (1, 4), (20, 50), (20, 24), (23, 6), (5, 5), (21, 60), (5, 5), (21, 60), (5, 5), (21, 60), (5, 5), (21, 60), (5, 5), (21, 60), (5, 5), (21, 60), (10, 46), (20, 94), (20, 188), (20, 40), (20, 40), (20, 40), (20, 9), (20, 9), (20, 120), (20, 120), (20, 120), (20, 6), (22, 6), (20, 9), (20, 9), (20, 9), (20, 6), (20, 6), (21, 360), (21, 60), (20, 5), (20, 94), (20, 5), (20, 8), (20, 32), (20, 50), (20, 24)]
def RF : List (List Nat) := [[1, 11, 0, 12, 15, 18, 30, 32, 33, 38, 43, 46], [2, 3, 4, 5, 6, 7, 8, 9, 10, 0, 0, 0], [], [], [], [], [], [], [], [], [], [], [13, 0, 14, 0, 0, 0, 0, 0, 0], [], [], [16, 0, 17, 0], [], [], [1, 15, 19, 29, 0, 0, 0], [20, 21, 22, 23, 24, 25, 26, 27, 28, 0, 0, 0], [], [], [], [], [], [], [], [], [], [], [18, 0, 0, 31], [], [], [34, 35, 36, 37, 0, 0, 0], [], [], [], [], [39, 40, 41, 42, 0, 0], [], [], [], [], [44, 0, 45, 0], [], [], [47, 49, 51, 53, 55, 57], [0, 0, 0, 0, 48], [], [0, 0, 0, 0, 50], [], [0, 0, 0, 0, 52], [], [0, 0, 0, 0, 54], [], [0, 0, 0, 0, 56], [], [0, 0, 0, 0, 58], [], [60, 61, 0, 0, 62, 63, 64, 0, 0, 65, 66, 67, 0, 68, 0, 0, 69, 0, 0, 0, 0, 70, 71, 0, 0, 0, 72, 73, 74, 0, 75, 76, 77, 78, 0, 79, 80, 81, 0, 0, 82, 83, 84, 0, 85, 0], [], [], [], [], [], [], [], [], [], [], [], [], [], [], [], [], [], [], [], [], [], [], [], [], [], []]
def RK : List (List Bool) := [[true, true, true, true, false, false], [true, false, true, false], [true, true, true, true, false, false, false], [true, false, true, false], [true, false, true, false, false, false, false, false, false], [false, false, false, false, true], [true, true, true, true, false, false, false], [true, true, true, true, true, true, true, true, true, false, false, false], [true, false, false, true], [true, true, false, true, true, true, true, true, true, true, true, true], [true, true, false, false, true, true, true, false, false, true, true, true, false, true, false, false, true, false, false, false, false, true, true, false, false, false, true, true, true, false, true, true, true, true, false, true, true, true, false, false, true, true, true, false, true, false]]
def STL : List (List Int32) := [[0, 0, 0, 0, 5, 0, 0, 1, 0], [99, 9, 9, 1, 9, 1, 199, 30, 199], [0, 0, 0, 2, 1, 3, 0, 4], [1, 10, 11, 2, 20, 0, 0, 0, 0, 30, 0, 0, 0, 41, 40, 0, 0, 0, 50, 0, 0, 0, 0, 60, 70, 0, 0, 0, 0, 80, 0, 81]]
def STN : List (Nat × String × String × Nat) := [(200, "GloveRegret", "LEAST", 9), (201, "GloveRegret", "MOST", 9), (202, "GloveRegret$Hooks", "ABOVE", 8), (203, "GloveRegret$Hooks", "OWN", 32)]
abbrev NO : Nat := 86
def KD (o : Nat) : Nat × Nat := LY.getD o (99, 0)
def rf (o k : Nat) : Nat := (RF.getD o []).getD k 0
def isR (ci k : Nat) : Bool := (RK.getD ci []).getD k false
def ST (o k : Nat) : Int32 := (STL.getD (o - 200) []).getD k 0
def cv (ad : Nat → Nat) (v : Value) : Value := match v with
  | .ref o => .ref (ad o)
  | v => v
def fldV (ad : Nat → Nat) (h : AH) (ci o k : Nat) : Value := if isR ci k = true then .ref (ad (rf o k)) else .int (h.1 o k)
def cellE (ad : Nat → Nat) (cA : Nat → ClassId) (h : AH) (o : Nat) : va_E :=
  if (KD o).1 = 20 then .inl (cA 20, (KD o).2, .inl (h.1 o))
  else if (KD o).1 = 21 then .inl (cA 21, (KD o).2, .inr (.inl (h.2 o)))
  else if (KD o).1 = 22 then .inl (cA 22, (KD o).2, .inl (h.1 o))
  else if (KD o).1 = 23 then .inl (cA 23, (KD o).2, .inr (.inr (.inr (.inr (fun k => some (ad (rf o k)))))))
  else .inr ((KD o).1, (List.range (KD o).2).map (fldV ad h (KD o).1 o))
def Wd (ad : Nat → Nat) (cA : Nat → ClassId) (h : AH) : va_W := (List.range NO).map (fun o => (ad o, cellE ad cA h o))
def tyL (cA : Nat → ClassId) : List (ClassId × FieldType) := [(cA 20, .int), (cA 21, .long), (cA 22, .char), (cA 23, .object RX5)]
def upO (h : AH) (o : Nat) (f : Nat → Int32) : AH := (fun o' => if o' = o then f else h.1 o', h.2)
def upL (h : AH) (o : Nat) (f : Nat → Int64) : AH := (h.1, fun o' => if o' = o then f else h.2 o')
def wI (h : AH) (o k : Nat) (v : Int32) : AH := upO h o (upd (h.1 o) k v)
def wL (h : AH) (o k : Nat) (v : Int64) : AH := upL h o (vp_updL (h.2 o) k v)
def cpI (h : AH) (a sp b dp n : Nat) : AH := upO h b (va_cpy (h.1 a) (h.1 b) sp dp n)
def cpL (h : AH) (a sp b dp n : Nat) : AH := upL h b (va_cpy (h.2 a) (h.2 b) sp dp n)
def inb (i : Int32) (n : Nat) : Bool := decide (0 ≤ i.toInt) && decide (i.toInt < n)
def isB (v : Int32) : Bool := v == 0 || v == 1
abbrev ix (i : Int32) : Nat := i.toNatClampNeg
theorem inb_in {i : Int32} {n : Nat} (h : inb i n = true) : vp_in i n := by
  simp only [inb, Bool.and_eq_true, decide_eq_true_eq] at h
  exact vp_in_iff.mpr h
theorem kd_lt {o : Nat} (h : (KD o).1 < 50) : o < NO := by
  rcases Nat.lt_or_ge o NO with q | q
  · exact q
  · exfalso
    have e : KD o = (99, 0) := by
      unfold KD
      rw [List.getD_eq_getElem?_getD, List.getElem?_eq_none (by exact q)]
      rfl
    rw [e] at h
    exact absurd h (by decide)
theorem wd_get {ad : Nat → Nat} {cA : Nat → ClassId} {h : AH} {o : Nat} (ho : o < NO) : (Wd ad cA h)[o]? = some (ad o, cellE ad cA h o) := by
  unfold Wd
  rw [List.getElem?_map, List.getElem?_range ho]
  rfl
theorem cell_i {ad : Nat → Nat} {cA : Nat → ClassId} {h : AH} {o n : Nat} (k : KD o = (20, n)) : cellE ad cA h o = .inl (cA 20, n, .inl (h.1 o)) := by
  unfold cellE; rw [k]; rfl
theorem cell_l {ad : Nat → Nat} {cA : Nat → ClassId} {h : AH} {o n : Nat} (k : KD o = (21, n)) : cellE ad cA h o = .inl (cA 21, n, .inr (.inl (h.2 o))) := by
  unfold cellE; rw [k]; rfl
theorem cell_c {ad : Nat → Nat} {cA : Nat → ClassId} {h : AH} {o n : Nat} (k : KD o = (22, n)) : cellE ad cA h o = .inl (cA 22, n, .inl (h.1 o)) := by
  unfold cellE; rw [k]; rfl
theorem cell_r {ad : Nat → Nat} {cA : Nat → ClassId} {h : AH} {o n : Nat} (k : KD o = (23, n)) : cellE ad cA h o = .inl (cA 23, n, .inr (.inr (.inr (.inr (fun k => some (ad (rf o k))))))) := by
  unfold cellE; rw [k]; rfl
theorem cell_o {ad : Nat → Nat} {cA : Nat → ClassId} {h : AH} {o ci n : Nat} (k : KD o = (ci, n)) (hc : ci < 20) : cellE ad cA h o = .inr (ci, (List.range n).map (fldV ad h ci o)) := by
  unfold cellE; rw [k]
  show (if ci = 20 then _ else _) = _
  rw [if_neg (by omega)]
  show (if ci = 21 then _ else _) = _
  rw [if_neg (by omega)]
  show (if ci = 22 then _ else _) = _
  rw [if_neg (by omega)]
  show (if ci = 23 then _ else _) = _
  rw [if_neg (by omega)]
theorem upO_ne {h : AH} {o o' : Nat} {f : Nat → Int32} (e : o' ≠ o) : (upO h o f).1 o' = h.1 o' := by
  show (if o' = o then f else h.1 o') = _
  rw [if_neg e]
theorem upO_eq {h : AH} {o : Nat} {f : Nat → Int32} : (upO h o f).1 o = f := by
  show (if o = o then f else h.1 o) = _
  rw [if_pos rfl]
theorem upL_ne {h : AH} {o o' : Nat} {f : Nat → Int64} (e : o' ≠ o) : (upL h o f).2 o' = h.2 o' := by
  show (if o' = o then f else h.2 o') = _
  rw [if_neg e]
theorem upL_eq {h : AH} {o : Nat} {f : Nat → Int64} : (upL h o f).2 o = f := by
  show (if o = o then f else h.2 o) = _
  rw [if_pos rfl]
theorem cell_ext {ad : Nat → Nat} {cA : Nat → ClassId} {h h' : AH} {o : Nat} (e1 : h'.1 o = h.1 o) (e2 : h'.2 o = h.2 o) : cellE ad cA h' o = cellE ad cA h o := by
  unfold cellE
  have e3 : fldV ad h' (KD o).1 o = fldV ad h (KD o).1 o := by
    funext k
    unfold fldV
    rw [e1]
  rw [e1, e2, e3]
theorem wd_set {ad : Nat → Nat} {cA : Nat → ClassId} {h h' : AH} {o : Nat} {c : va_E} (ho : o < NO) (hc : cellE ad cA h' o = c) (e1 : ∀ q, q ≠ o → h'.1 q = h.1 q) (e2 : ∀ q, q ≠ o → h'.2 q = h.2 q) : (Wd ad cA h).set o (ad o, c) = Wd ad cA h' := by
  apply List.ext_getElem?
  intro k
  have hl : (Wd ad cA h).length = NO := by simp [Wd]
  have hl' : (Wd ad cA h').length = NO := by simp [Wd]
  by_cases hk : k = o
  · subst hk
    rw [List.getElem?_set_self (by rw [hl]; exact ho), wd_get ho, hc]
  · rw [List.getElem?_set_ne (Ne.symm hk)]
    rcases Nat.lt_or_ge k NO with q | q
    · rw [wd_get q, wd_get q, cell_ext (e1 k hk) (e2 k hk)]
    · rw [List.getElem?_eq_none (by rw [hl]; exact q), List.getElem?_eq_none (by rw [hl']; exact q)]
theorem wd_setI {ad : Nat → Nat} {cA : Nat → ClassId} {h : AH} {o n : Nat} {f : Nat → Int32} (k : KD o = (20, n)) : (Wd ad cA h).set o (ad o, .inl (cA 20, n, .inl f)) = Wd ad cA (upO h o f) :=
  wd_set (kd_lt (by rw [k]; exact Nat.le_of_ble_eq_true rfl)) (by rw [cell_i k, upO_eq]) (fun q hq => upO_ne hq) (fun q hq => rfl)
theorem wd_setL {ad : Nat → Nat} {cA : Nat → ClassId} {h : AH} {o n : Nat} {f : Nat → Int64} (k : KD o = (21, n)) : (Wd ad cA h).set o (ad o, .inl (cA 21, n, .inr (.inl f))) = Wd ad cA (upL h o f) :=
  wd_set (kd_lt (by rw [k]; exact Nat.le_of_ble_eq_true rfl)) (by rw [cell_l k, upL_eq]) (fun q hq => rfl) (fun q hq => upL_ne hq)
theorem wd_setF {ad : Nat → Nat} {cA : Nat → ClassId} {h : AH} {o ci n k : Nat} {v : Int32} (hk : KD o = (ci, n)) (hc : ci < 20) (hr : isR ci k = false) : (Wd ad cA h).set o (ad o, .inr (ci, ((List.range n).map (fldV ad h ci o)).set k (.int v))) = Wd ad cA (wI h o k v) := by
  refine wd_set (kd_lt (by rw [hk]; show ci < 50; omega)) ?_ (fun q hq => upO_ne hq) (fun q hq => rfl)
  rw [cell_o hk hc]
  congr 2
  apply List.ext_getElem?
  intro j
  have hl : ((List.range n).map (fldV ad h ci o)).length = n := by simp
  rcases Nat.lt_or_ge j n with q | q
  · rw [List.getElem?_map, List.getElem?_range q]
    by_cases hj : j = k
    · subst hj
      rw [List.getElem?_set_self (by rw [hl]; exact q)]
      show some (fldV ad (wI h o j v) ci o j) = _
      unfold fldV
      rw [hr]
      show some (Value.int ((wI h o j v).1 o j)) = _
      unfold wI
      rw [upO_eq, pk_us]
    · rw [List.getElem?_set_ne (Ne.symm hj), List.getElem?_map, List.getElem?_range q]
      show some (fldV ad (wI h o k v) ci o j) = some (fldV ad h ci o j)
      unfold fldV wI
      rw [upO_eq, pk_un hj]
  · rw [List.getElem?_eq_none (by simpa using q), List.getElem?_eq_none (by simpa using q)]
theorem cv_cat (ad : Nat → Nat) (v : Value) : (cv ad v).category = v.category := by cases v <;> rfl
theorem cv_cats (ad : Nat → Nat) (st : List Value) : ((st.map (cv ad)).map fun v => v.category) = st.map fun v => v.category := by
  rw [List.map_map]
  apply List.map_congr_left
  intro v _
  exact cv_cat ad v
abbrev cvp (ad : Nat → Nat) (q : Nat × Value) : Nat × Value := (q.1, cv ad q.2)
theorem cvp_filter1 (ad : Nat → Nat) (i : Nat) (lv : List (Nat × Value)) : (lv.map (cvp ad)).filter (fun q => !(q.1 == i) && !(q.1 + 1 == i && q.2.category == 2)) = (lv.filter (fun q => !(q.1 == i) && !(q.1 + 1 == i && q.2.category == 2))).map (cvp ad) := by
  rw [List.filter_map]
  congr 1
  apply List.filter_congr
  intro q _
  show (!(q.1 == i) && !(q.1 + 1 == i && (cv ad q.2).category == 2)) = _
  rw [cv_cat]
theorem cvp_filter2 (ad : Nat → Nat) (i : Nat) (lv : List (Nat × Value)) : (lv.map (cvp ad)).filter (fun q => !(q.1 == i) && (!(q.1 == i + 1) && !(q.1 + 1 == i && q.2.category == 2))) = (lv.filter (fun q => !(q.1 == i) && (!(q.1 == i + 1) && !(q.1 + 1 == i && q.2.category == 2)))).map (cvp ad) := by
  rw [List.filter_map]
  congr 1
  apply List.filter_congr
  intro q _
  show (!(q.1 == i) && (!(q.1 == i + 1) && !(q.1 + 1 == i && (cv ad q.2).category == 2))) = _
  rw [cv_cat]
theorem cvp_args (ad : Nat → Nat) : ∀ (vs : List Value) (n : Nat), lv_args n (vs.map (cv ad)) = (lv_args n vs).map (cvp ad)
  | [], n => rfl
  | v :: vs, n => by
    show lv_args n (cv ad v :: vs.map (cv ad)) = _
    unfold lv_args
    rw [cv_cat]
    split
    · rw [cvp_args ad vs]; rfl
    · rw [cvp_args ad vs]; rfl
theorem lg_cv (ad : Nat → Nat) (vs : List Value) : (lg_sl (vs.map (cv ad))).length = (lg_sl vs).length := by
  induction vs with
  | nil => rfl
  | cons v vs ih =>
    show (lg_sl (cv ad v :: vs.map (cv ad))).length = _
    unfold lg_sl at ih ⊢
    rw [List.flatMap_cons, List.flatMap_cons, List.length_append, List.length_append, ih, cv_cat]
    congr 1
    split <;> rfl
/-! ===== the tables' good words; worlds; judgements ===== -/
def gtbl : List Cond := lw_tbl.filter goodWord
theorem in_g {w : Cond} (i : Nat) (h : lw_tbl[i]? = some w) (g : goodWord w = true) : w ∈ gtbl := List.mem_filter.mpr ⟨List.mem_of_getElem? h, g⟩
theorem g_good {ws : List Cond} (h : ∀ w ∈ ws, w ∈ gtbl) : GoodIn gtbl ws := fun w hw => ⟨h w hw, good_of_word (List.mem_filter.mp (h w hw)).2⟩
abbrev GG : Type := va_G × (Nat → Prop) × (Nat → Nat) × (Nat → ClassId)
def SF (G : GG) (U : State) (H : Heap) : Prop := ∀ q ∈ STN, va_Z q.2.1 q.2.2.1 "[I" (.ref (G.2.2.1 q.1)) G.2.1 U H ∧ va_T .int (G.2.2.1 q.1) q.2.2.2 (fun j => .int (ST q.1 j)) G.2.1 U H
def NWL : List (String × Nat × MethodName × String) := [(RX3, 49, yX4_isName, RX9), (RX9, 229, yX8_best, RX9), (RX9, 233, yX8_afterTurn, RX9)]
def NW (U : State) : Prop := ∀ q ∈ NWL, va_Nw (.methodLinkNest q.1 q.2.1 q.2.2.1 q.2.2.2) U
theorem SF.moved {G : GG} {u U : State} {H : Heap} (hvm : u.vm.Alike U.vm) (h : SF G u H) : SF G U H := fun q hq => ⟨(h q hq).1.moved hvm, (h q hq).2.moved hvm⟩
theorem SF.kept {G : GG} {U : State} {H H1 : Heap} (h : SF G U H) (hq : ∀ a : Nat, a < H.size → ¬ G.2.1 a → H1[a]? = H[a]?) : SF G U H1 := fun q hh => ⟨(h q hh).1.kept hq, (h q hh).2.kept hq⟩
theorem NW.same {u U : State} (e : u.vm = U.vm) (h : NW u) : NW U := fun q hq => (h q hq).same rfl e
theorem NW.warm {s U : State} (hW : s.WarmedH U.vm) (h : NW s) : NW U := fun q hq => va_Nw.warmM hW (h q hq)
def Wpre (G : GG) (h : AH) (U : State) : Prop := va_P G.1 vwCl (Wd G.2.2.1 G.2.2.2 h) U.heap ∧ va_D G.2.1 (Wd G.2.2.1 G.2.2.2 h) ∧ va_K G.1 vwCl (tyL G.2.2.2) U ∧ SF G U U.heap ∧ NW U
def QcJ (G : GG) (r : Option Value) (h' : AH) : Array Value → State → Outcome → State → Prop := fun _ st oc t => (oc = .returned (r.map (cv G.2.2.1)) ∧ va_P G.1 vwCl (Wd G.2.2.1 G.2.2.2 h') t.heap ∧ va_D G.2.1 (Wd G.2.2.1 G.2.2.2 h')) ∧ va_F G.2.1 st t
def rmD (d : Nat) : Room := { frames := d, cells := 0, slots := 0, locals := 60 * d }
def MW (y : MethodName) (cc : ByteArray) (maxL : Nat) (ret : Option FieldType) (n : Nat) : Prop := Cond.code y cc maxL ret ∈ gtbl ∧ Cond.initialized y.cls ∈ gtbl ∧ (y.cls ≠ "java/lang/invoke/MethodHandle" ∧ y.cls ≠ "java/lang/invoke/VarHandle" ∧ (parseMethodDescriptor y.desc).map (fun d => d.parameters.length) = some n) ∧ plainName y.cls = true ∧ maxL ≤ 20
def Con (G : GG) (d : Nat) (y : MethodName) (cc : ByteArray) (maxL : Nat) (ret : Option FieldType) (av : List Value) (h : AH) (r : Option Value) (h' : AH) : Prop :=
  ∀ l : Launch, Met l y (Cond.code y cc maxL ret :: gtbl) (rmD d) (va_Pc (av.map (cv G.2.2.1)) (Wpre G h)) (QcJ G r h') 0 0 G.2.1
abbrev EE : Type := Program × Launch × Env × Room × State × MethodId × Array Value × List Frame × Method × Code × Nat × Nat × (State → Prop)
def JJ (G : GG) (E : EE) (nL pc : Nat) (lv : List (Nat × Value)) (st : List Value) (h : AH) : Prop := match G, E with
  | (D, A, ad, cA), (p, l, e, R, s, m, args, below, meth, c, cells, slots, Q) =>
    ∀ (H : Heap) (locs : List Loc) (ls : Array Slot), va_P D vwCl (Wd ad cA h) H → va_D A (Wd ad cA h) → va_S A s.heap H locs → lv_has ls nL (lv.map (cvp ad)) → W p l e R s m args below meth c H locs cells slots Q (F0 m pc ls (st.map (cv ad)))
def OK (G : GG) (E : EE) (d : Nat) (own : String) (cc : ByteArray) (nL : Nat) : Prop := match G, E with
  | (D, A, ad, cA), (p, l, e, R, s, m, args, below, meth, c, cells, slots, Q) =>
    p.tables.exec = Jvm.exec ∧ c.code = cc ∧ c.maxLocals = nL ∧ s.vm.findClass own = some m.cls ∧ (∀ w ∈ gtbl, w.before args s = true) ∧ va_K D vwCl (tyL cA) s ∧ SF (D, A, ad, cA) s s.heap ∧ NW s ∧ (d ≤ R.frames ∧ 60 * d ≤ R.locals ∧ cells ≤ R.cells ∧ slots ≤ R.slots)
def RT (G : GG) (E : EE) (ret : Option FieldType) (r : Option Value) (h' : AH) : Prop := match G, E with
  | (D, A, ad, cA), (p, l, e, R, s, m, args, below, meth, c, cells, slots, Q) =>
    meth.sig.returnType = ret ∧ meth.locks = false ∧ cells = 0 ∧ slots = 0 ∧ Q = MQ below (QcJ (D, A, ad, cA) r h') args s 0 0 A
set_option maxHeartbeats 1000000 in
theorem con_of {G : GG} {d : Nat} {y : MethodName} {cc : ByteArray} {maxL n : Nat} {ret : Option FieldType} {av : List Value} {h h' : AH} {r : Option Value} (M : MW y cc maxL ret n) (hlen : (lg_sl av).length ≤ maxL) (body : ∀ E : EE, OK G E d y.cls cc maxL → RT G E ret r h' → JJ G E maxL 0 (lv_args 0 av) [] h) : Con G d y cc maxL ret av h r h' := by
  intro l
  refine Met.ofW (cc := cc) (maxL := maxL) (ret := ret) M.2.2.2.1 rfl ?_
  intro p e s m args below meth c s₁ B hml hv
  obtain ⟨D, A, ad, cA⟩ := G
  obtain ⟨rfl, hP, hD, hK, hZ, hN⟩ := hv
  have hts := atoms_spec (ws := Cond.code y cc maxL ret :: gtbl) B.pre
  have hl := lv_entry (av.map (cv ad)) (n := maxL) (by rw [lg_cv]; exact hlen)
  rw [lg_entry_eq]
  rw [cvp_args] at hl
  exact body (p, l, e, rmD d, s, m, (av.map (cv ad)).toArray, below, meth, c, 0, 0, MQ below (QcJ (D, A, ad, cA) r h') (av.map (cv ad)).toArray s 0 0 A) ⟨B.exec, B.bytes, hml, findClass_of_methodNamed B.named, fun w hw => hts w (List.mem_cons_of_mem _ hw), hK, hZ, hN, Nat.le_refl _, Nat.le_refl _, Nat.zero_le _, Nat.zero_le _⟩ ⟨B.returns, B.notSynchronized, rfl, rfl, rfl⟩ s.heap [] _ hP hD va_S.rf hl
