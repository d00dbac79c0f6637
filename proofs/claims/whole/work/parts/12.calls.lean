section CALLS
variable {G : GG} {E : EE} {d : Nat} {own : String} {cc : ByteArray} {nL pc : Nat} {lv : List (Nat × Value)} {st : List Value} {h : AH}
def LV (own : String) (idx ci N : Nat) (y : MethodName) : Prop := Cond.methodLink own idx y ∈ gtbl ∧ Cond.instanceMethod y ∈ gtbl ∧ Cond.selects y.cls y y ∈ gtbl ∧ ci < 20 ∧ ∃ T : u_T, vwCl[ci]? = some (y.cls, T, N)
def LSt (own : String) (idx : Nat) (y : MethodName) : Prop := Cond.methodLink own idx y ∈ gtbl ∧ Cond.static y ∈ gtbl
def LVN (own : String) (idx ci N : Nat) (y : MethodName) : Prop := (own, idx, y, RX9) ∈ NWL ∧ Cond.instanceMethod y ∈ gtbl ∧ Cond.selects y.cls y y ∈ gtbl ∧ ci < 20 ∧ ∃ T : u_T, vwCl[ci]? = some (y.cls, T, N)
def LSN (own : String) (idx : Nat) (y : MethodName) : Prop := (own, idx, y, RX9) ∈ NWL ∧ Cond.static y ∈ gtbl
theorem mw_good {y : MethodName} {bb : ByteArray} {maxL n : Nat} {ret : Option FieldType} (M : MW y bb maxL ret n) : GoodIn gtbl (Cond.code y bb maxL ret :: gtbl) := g_good (fun w hw => (List.mem_cons.mp hw).elim (fun q => by rw [q]; exact M.1) id)
theorem call_go {p : Program} {l : Launch} {e : Env} {R : Room} {s : State} {m : MethodId} {args : Array Value} {below : List Frame} {meth : Method} {c : Code} {H : Heap} {locs : List Loc} {cells slots : Nat} {Q : State → Prop} {ls : Array Slot} {rest st0 : List Value} {a : Array Value} {D : va_G} {A : Nat → Prop} {ad : Nat → Nat} {cA : Nat → ClassId} {H0 : Heap} {r : Option Value} {h' : AH}
    (hr : va_Run p l e R s m args below meth c H locs cells slots 0 0 (F0 m pc ls st0) rest (QcJ (D, A, ad, cA) r h' a) A) (hS : va_S A H0 H locs)
    (kk : ∀ (H1 : Heap) (locs1 : List Loc), va_P D vwCl (Wd ad cA h') H1 → va_D A (Wd ad cA h') → va_S A H0 H1 locs1 → W p l e R s m args below meth c H1 locs1 cells slots Q (F0 m (pc + 3) ls ((r.map (cv ad)).toList ++ rest))) : W p l e R s m args below meth c H locs cells slots Q (F0 m pc ls st0) := by
  intro T hT X
  obtain ⟨v, st₀, t, T', L, h0, X', hL, e1, e2, ⟨⟨hv, hP, hD⟩, hz, hk⟩, st⟩ := hr T hT X
  cases hv
  rw [h0] at hz hk
  obtain ⟨t2, a1, b1⟩ := kk T'.heap (locs ++ L) (by rw [e1]; exact hP) hD
    ⟨Nat.le_trans hS.1 (by rw [e1]; exact hz), fun q h1 h2 => by rw [e1, hk q (Nat.lt_of_lt_of_le h1 hS.1) h2]; exact hS.2.1 q h1 h2, fun q hq => by
      rcases List.mem_append.mp hq with h | h
      · exact hS.2.2 q h
      · exact hL q h⟩ T' rfl X'
  exact ⟨t2, st t2 a1, b1⟩
theorem pre_of {D : va_G} {A : Nat → Prop} {ad : Nat → Nat} {cA : Nat → ClassId} {s : State} {H : Heap} {locs : List Loc} {av : List Value} (hP : va_P D vwCl (Wd ad cA h) H) (hD : va_D A (Wd ad cA h)) (hS : va_S A s.heap H locs) (hK : va_K D vwCl (tyL cA) s) (hZ : SF (D, A, ad, cA) s s.heap) (hN : NW s) (U : State) (hU : U.heap = H) (hW : s.WarmedH U.vm) : va_Pc (av.map (cv ad)) (Wpre (D, A, ad, cA) h) (av.map (cv ad)).toArray U :=
  ⟨rfl, by rw [hU]; exact hP, hD, hK.moved hW.alike, by rw [hU]; exact (hZ.kept hS.2.1).moved hW.alike, hN.warm hW⟩
theorem blind_of {G : GG} {av : List Value} : FrameBlind (va_Pc av (Wpre G h)) := fun a U g mk q => by
  obtain ⟨q0, qP, qD, qK, qZ, qN⟩ := q
  exact ⟨q0, qP, qD, va_K.moved (u := U) (U := U.calling g mk a) (Vm.Alike.refl U.vm) qK, SF.moved (u := U) (U := U.calling g mk a) (Vm.Alike.refl U.vm) qZ, NW.same (u := U) (U := U.calling g mk a) rfl qN⟩
theorem rm_ok {R : Room} {maxL d' : Nat} (hd : d' + 1 ≤ d) (hL : maxL ≤ 20) (h1 : d ≤ R.frames) (h2 : 60 * d ≤ R.locals) : (rmD d').frames + 1 ≤ R.frames ∧ 8 + (maxL + 11) + (rmD d').locals ≤ R.locals := by
  show d' + 1 ≤ R.frames ∧ 8 + (maxL + 11) + 60 * d' ≤ R.locals
  omega
theorem rm_ge {d : Nat} : True := trivial

set_option maxHeartbeats 1000000 in
theorem r_callV {idx d' maxL n : Nat} {o ci N : Nat} {y : MethodName} {bb : ByteArray} {ret : Option FieldType} {av st0 : List Value} {r : Option Value} {h' : AH} (K : OK G E d own cc nL) (L : LV own idx ci N y) (M : MW y bb maxL ret n) (C : Con G d' y bb maxL ret (.ref o :: av) h r h') (dc : decode cc pc = .ok (.invokevirtual idx, 3)) (ho : KD o = (ci, N)) (hd : d' + 1 ≤ d) (hn : av.length = n) (hst : av.reverse ++ .ref o :: st = st0) (hw : (st.map fun v => v.category).sum ≤ 8) (k : JJ G E nL (pc + 3) lv (r.toList ++ st) h') : JJ G E nL pc lv st0 h := by
  obtain ⟨D, A, ad, cA⟩ := G
  obtain ⟨p, l, e, R, s, m, args, below, meth, c, cells, slots, Q⟩ := E
  obtain ⟨hx, hb, hml, hown, hts, hK, hZ, hN, hR⟩ := K
  intro H locs ls hP hD hS hl
  subst hst
  have hblind : FrameBlind (va_Pc ((.ref o :: av).map (cv ad)) (Wpre (D, A, ad, cA) h)) := blind_of
  have hrm := rm_ok (maxL := maxL) hd M.2.2.2.2 hR.1 hR.2.1
  obtain ⟨g1, g2, g3, g4, T0, g5⟩ := L
  have hpv : PreV s H y.cls (ad o) (va_Pc ((.ref o :: av).map (cv ad)) (Wpre (D, A, ad, cA) h)) (av.map (cv ad)) := ⟨hblind, va_recv hK hP (ci := ci) (q0 := o) g5 (wd_obj ho g4), fun U hU hW => pre_of (av := .ref o :: av) hP hD hS hK hZ hN U hU hW⟩
  have hrun := va_runV (l := l) (e := e) (R := R) (below := below) (meth := meth) (locs := locs) (cells := cells) (slots := slots) (g := F0 m pc ls ((av.reverse ++ .ref o :: st).map (cv ad))) (As := av.map (cv ad)) (rest := st.map (cv ad)) (⟨hx, hb, hml, hown, hts⟩ : CallFix p m c cc nL s args gtbl own) (C l) ⟨(callB_of (ws := Cond.code y bb maxL ret :: gtbl) n hts (mw_good M) rfl rfl rfl (hts _ M.2.1) (hts _ g1) M.2.2.1 hrm), hts _ g2, hts _ g3⟩ hpv rfl (by rw [List.length_map]; exact hn) hl.1 (by show (av.reverse ++ .ref o :: st).map (cv ad) = (av.map (cv ad)).reverse ++ .ref (ad o) :: st.map (cv ad); rw [List.map_append, List.map_reverse]; rfl) (lv_room (m := m) (pc := pc) (ls := ls) (rest := []) (by rw [cv_cats]; exact hw)) dc ⟨by rw [Nat.add_zero]; exact hR.2.2.1, by rw [Nat.add_zero]; exact hR.2.2.2⟩
  refine call_go hrun hS (fun H1 locs1 hP1 hD1 hS1 => ?_)
  have hk := k H1 locs1 ls hP1 hD1 hS1 hl
  have e9 : (r.toList ++ st).map (cv ad) = (r.map (cv ad)).toList ++ st.map (cv ad) := by
    rw [List.map_append]
    cases r <;> rfl
  rw [e9] at hk
  exact hk
set_option maxHeartbeats 1000000 in
theorem r_callS {idx d' maxL n : Nat} {y : MethodName} {bb : ByteArray} {ret : Option FieldType} {av st0 : List Value} {r : Option Value} {h' : AH} (K : OK G E d own cc nL) (L : LSt own idx y) (M : MW y bb maxL ret n) (C : Con G d' y bb maxL ret av h r h') (dc : decode cc pc = .ok (.invokestatic idx, 3)) (hd : d' + 1 ≤ d) (hn : av.length = n) (hst : av.reverse ++ st = st0) (hw : (st.map fun v => v.category).sum ≤ 8) (k : JJ G E nL (pc + 3) lv (r.toList ++ st) h') : JJ G E nL pc lv st0 h := by
  obtain ⟨D, A, ad, cA⟩ := G
  obtain ⟨p, l, e, R, s, m, args, below, meth, c, cells, slots, Q⟩ := E
  obtain ⟨hx, hb, hml, hown, hts, hK, hZ, hN, hR⟩ := K
  intro H locs ls hP hD hS hl
  subst hst
  have hblind : FrameBlind (va_Pc (av.map (cv ad)) (Wpre (D, A, ad, cA) h)) := blind_of
  have hrm := rm_ok (maxL := maxL) hd M.2.2.2.2 hR.1 hR.2.1
  obtain ⟨g1, g2⟩ := L
  have hpv : PreS s H (va_Pc (av.map (cv ad)) (Wpre (D, A, ad, cA) h)) (av.map (cv ad)) := ⟨hblind, fun U hU hW => pre_of (av := av) hP hD hS hK hZ hN U hU hW⟩
  have hrun := va_runS (l := l) (e := e) (R := R) (below := below) (meth := meth) (locs := locs) (cells := cells) (slots := slots) (g := F0 m pc ls ((av.reverse ++ st).map (cv ad))) (As := av.map (cv ad)) (rest := st.map (cv ad)) (⟨hx, hb, hml, hown, hts⟩ : CallFix p m c cc nL s args gtbl own) (C l) ⟨(callB_of (ws := Cond.code y bb maxL ret :: gtbl) n hts (mw_good M) rfl rfl rfl (hts _ M.2.1) (hts _ g1) M.2.2.1 hrm), hts _ g2⟩ hpv rfl (by rw [List.length_map]; exact hn) hl.1 (by show (av.reverse ++ st).map (cv ad) = (av.map (cv ad)).reverse ++ st.map (cv ad); rw [List.map_append, List.map_reverse]) (lv_room (m := m) (pc := pc) (ls := ls) (rest := []) (by rw [cv_cats]; exact hw)) dc ⟨by rw [Nat.add_zero]; exact hR.2.2.1, by rw [Nat.add_zero]; exact hR.2.2.2⟩
  refine call_go hrun hS (fun H1 locs1 hP1 hD1 hS1 => ?_)
  have hk := k H1 locs1 ls hP1 hD1 hS1 hl
  have e9 : (r.toList ++ st).map (cv ad) = (r.map (cv ad)).toList ++ st.map (cv ad) := by
    rw [List.map_append]
    cases r <;> rfl
  rw [e9] at hk
  exact hk
set_option maxHeartbeats 1000000 in
theorem r_callVN {idx d' maxL n : Nat} {o ci N : Nat} {y : MethodName} {bb : ByteArray} {ret : Option FieldType} {av st0 : List Value} {r : Option Value} {h' : AH} (K : OK G E d own cc nL) (L : LVN own idx ci N y) (M : MW y bb maxL ret n) (C : Con G d' y bb maxL ret (.ref o :: av) h r h') (dc : decode cc pc = .ok (.invokevirtual idx, 3)) (ho : KD o = (ci, N)) (hd : d' + 1 ≤ d) (hn : av.length = n) (hst : av.reverse ++ .ref o :: st = st0) (hw : (st.map fun v => v.category).sum ≤ 8) (k : JJ G E nL (pc + 3) lv (r.toList ++ st) h') : JJ G E nL pc lv st0 h := by
  obtain ⟨D, A, ad, cA⟩ := G
  obtain ⟨p, l, e, R, s, m, args, below, meth, c, cells, slots, Q⟩ := E
  obtain ⟨hx, hb, hml, hown, hts, hK, hZ, hN, hR⟩ := K
  intro H locs ls hP hD hS hl
  subst hst
  have hblind : FrameBlind (va_Pc ((.ref o :: av).map (cv ad)) (Wpre (D, A, ad, cA) h)) := blind_of
  have hrm := rm_ok (maxL := maxL) hd M.2.2.2.2 hR.1 hR.2.1
  obtain ⟨g1, g2, g3, g4, T0, g5⟩ := L
  have hpv : PreV s H y.cls (ad o) (va_Pc ((.ref o :: av).map (cv ad)) (Wpre (D, A, ad, cA) h)) (av.map (cv ad)) := ⟨hblind, va_recv hK hP (ci := ci) (q0 := o) g5 (wd_obj ho g4), fun U hU hW => pre_of (av := .ref o :: av) hP hD hS hK hZ hN U hU hW⟩
  have hrun := va_runVN (l := l) (e := e) (R := R) (below := below) (meth := meth) (locs := locs) (cells := cells) (slots := slots) (g := F0 m pc ls ((av.reverse ++ .ref o :: st).map (cv ad))) (As := av.map (cv ad)) (rest := st.map (cv ad)) (⟨hx, hb, hml, hown, hts⟩ : CallFix p m c cc nL s args gtbl own) (C l) ⟨(va_cnB (ws := Cond.code y bb maxL ret :: gtbl) n hts (mw_good M) rfl rfl rfl (hN _ g1) (hts _ M.2.1) M.2.2.1 hrm), hts _ g2, hts _ g3⟩ hpv rfl (by rw [List.length_map]; exact hn) hl.1 (by show (av.reverse ++ .ref o :: st).map (cv ad) = (av.map (cv ad)).reverse ++ .ref (ad o) :: st.map (cv ad); rw [List.map_append, List.map_reverse]; rfl) (lv_room (m := m) (pc := pc) (ls := ls) (rest := []) (by rw [cv_cats]; exact hw)) dc ⟨by rw [Nat.add_zero]; exact hR.2.2.1, by rw [Nat.add_zero]; exact hR.2.2.2⟩
  refine call_go hrun hS (fun H1 locs1 hP1 hD1 hS1 => ?_)
  have hk := k H1 locs1 ls hP1 hD1 hS1 hl
  have e9 : (r.toList ++ st).map (cv ad) = (r.map (cv ad)).toList ++ st.map (cv ad) := by
    rw [List.map_append]
    cases r <;> rfl
  rw [e9] at hk
  exact hk
set_option maxHeartbeats 1000000 in
theorem r_callSN {idx d' maxL n : Nat} {y : MethodName} {bb : ByteArray} {ret : Option FieldType} {av st0 : List Value} {r : Option Value} {h' : AH} (K : OK G E d own cc nL) (L : LSN own idx y) (M : MW y bb maxL ret n) (C : Con G d' y bb maxL ret av h r h') (dc : decode cc pc = .ok (.invokestatic idx, 3)) (hd : d' + 1 ≤ d) (hn : av.length = n) (hst : av.reverse ++ st = st0) (hw : (st.map fun v => v.category).sum ≤ 8) (k : JJ G E nL (pc + 3) lv (r.toList ++ st) h') : JJ G E nL pc lv st0 h := by
  obtain ⟨D, A, ad, cA⟩ := G
  obtain ⟨p, l, e, R, s, m, args, below, meth, c, cells, slots, Q⟩ := E
  obtain ⟨hx, hb, hml, hown, hts, hK, hZ, hN, hR⟩ := K
  intro H locs ls hP hD hS hl
  subst hst
  have hblind : FrameBlind (va_Pc (av.map (cv ad)) (Wpre (D, A, ad, cA) h)) := blind_of
  have hrm := rm_ok (maxL := maxL) hd M.2.2.2.2 hR.1 hR.2.1
  obtain ⟨g1, g2⟩ := L
  have hpv : PreS s H (va_Pc (av.map (cv ad)) (Wpre (D, A, ad, cA) h)) (av.map (cv ad)) := ⟨hblind, fun U hU hW => pre_of (av := av) hP hD hS hK hZ hN U hU hW⟩
  have hrun := va_runSN (l := l) (e := e) (R := R) (below := below) (meth := meth) (locs := locs) (cells := cells) (slots := slots) (g := F0 m pc ls ((av.reverse ++ st).map (cv ad))) (As := av.map (cv ad)) (rest := st.map (cv ad)) (⟨hx, hb, hml, hown, hts⟩ : CallFix p m c cc nL s args gtbl own) (C l) ⟨(va_cnB (ws := Cond.code y bb maxL ret :: gtbl) n hts (mw_good M) rfl rfl rfl (hN _ g1) (hts _ M.2.1) M.2.2.1 hrm), hts _ g2, trivial⟩ hpv rfl (by rw [List.length_map]; exact hn) hl.1 (by show (av.reverse ++ st).map (cv ad) = (av.map (cv ad)).reverse ++ st.map (cv ad); rw [List.map_append, List.map_reverse]) (lv_room (m := m) (pc := pc) (ls := ls) (rest := []) (by rw [cv_cats]; exact hw)) dc ⟨by rw [Nat.add_zero]; exact hR.2.2.1, by rw [Nat.add_zero]; exact hR.2.2.2⟩
  refine call_go hrun hS (fun H1 locs1 hP1 hD1 hS1 => ?_)
  have hk := k H1 locs1 ls hP1 hD1 hS1 hl
  have e9 : (r.toList ++ st).map (cv ad) = (r.map (cv ad)).toList ++ st.map (cv ad) := by
    rw [List.map_append]
    cases r <;> rfl
  rw [e9] at hk
  exact hk
theorem r_mmax {idx : Nat} {x y : Int32} (K : OK G E d own cc nL) (L : Cond.methodLink own idx Lib.Math.max.name ∈ gtbl ∧ Cond.static Lib.Math.max.name ∈ gtbl ∧ Cond.initialized "java/lang/Math" ∈ gtbl ∧ Cond.code Lib.Math.max.name Lib.Math.max.code 2 (some .int) ∈ gtbl) (dc : decode cc pc = .ok (.invokestatic idx, 3)) (hd : 1 ≤ d) (hw : (st.map fun v => v.category).sum ≤ 8) (k : JJ G E nL (pc + 3) lv (.int (jmax x y) :: st) h) : JJ G E nL pc lv (.int y :: .int x :: st) h := by
  obtain ⟨D, A, ad, cA⟩ := G
  obtain ⟨p, l, e, R, s, m, args, below, meth, c, cells, slots, Q⟩ := E
  obtain ⟨hx, hb, hml, hown, hts, hK, hZ, hN, hR⟩ := K
  intro H locs ls hP hD hS hl
  exact va_mmax hx hb (by rw [hml]; exact hl.1.symm) hown (hts _ L.1) (hts _ L.2.1) (hts _ L.2.2.1) (hts _ L.2.2.2) (by have := hR.1; omega) (by rw [cv_cats]; have := hR.2.1; omega) hR.2.2.1 hR.2.2.2 dc (k H locs ls hP hD hS hl)
theorem r_mmin {idx : Nat} {x y : Int32} (K : OK G E d own cc nL) (L : Cond.methodLink own idx Lib.Math.min.name ∈ gtbl ∧ Cond.static Lib.Math.min.name ∈ gtbl ∧ Cond.initialized "java/lang/Math" ∈ gtbl ∧ Cond.code Lib.Math.min.name Lib.Math.min.code 2 (some .int) ∈ gtbl) (dc : decode cc pc = .ok (.invokestatic idx, 3)) (hd : 1 ≤ d) (hw : (st.map fun v => v.category).sum ≤ 8) (k : JJ G E nL (pc + 3) lv (.int (jmin x y) :: st) h) : JJ G E nL pc lv (.int y :: .int x :: st) h := by
  obtain ⟨D, A, ad, cA⟩ := G
  obtain ⟨p, l, e, R, s, m, args, below, meth, c, cells, slots, Q⟩ := E
  obtain ⟨hx, hb, hml, hown, hts, hK, hZ, hN, hR⟩ := K
  intro H locs ls hP hD hS hl
  exact va_mmin hx hb (by rw [hml]; exact hl.1.symm) hown (hts _ L.1) (hts _ L.2.1) (hts _ L.2.2.1) (hts _ L.2.2.2) (by have := hR.1; omega) (by rw [cv_cats]; have := hR.2.1; omega) hR.2.2.1 hR.2.2.2 dc (k H locs ls hP hD hS hl)
def cpOK (sp dp n : Int32) (n0 n1 : Nat) : Bool := decide (0 ≤ sp.toInt) && (decide (0 ≤ dp.toInt) && (decide (0 ≤ n.toInt) && (decide (ix sp + ix n ≤ n0) && decide (ix dp + ix n ≤ n1))))
theorem cp_ok {sp dp n : Int32} {n0 n1 : Nat} (hh : cpOK sp dp n n0 n1 = true) : ¬ sp < 0 ∧ ¬ dp < 0 ∧ ¬ n < 0 ∧ ix sp + ix n ≤ n0 ∧ ix dp + ix n ≤ n1 := by
  simp only [cpOK, Bool.and_eq_true, decide_eq_true_eq] at hh
  obtain ⟨a, b, c, e, f⟩ := hh
  have key : ∀ z : Int32, 0 ≤ z.toInt → ¬ z < 0 := fun z hz hlt => by
    have := Int32.lt_iff_toInt_lt.mp hlt
    simp at this
    omega
  exact ⟨key _ a, key _ b, key _ c, e, f⟩
set_option maxHeartbeats 1000000 in
theorem r_acopyi {idx a b n0 n1 : Nat} {sp dp n : Int32} (K : OK G E d own cc nL) (L : Cond.methodLink own idx arraycopyName ∈ gtbl ∧ Cond.native arraycopyName ∈ gtbl ∧ Cond.static arraycopyName ∈ gtbl ∧ Cond.initialized "java/lang/System" ∈ gtbl) (dc : decode cc pc = .ok (.invokestatic idx, 3)) (ha : KD a = (20, n0)) (hb2 : KD b = (20, n1)) (hc : cpOK sp dp n n0 n1 = true) (hd : 1 ≤ d) (hw : (st.map fun v => v.category).sum ≤ 8) {h1 : AH} (he : h1 = cpI h a (ix sp) b (ix dp) (ix n)) (k : JJ G E nL (pc + 3) lv st h1) : JJ G E nL pc lv (.int n :: .int dp :: .ref b :: .int sp :: .ref a :: st) h := by
  subst he
  obtain ⟨D, A, ad, cA⟩ := G
  obtain ⟨p, l, e, R, s, m, args, below, meth, c, cells, slots, Q⟩ := E
  obtain ⟨hx, hb, hml, hown, hts, hK, hZ, hN, hR⟩ := K
  intro H locs ls hP hD hS hl
  obtain ⟨c1, c2, c3, c4, c5⟩ := cp_ok hc
  have hnw : nativeFrameWords "java/lang/System" "arraycopy" 5 + 11 ≤ 52 := by decide +kernel
  refine va_copyi (D := D) hx hb (by rw [hml]; exact hl.1.symm) hown (hts _ L.1) (hts _ L.2.1) (hts _ L.2.2.1) (hts _ L.2.2.2) hK hP hD hS a b 0 0 (wd_arr ha) (wd_arr hb2) rfl rfl rfl c1 c2 c3 c4 c5 (fun i _ => rfl) (by have := hR.1; omega) (by rw [cv_cats]; have := hR.2.1; omega) dc (fun H' locs' hP' hD' hS' => ?_)
  rw [wd_setI hb2] at hP' hD'
  exact k H' locs' ls hP' hD' hS' hl
set_option maxHeartbeats 1000000 in
theorem r_acopyl {idx a b n0 n1 : Nat} {sp dp n : Int32} (K : OK G E d own cc nL) (L : Cond.methodLink own idx arraycopyName ∈ gtbl ∧ Cond.native arraycopyName ∈ gtbl ∧ Cond.static arraycopyName ∈ gtbl ∧ Cond.initialized "java/lang/System" ∈ gtbl) (dc : decode cc pc = .ok (.invokestatic idx, 3)) (ha : KD a = (21, n0)) (hb2 : KD b = (21, n1)) (hc : cpOK sp dp n n0 n1 = true) (hd : 1 ≤ d) (hw : (st.map fun v => v.category).sum ≤ 8) {h1 : AH} (he : h1 = cpL h a (ix sp) b (ix dp) (ix n)) (k : JJ G E nL (pc + 3) lv st h1) : JJ G E nL pc lv (.int n :: .int dp :: .ref b :: .int sp :: .ref a :: st) h := by
  subst he
  obtain ⟨D, A, ad, cA⟩ := G
  obtain ⟨p, l, e, R, s, m, args, below, meth, c, cells, slots, Q⟩ := E
  obtain ⟨hx, hb, hml, hown, hts, hK, hZ, hN, hR⟩ := K
  intro H locs ls hP hD hS hl
  obtain ⟨c1, c2, c3, c4, c5⟩ := cp_ok hc
  have hnw : nativeFrameWords "java/lang/System" "arraycopy" 5 + 11 ≤ 52 := by decide +kernel
  refine va_copyl (D := D) hx hb (by rw [hml]; exact hl.1.symm) hown (hts _ L.1) (hts _ L.2.1) (hts _ L.2.2.1) (hts _ L.2.2.2) hK hP hD hS a b 1 1 (wd_arrL ha) (wd_arrL hb2) rfl rfl rfl c1 c2 c3 c4 c5 (fun i _ => rfl) (by have := hR.1; omega) (by rw [cv_cats]; have := hR.2.1; omega) dc (fun H' locs' hP' hD' hS' => ?_)
  rw [wd_setL hb2] at hP' hD'
  exact k H' locs' ls hP' hD' hS' hl
end CALLS
