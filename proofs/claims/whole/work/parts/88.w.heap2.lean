/-! the yard in the heap: a sign -/
def bI (b : Bool) : Int32 := if b = true then 1 else 0
def YR (h : AH) : Y → Prop
  | (C, W, d, k, j, wn, κ) => CodeR h C ∧ h.1 12 3 = nI W.length ∧ WtR h W ∧ h.1 12 4 = d ∧ h.1 12 5 = nI k ∧ (0 < k → h.1 12 6 = nI j ∧ j < C.length) ∧ h.1 12 7 = bI wn ∧ h.1 12 8 = bI κ ∧ k ≤ 3
def SY (o _k : Nat) : Prop := o = 12 ∨ o = 13 ∨ o = 14
def YS : Option Y → Int32 × AH → Prop
  | none, q => q.1 = 0
  | some y, q => q.1 = 1 ∧ YR q.2 y
theorem c_endOp {h : AH} {C W : List Int32} {d wv : Int32} {k j : Nat} {κ : Bool} (hk : k ≤ 3) (T : CodeR h C) (e3 : h.1 12 3 = nI W.length) (V : WtR h W) (e4 : h.1 12 4 = d) (e6 : 0 < k → h.1 12 6 = nI j ∧ j < C.length) (e8 : h.1 12 8 = bI κ) (hb : C.length + W.length ≤ 121) (hW : W.length ≤ 120) : Ok (fX4_endOperand (nI k) h) (fun h' => YR h' (yEnd C W d k j κ) ∧ Fr SY h h') := by
  unfold fX4_endOperand
  refine ok_let (ok_let ?_)
  have F1 : Fr (fun o k => o = 12 ∧ (k = 5 ∨ k = 7)) h (wI (wI h 12 5 (nI k)) 12 7 0) := (Fr.rf.w ⟨rfl, Or.inl rfl⟩).w ⟨rfl, Or.inr rfl⟩
  have v5 : (wI (wI h 12 5 (nI k)) 12 7 0).1 12 5 = nI k := by rw [wI_rd, if_neg (by omega), wI_rd, if_pos ⟨rfl, rfl⟩]
  have v7 : (wI (wI h 12 5 (nI k)) 12 7 0).1 12 7 = 0 := by rw [wI_rd, if_pos ⟨rfl, rfl⟩]
  revert F1 v5 v7
  generalize wI (wI h 12 5 (nI k)) 12 7 0 = h1
  intro F1 v5 v7
  refine ok_b2 (c_release (r := 6) (Nat.le_refl 6) (T.fr F1 (fun o k q => by omega)) (by rw [F1.1 12 3 (by omega)]; exact e3) (V.fr F1 (fun o k q => by omega)) hb hW) (fun v h2 hh => ok_let (ok_some ?_))
  obtain ⟨g1, g2, g3, g4, F2⟩ := hh
  have g1 : v = nI (out 6 W).length := g1
  have G : Fr (fun o k => o = 12 ∧ k = 4) h2 (wI h2 12 4 (h1.1 12 4 - v)) := Fr.rf.w ⟨rfl, rfl⟩
  have F3 : Fr Zr h1 h2 := F2
  refine ⟨⟨g2.fr G (fun o k q => by omega), ?_, g4.fr G (fun o k q => by omega), ?_, ?_, fun hk => ⟨?_, ?_⟩, ?_, ?_, hk⟩, ((F1.mono (fun o k q => by unfold SY; omega)).tr (F3.mono (fun o k q => by unfold SY; unfold Zr at q; omega))).tr (G.mono (fun o k q => by unfold SY; omega))⟩
  · rw [G.1 12 3 (by omega)]; exact g3
  · rw [wI_rd, if_pos ⟨rfl, rfl⟩, F1.1 12 4 (by omega), e4, g1]
  · rw [G.1 12 5 (by omega), F3.1 12 5 (by unfold Zr; omega)]; exact v5
  · rw [G.1 12 6 (by omega), F3.1 12 6 (by unfold Zr; omega), F1.1 12 6 (by omega)]; exact (e6 hk).1
  · rw [List.length_append]; have := (e6 hk).2; omega
  · rw [G.1 12 7 (by omega), F3.1 12 7 (by unfold Zr; omega)]; exact v7
  · rw [G.1 12 8 (by omega), F3.1 12 8 (by unfold Zr; omega), F1.1 12 8 (by omega)]; exact e8
theorem c_opd {h : AH} {b : Int32} {C W : List Int32} {d : Int32} {k j : Nat} {κ : Bool} (H : YR h (C, W, d, k, j, true, κ)) (hb : C.length + W.length < 120) : Ok (fX4_takesOperand b h) (fun q => YS (yOpd b C W d k j κ) q ∧ Fr SY h q.2) := by
  obtain ⟨T, e3, V, e4, e5, e6, e7, e8, hk⟩ := H
  unfold fX4_takesOperand
  rw [c_isDg, b2_some]
  unfold yOpd
  by_cases c1 : isDg b
  · rw [if_pos c1, if_pos c1]
    refine ok_f (by decide) (ok_let ?_)
    have F1 : Fr (fun o k => o = 12 ∧ k = 6) h (wI h 12 6 (h.1 12 1)) := Fr.rf.w ⟨rfl, rfl⟩
    have v6 : (wI h 12 6 (h.1 12 1)).1 12 6 = nI C.length := by rw [wI_rd, if_pos ⟨rfl, rfl⟩]; exact T.1
    revert F1 v6
    generalize wI h 12 6 (h.1 12 1) = h1
    intro F1 v6
    refine ok_bV (c_emit (T.fr F1 (fun o k q => by omega)) (by omega)) (fun h2 hh => ?_)
    obtain ⟨T2, F2⟩ := hh
    refine ok_bV (c_endOp (k := 3) (j := C.length) (d := d) (κ := κ) (wv := 0) (Nat.le_refl 3) T2 (W := W) ?_ ?_ ?_ (fun _ => ⟨?_, ?_⟩) ?_ ?_ (by omega)) (fun h3 hh => ok_some ⟨⟨rfl, hh.1⟩, ((F1.mono (fun o k q => by unfold SY; omega)).tr (F2.mono (fun o k q => by unfold SY; omega))).tr hh.2⟩)
    · rw [F2.1 12 3 (by omega), F1.1 12 3 (by omega)]; exact e3
    · exact (V.fr F1 (fun o k q => by omega)).fr F2 (fun o k q => by omega)
    · rw [F2.1 12 4 (by omega), F1.1 12 4 (by omega)]; exact e4
    · rw [F2.1 12 6 (by omega)]; exact v6
    · rw [List.length_append]; exact Nat.lt_succ_self _
    · rw [F2.1 12 8 (by omega), F1.1 12 8 (by omega)]; exact e8
    · rw [List.length_append]; show C.length + 1 + _ ≤ _; omega
  · rw [if_neg c1, if_neg c1]
    refine ok_t rfl ?_
    rw [c_isNm, b2_some]
    by_cases c2 : isNm b
    · rw [if_pos c2, if_pos c2]
      refine ok_f (by decide) (ok_bV (c_emit T (by omega)) (fun h2 hh => ?_))
      obtain ⟨T2, F2⟩ := hh
      refine ok_bV (c_endOp (k := 0) (j := j) (d := d) (κ := κ) (wv := 0) (by omega) T2 (W := W) ?_ ?_ ?_ (fun q => absurd q (by omega)) ?_ ?_ (by omega)) (fun h3 hh => ok_some ⟨⟨rfl, hh.1⟩, (F2.mono (fun o k q => by unfold SY; omega)).tr hh.2⟩)
      · rw [F2.1 12 3 (by omega)]; exact e3
      · exact V.fr F2 (fun o k q => by omega)
      · rw [F2.1 12 4 (by omega)]; exact e4
      · rw [F2.1 12 8 (by omega)]; exact e8
      · rw [List.length_append]; show C.length + 1 + _ ≤ _; omega
    · rw [if_neg c2, if_neg c2]
      refine ok_t rfl ?_
      have key : ∀ x : Int32, unc b = (if b = 45 then 126 else b) → Ok (fX4_takesOperand_68 x b h) (fun q => YS (if d < 6 then some (C, unc b :: W, d + 1, k, j, true, κ) else none) q ∧ Fr SY h q.2) := by
        intro x eu
        unfold fX4_takesOperand_68
        rw [e4]
        by_cases c6 : d < 6
        · have ey : (if d < 6 then some (C, unc b :: W, d + 1, k, j, true, κ) else none : Option Y) = some (C, unc b :: W, d + 1, k, j, true, κ) := if_pos c6
          rw [ey]
          refine ok_t c6 (ok_let ?_)
          have F1 : Fr (fun o k => o = 12 ∧ k = 4) h (wI h 12 4 (d + 1)) := Fr.rf.w ⟨rfl, rfl⟩
          have v4 : (wI h 12 4 (d + 1)).1 12 4 = d + 1 := by rw [wI_rd, if_pos ⟨rfl, rfl⟩]
          revert F1 v4
          generalize wI h 12 4 (d + 1) = h1
          intro F1 v4
          have fin : Ok (fX4_takesOperand_102 x (unc b) h1) (fun q => YS (some (C, unc b :: W, d + 1, k, j, true, κ)) q ∧ Fr SY h q.2) := by
            unfold fX4_takesOperand_102
            refine ok_bV (c_await (W := W) (by rw [F1.1 12 3 (by omega)]; exact e3) (V.fr F1 (fun o k q => by omega)) (by omega)) (fun h2 hh => ok_some ⟨⟨rfl, ?_⟩, (F1.mono (fun o k q => by unfold SY; omega)).tr (hh.2.2.mono (fun o k q => by unfold SY; omega))⟩)
            obtain ⟨g1, g2, F2⟩ := hh
            refine ⟨(T.fr F1 (fun o k q => by omega)).fr F2 (fun o k q => by omega), g1, g2, ?_, ?_, fun hk => ⟨?_, (e6 hk).2⟩, ?_, ?_, hk⟩
            · rw [F2.1 12 4 (by omega)]; exact v4
            · rw [F2.1 12 5 (by omega), F1.1 12 5 (by omega)]; exact e5
            · rw [F2.1 12 6 (by omega), F1.1 12 6 (by omega)]; exact (e6 hk).1
            · rw [F2.1 12 7 (by omega), F1.1 12 7 (by omega)]; exact e7
            · rw [F2.1 12 8 (by omega), F1.1 12 8 (by omega)]; exact e8
          by_cases c45 : b = 45
          · have eu' : unc b = 126 := by rw [eu, if_pos c45]
            refine ok_t c45 ?_
            rw [eu'] at fin ⊢
            exact fin
          · have eu' : unc b = b := by rw [eu, if_neg c45]
            refine ok_f c45 ?_
            rw [eu'] at fin ⊢
            exact fin
        · have ey : (if d < 6 then some (C, unc b :: W, d + 1, k, j, true, κ) else none : Option Y) = none := if_neg c6
          rw [ey]
          exact ok_f c6 (ok_some ⟨rfl, Fr.rf⟩)
      by_cases c3 : b = 40
      · rw [if_pos (Or.inl c3)]
        exact ok_t c3 (key b rfl)
      · refine ok_f c3 ?_
        by_cases c4 : b = 33
        · rw [if_pos (Or.inr (Or.inl c4))]
          exact ok_t c4 (key b rfl)
        · refine ok_f c4 ?_
          by_cases c5 : b = 45
          · rw [if_pos (Or.inr (Or.inr c5))]
            exact ok_t c5 (key b rfl)
          · rw [if_neg (fun z => Or.elim z c3 (fun z => Or.elim z c4 c5))]
            exact ok_f c5 (ok_some ⟨rfl, Fr.rf⟩)
theorem gD_set {C : List Int32} {j i : Nat} {x : Int32} (h : i < C.length) : (C.set j x).getD i 0 = if i = j then x else C.getD i 0 := by
  rw [List.getD_eq_getElem?_getD, List.getElem?_set]
  by_cases c : j = i
  · rw [if_pos c, if_pos c.symm, if_pos (by omega)]
    rfl
  · rw [if_neg c, if_neg (fun z => c z.symm), List.getD_eq_getElem?_getD]
theorem nI_0lt {k : Nat} (h : k < 2 ^ 30) : (nI k ≤ 0) ↔ k = 0 := by
  rw [show (0 : Int32) = nI 0 from rfl, nI_leI (by omega) (by omega)]
  omega
theorem ok_isB {q : Option (Int32 × AH)} {P : Int32 × AH → Prop} (h : Ok q (fun z => (z.1 = 0 ∨ z.1 = 1) ∧ P z)) : Ok (bind2 q fun r h => if isB r = true then some (r, h) else none) P := by
  refine ok_b2 h (fun v h2 hh => ?_)
  have hv : isB v = true := by
    rcases hh.1 with q | q
    · rw [show v = 0 from q]; decide
    · rw [show v = 1 from q]; decide
  exact ok_t hv (ok_some hh.2)
theorem YS01 {o : Option Y} {q : Int32 × AH} (h : YS o q) : q.1 = 0 ∨ q.1 = 1 := by
  cases o with
  | none => exact Or.inl h
  | some y => exact Or.inr h.1
theorem c_dig {h : AH} {b : Int32} {C W : List Int32} {d : Int32} {k j : Nat} {κ : Bool} (H : YR h (C, W, d, k, j, false, κ)) (hb : C.length + W.length < 120) : Ok (fX4_takesDigit b h) (fun q => YS (if k = 0 then none else some (C.set j (C.getD j 0 * 10 + (b - 48)), W, d, k - 1, j, false, κ)) q ∧ Fr SY h q.2) := by
  obtain ⟨T, e3, V, e4, e5, e6, e7, e8, hk⟩ := H
  unfold fX4_takesDigit
  rw [e5]
  by_cases k0 : k = 0
  · rw [if_pos k0]
    exact ok_t ((nI_0lt (by omega)).2 k0) (ok_some ⟨rfl, Fr.rf⟩)
  · rw [if_neg k0]
    obtain ⟨a1, a2⟩ := e6 (by omega)
    refine ok_f (fun z => k0 ((nI_0lt (by omega)).1 z)) ?_
    rw [a1]
    refine ok_t (by rw [show (121 : Int32) = nI 121 from rfl, nI_ltI (by omega) (by omega)]; omega) (ok_let ?_)
    have ek : nI k - 1 = nI (k - 1) := by
      obtain ⟨k, rfl⟩ : ∃ k', k = k' + 1 := ⟨k - 1, by omega⟩
      exact nI_s1 (by omega)
    rw [ek]
    have F1 : Fr (fun o k => o = 12 ∧ k = 5) h (wI h 12 5 (nI (k - 1))) := Fr.rf.w ⟨rfl, rfl⟩
    have v5 : (wI h 12 5 (nI (k - 1))).1 12 5 = nI (k - 1) := by rw [wI_rd, if_pos ⟨rfl, rfl⟩]
    revert F1 v5
    generalize wI h 12 5 (nI (k - 1)) = h1
    intro F1 v5
    rw [F1.1 12 6 (by omega), a1]
    refine ok_t (inb_nI (by omega) (by decide)) (ok_let (ok_some ⟨⟨rfl, ?_⟩, (F1.mono (fun o k q => by unfold SY; omega)).w (by unfold SY; omega)⟩))
    rw [ix_nI (by omega), F1.1 13 j (by omega), T.2 j a2]
    have G : Fr (fun o k => o = 13) h1 (wI h1 13 j (C.getD j 0 * 10 + (b - 48))) := Fr.rf.w rfl
    refine ⟨⟨?_, fun i hi => ?_⟩, ?_, (V.fr F1 (fun o k q => by omega)).fr G (fun o k q => by omega), ?_, ?_, fun hk => ⟨?_, ?_⟩, ?_, ?_, by omega⟩
    · rw [G.1 12 1 (by omega), F1.1 12 1 (by omega), List.length_set]; exact T.1
    · rw [List.length_set] at hi
      rw [wI_rd, gD_set hi]
      by_cases q : i = j
      · rw [if_pos ⟨rfl, q⟩, if_pos q]
      · rw [if_neg (fun z => q z.2), if_neg q, F1.1 13 i (by omega)]; exact T.2 i hi
    · rw [G.1 12 3 (by omega), F1.1 12 3 (by omega)]; exact e3
    · rw [G.1 12 4 (by omega), F1.1 12 4 (by omega)]; exact e4
    · rw [G.1 12 5 (by omega)]; exact v5
    · rw [G.1 12 6 (by omega), F1.1 12 6 (by omega)]; exact a1
    · rw [List.length_set]; exact a2
    · rw [G.1 12 7 (by omega), F1.1 12 7 (by omega)]; exact e7
    · rw [G.1 12 8 (by omega), F1.1 12 8 (by omega)]; exact e8
theorem c_cls {h : AH} {C W : List Int32} {d : Int32} {k j : Nat} {κ : Bool} (H : YR h (C, W, d, k, j, false, κ)) (hb : C.length + W.length < 120) : Ok (fX4_closes h) (fun q => YS (yCls C W d j κ (rst 1 W)) q ∧ Fr SY h q.2) := by
  obtain ⟨T, e3, V, e4, e5, e6, e7, e8, hk⟩ := H
  unfold fX4_closes
  refine ok_b2 (c_release (r := 1) (by omega) T e3 V (by omega) (by omega)) (fun v h1 hh => ?_)
  obtain ⟨g1, g2, g3, g4, F1⟩ := hh
  have hl := out_len 1 W
  have g3 : h1.1 12 3 = nI (rst 1 W).length := g3
  have F1 : Fr Zr h h1 := F1
  rw [g3]
  have g4 : WtR h1 (rst 1 W) := g4
  have g2 : CodeR h1 (C ++ out 1 W) := g2
  obtain ⟨Z, hZ⟩ : ∃ Z, Z = rst 1 W := ⟨_, rfl⟩
  rw [← hZ] at g3 g4 hl ⊢
  cases Z with
  | nil => exact ok_t rfl (ok_some ⟨rfl, F1.mono (fun o k q => by unfold SY; unfold Zr at q; omega)⟩)
  | cons x Z =>
    have hz : (x :: Z).length = Z.length + 1 := rfl
    rw [hz] at hl ⊢
    refine ok_f (nI_ne0 (by omega) (by omega)) (ok_let (ok_let ?_))
    rw [nI_s1 (by omega)]
    have r4 : (wI h1 12 3 (nI Z.length)).1 12 4 = d := by rw [wI_rd, if_neg (by omega), F1.1 12 4 (by unfold Zr; omega)]; exact e4
    rw [r4]
    have F2 : Fr (fun o k => o = 12 ∧ (k = 3 ∨ k = 4)) h1 (wI (wI h1 12 3 (nI Z.length)) 12 4 (d - 1)) := (Fr.rf.w ⟨rfl, Or.inl rfl⟩).w ⟨rfl, Or.inr rfl⟩
    have v3 : (wI (wI h1 12 3 (nI Z.length)) 12 4 (d - 1)).1 12 3 = nI Z.length := by rw [wI_rd, if_neg (by omega), wI_rd, if_pos ⟨rfl, rfl⟩]
    have v4 : (wI (wI h1 12 3 (nI Z.length)) 12 4 (d - 1)).1 12 4 = d - 1 := by rw [wI_rd, if_pos ⟨rfl, rfl⟩]
    revert F2 v3 v4
    generalize wI (wI h1 12 3 (nI Z.length)) 12 4 (d - 1) = h2
    intro F2 v3 v4
    refine ok_bV (c_endOp (k := 0) (j := j) (d := d - 1) (κ := κ) (wv := 0) (by omega) (g2.fr F2 (fun o k q => by omega)) v3 ((WtR_tl g4).fr F2 (fun o k q => by omega)) v4 (fun q => absurd q (by omega)) ?_ ?_ (by omega)) (fun h3 hh => ok_some ⟨⟨rfl, hh.1⟩, ((F1.mono (fun o k q => by unfold SY; unfold Zr at q; omega)).tr (F2.mono (fun o k q => by unfold SY; omega))).tr hh.2⟩)
    · rw [F2.1 12 8 (by omega), F1.1 12 8 (by unfold Zr; omega)]; exact e8
    · rw [List.length_append]; omega
