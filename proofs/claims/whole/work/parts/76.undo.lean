/-! undo, redo -/
def SU (o k : Nat) : Prop := (1 ≤ o ∧ o ≤ 10) ∨ (38 ≤ o ∧ o ≤ 42) ∨ (62 ≤ o ∧ o ≤ 64) ∨ (o = 59 ∧ (k = 7 ∨ k = 8)) ∨ o = 60
theorem inv_chg {n m B : Nat} {num' sl' : Nat → Nat → Int32} {mn' : Int32} {Λ : LawF} {h h2 : AH} (O : Oth h n m B Λ) (T2 : TI h2 n m num' sl' mn') (F : Fr SU h h2) (G : Chg h2 n m) : Inv h2 := by
  obtain ⟨oa, ob, oc, od, oe, og, oh, oi, oj, ol⟩ := O
  exact ⟨n, m, B, num', sl', mn', Λ, T2, oa.fr F (fun o k q z => by unfold SU at z; omega), ob.fr F (fun o k q z => by unfold SU at z; omega), oc.fr (Nat.le_refl n) F (fun o k q z => by unfold SU at z; omega), G, oe.fr F (fun o k q z => by unfold SU at z; omega), fun s hs => (og s hs).fr (Nat.le_refl B) hs F (fun o k q z => by unfold SU at z; omega), oh.fr F (fun o k q z => by unfold SU at z; omega), oi.fr F (fun o k q z => by unfold SU at z; omega), oj.fr F (fun o k q z => by unfold SU at z; omega), ol⟩
theorem nI_s1 {i : Nat} (h : i + 1 < 2 ^ 30) : nI (i + 1) - 1 = nI i := by rw [← nI_m1 h, Int32.sub_eq_add_neg]
theorem cput_rd {h : AH} {a w o k : Nat} {v : Int32} (hw : w < 9) (ho : ¬ (1 ≤ o ∧ o ≤ 10)) : (cput h a w v).1 o k = h.1 o k := by
  have F := cput_fr (S := fun o k => 1 ≤ o ∧ o ≤ 10) (h := h) (h1 := h) (a := a) (w := w) (v := v) Fr.rf (fun o k q => q) hw
  exact F.1 o k ho
theorem c_setN {h : AH} {n m a w : Nat} {num sl : Nat → Nat → Int32} {mn v : Int32} (hn : n ≤ 9) (hm : m ≤ 12) (C : CT h n m num sl mn) (hv : vld n m a w) : fX7_setNumber 1 (nI a) (nI w) v h = some (cput h a w v) := by
  rw [c_setNumber (Or.inl rfl) C.1.1 C.1.2.1 hn (by omega) hv]
  rfl
theorem op_undo : Sim fX9_undo fX10_undo := by
  refine sim_of (fun n m B num sl mn Λ h T O => ?_)
  have hn9 := T.n9
  have hm12 := T.m12
  obtain ⟨d, kn, c1, c2, c3, c4, c5, c6, c7⟩ := O.2.2.2.1
  by_cases d0 : d = 0
  · refine deed_no (v := -5) T O ?_ ?_
    · unfold fX9_undo fX0_stepBack
      rw [c3, d0, if_neg (by decide)]
      rfl
    · unfold fX10_undo
      rw [c5, d0, if_pos (show nI 0 = (0 : Int32) from rfl)]
  · obtain ⟨i, rfl⟩ : ∃ i, d = i + 1 := ⟨d - 1, by omega⟩
    obtain ⟨a, w, g1, g2, g3, g4, g5, g6, g7, g8⟩ := c7 i (by omega)
    have hw : w < 9 := by unfold vld at g3; omega
    unfold fX9_undo fX0_stepBack
    rw [c3, if_pos (by rw [show (0 : Int32) = nI 0 from rfl, nI_ltI (by omega) (by omega)]; omega), nI_s1 (by omega)]
    have F1 : Fr (fun o k => o = 38 ∧ k = 5) h (wI h 38 5 (nI i)) := Fr.rf.w ⟨rfl, rfl⟩
    have v1 : (wI h 38 5 (nI i)).1 38 5 = nI i := by rw [wI_rd, if_pos ⟨rfl, rfl⟩]
    show Ok (bind2 (if inb ((wI h 38 5 (nI i)).1 38 5) 40 = true then bindV (fX7_setNumber 1 ((wI h 38 5 (nI i)).1 39 (ix ((wI h 38 5 (nI i)).1 38 5))) ((wI h 38 5 (nI i)).1 40 (ix ((wI h 38 5 (nI i)).1 38 5))) ((wI h 38 5 (nI i)).1 41 (ix ((wI h 38 5 (nI i)).1 38 5))) (wI h 38 5 (nI i))) fun h8_ => some ((h8_.1 38 5), h8_) else none) fun r1_ h2_ => some (r1_, h2_)) _
    rw [v1, if_pos (inb_nI (by omega) (by decide)), ix_nI (by omega)]
    revert F1 v1
    generalize wI h 38 5 (nI i) = h1
    intro F1 v1
    rw [F1.1 39 i (by omega), F1.1 40 i (by omega), F1.1 41 i (by omega), g1, g2]
    have C1 : CT h1 n m num sl mn := T.ct.fr F1 (fun o k q z => by omega)
    rw [c_setN hn9 hm12 C1 g3, bV_some, b2_some, cput_rd hw (by omega), v1]
    refine ok_some ?_
    show Ok (fX10_undo (cput h1 a w (h.1 41 i))) _
    have C2 := CT_put (v := h.1 41 i) C1 g3
    have F2 : Fr SU h (cput h1 a w (h.1 41 i)) := cput_fr (F1.mono (fun o k q => by unfold SU; omega)) (fun o k q => by unfold SU; omega) hw
    have F2' : Fr (fun o k => (o = 38 ∧ k = 5) ∨ (1 ≤ o ∧ o ≤ 10)) h (cput h1 a w (h.1 41 i)) := cput_fr (F1.mono (fun o k q => Or.inl q)) (fun o k q => Or.inr q) hw
    have v2 : (cput h1 a w (h.1 41 i)).1 38 5 = nI i := by rw [cput_rd hw (by omega)]; exact v1
    revert C2 F2 F2' v2
    generalize cput h1 a w (h.1 41 i) = h2
    intro C2 F2 F2' v2
    have M2 : MT h2 n m num sl mn := T.mt.fr F2' (fun o k q z => by omega)
    unfold fX10_undo
    have q7 : h2.1 59 7 = nI (i + 1) := by rw [F2'.1 59 7 (by omega)]; exact c5
    rw [q7, if_neg (nI_ne0 (by omega) (by omega)), nI_s1 (by omega)]
    have F3 : Fr (fun o k => o = 59 ∧ k = 7) h2 (wI h2 59 7 (nI i)) := Fr.rf.w ⟨rfl, rfl⟩
    have v3 : (wI h2 59 7 (nI i)).1 59 7 = nI i := by rw [wI_rd, if_pos ⟨rfl, rfl⟩]
    refine ok_let ?_
    rw [v3, if_pos (inb_nI (by omega) (by decide)), ix_nI (by omega)]
    revert F3 v3
    generalize wI h2 59 7 (nI i) = h3
    intro F3 v3
    have hl := plc_lt hn9 hm12 g3
    rw [F3.1 62 i (by omega), F3.1 63 i (by omega), F2'.1 62 i (by omega), F2'.1 63 i (by omega), g4, g5, if_pos (inb_nI hl (by decide)), ix_nI (show plc a w < 2 ^ 31 by omega)]
    refine ok_let (ok_some ⟨?_, ?_⟩)
    · show nI i = (wI h3 60 (plc a w) (h.1 41 i)).1 59 7
      rw [wI_rd, if_neg (by omega)]; exact v3.symm
    · show Inv (wI h3 60 (plc a w) (h.1 41 i))
      have M3 : MT h3 n m num sl mn := M2.fr F3 (fun o k q z => by omega)
      have M4 := MT_put (v := h.1 41 i) hn9 hm12 M3 g3
      have F4 : Fr (fun o k => (o = 59 ∧ k = 7) ∨ o = 60) h2 (wI h3 60 (plc a w) (h.1 41 i)) := (F3.mono (fun o k q => Or.inl q)).w (Or.inr rfl)
      have C4 := C2.fr F4 (fun o k q z => by omega)
      have F : Fr SU h (wI h3 60 (plc a w) (h.1 41 i)) := F2.tr (F4.mono (fun o k q => by unfold SU; omega))
      have v4 : (wI h3 60 (plc a w) (h.1 41 i)).1 59 7 = nI i := by rw [wI_rd, if_neg (by omega)]; exact v3
      refine inv_chg O (TI_of (WF_put T.1 g3 g7) C4 M4) F ⟨i, kn, by omega, c2, ?_, ?_, v4, ?_, fun j hj => ?_⟩
      · rw [F4.1 38 5 (by omega)]; exact v2
      · rw [F4.1 38 4 (by omega), F2'.1 38 4 (by omega)]; exact c4
      · rw [F4.1 59 8 (by omega), F2'.1 59 8 (by omega)]; exact c6
      · exact (c7 j hj).fr (Nat.le_refl n) (Nat.le_refl m) ((F2'.mono (fun o k q => Or.inl q)).tr (F4.mono (fun o k q => Or.inr q))) (fun o k q z => by omega)
theorem op_redo : Sim fX9_redo fX10_redo := by
  refine sim_of (fun n m B num sl mn Λ h T O => ?_)
  have hn9 := T.n9
  have hm12 := T.m12
  obtain ⟨i, kn, c1, c2, c3, c4, c5, c6, c7⟩ := O.2.2.2.1
  by_cases d0 : i = kn
  · refine deed_no (v := -5) T O ?_ ?_
    · unfold fX9_redo fX0_stepOn
      rw [c3, c4, if_neg (by rw [nI_ltI (by omega) (by omega)]; omega)]
      rfl
    · unfold fX10_redo
      rw [c5, c6, if_pos (by rw [d0])]
  · obtain ⟨a, w, g1, g2, g3, g4, g5, g6, g7, g8⟩ := c7 i (by omega)
    have hw : w < 9 := by unfold vld at g3; omega
    unfold fX9_redo fX0_stepOn
    rw [c3, c4, if_pos (by rw [nI_ltI (by omega) (by omega)]; omega), if_pos (inb_nI (by omega) (by decide)), ix_nI (by omega), g1, g2, c_setN hn9 hm12 T.ct g3, bV_some]
    have w5 : (cput h a w (h.1 42 i)).1 38 5 = nI i := by rw [cput_rd hw (by omega)]; exact c3
    have w4 : (cput h a w (h.1 42 i)).1 38 4 = nI kn := by rw [cput_rd hw (by omega)]; exact c4
    have C2 := CT_put (v := h.1 42 i) T.ct g3
    have F2 : Fr (fun o k => 1 ≤ o ∧ o ≤ 10) h (cput h a w (h.1 42 i)) := cput_fr Fr.rf (fun o k q => q) hw
    revert w5 w4 C2 F2
    generalize cput h a w (h.1 42 i) = h2
    intro w5 w4 C2 F2
    show Ok (some ((wI h2 38 5 (h2.1 38 5 + 1)).1 38 4 - (wI h2 38 5 (h2.1 38 5 + 1)).1 38 5, wI h2 38 5 (h2.1 38 5 + 1))) _
    rw [w5, nI_1]
    refine ok_some ?_
    show Ok (fX10_redo (wI h2 38 5 (nI (i + 1)))) _
    have F3 : Fr (fun o k => (o = 38 ∧ k = 5) ∨ (1 ≤ o ∧ o ≤ 10)) h (wI h2 38 5 (nI (i + 1))) := (F2.mono (fun o k q => Or.inr q)).w (Or.inl ⟨rfl, rfl⟩)
    have C3 : CT (wI h2 38 5 (nI (i + 1))) n m (nuP num a w (h.1 42 i)) (slP sl a w (h.1 42 i)) (mnP mn w (h.1 42 i)) := C2.fr (S := fun o k => o = 38 ∧ k = 5) (Fr.rf.w ⟨rfl, rfl⟩) (fun o k q z => by omega)
    have v5 : (wI h2 38 5 (nI (i + 1))).1 38 5 = nI (i + 1) := by rw [wI_rd, if_pos ⟨rfl, rfl⟩]
    have v4 : (wI h2 38 5 (nI (i + 1))).1 38 4 = nI kn := by rw [wI_rd, if_neg (by omega)]; exact w4
    rw [v5, v4]
    revert F3 C3 v5 v4
    generalize wI h2 38 5 (nI (i + 1)) = h3
    intro F3 C3 v5 v4
    have M3 : MT h3 n m num sl mn := T.mt.fr F3 (fun o k q z => by omega)
    unfold fX10_redo
    have hl := plc_lt hn9 hm12 g3
    have q7 : h3.1 59 7 = nI i := by rw [F3.1 59 7 (by omega)]; exact c5
    have q8 : h3.1 59 8 = nI kn := by rw [F3.1 59 8 (by omega)]; exact c6
    rw [q7, q8, if_neg (by rw [nI_eq (by omega) (by omega)]; exact d0), if_pos (inb_nI (by omega) (by decide)), ix_nI (show i < 2 ^ 31 by omega), F3.1 62 i (by omega), F3.1 64 i (by omega), g4, g6, if_pos (inb_nI hl (by decide)), ix_nI (show plc a w < 2 ^ 31 by omega)]
    have M4 := MT_put (v := h.1 42 i) hn9 hm12 M3 g3
    have F4 : Fr (fun o k => o = 60) h3 (wI h3 60 (plc a w) (h.1 42 i)) := Fr.rf.w rfl
    refine ok_let ?_
    revert M4 F4
    generalize wI h3 60 (plc a w) (h.1 42 i) = h4
    intro M4 F4
    have r7 : h4.1 59 7 = nI i := by rw [F4.1 59 7 (by omega)]; exact q7
    have r8 : h4.1 59 8 = nI kn := by rw [F4.1 59 8 (by omega)]; exact q8
    rw [r7, nI_1]
    refine ok_let (ok_some ⟨?_, ?_⟩)
    · show nI kn - nI (i + 1) = (wI h4 59 7 (nI (i + 1))).1 59 8 - (wI h4 59 7 (nI (i + 1))).1 59 7
      rw [wI_rd, if_neg (by omega), wI_rd, if_pos ⟨rfl, rfl⟩, r8]
    · show Inv (wI h4 59 7 (nI (i + 1)))
      have F5 : Fr (fun o k => (o = 59 ∧ k = 7) ∨ o = 60) h3 (wI h4 59 7 (nI (i + 1))) := (F4.mono (fun o k q => Or.inr q)).w (Or.inl ⟨rfl, rfl⟩)
      have M5 : MT (wI h4 59 7 (nI (i + 1))) n m (nuP num a w (h.1 42 i)) (slP sl a w (h.1 42 i)) (mnP mn w (h.1 42 i)) := M4.fr (S := fun o k => o = 59 ∧ k = 7) (Fr.rf.w ⟨rfl, rfl⟩) (fun o k q z => by omega)
      have C5 := C3.fr F5 (fun o k q z => by omega)
      have v7 : (wI h4 59 7 (nI (i + 1))).1 59 7 = nI (i + 1) := by rw [wI_rd, if_pos ⟨rfl, rfl⟩]
      have F : Fr SU h (wI h4 59 7 (nI (i + 1))) := (F3.mono (fun o k q => by unfold SU; omega)).tr (F5.mono (fun o k q => by unfold SU; omega))
      refine inv_chg O (TI_of (WF_put T.1 g3 g8) C5 M5) F ⟨i + 1, kn, by omega, c2, ?_, ?_, v7, ?_, fun j hj => ?_⟩
      · rw [F5.1 38 5 (by omega)]; exact v5
      · rw [F5.1 38 4 (by omega)]; exact v4
      · rw [F5.1 59 8 (by omega)]; exact q8
      · exact (c7 j hj).fr (Nat.le_refl n) (Nat.le_refl m) ((F3.mono (fun o k q => Or.inl q)).tr (F5.mono (fun o k q => Or.inr q))) (fun o k q z => by omega)
