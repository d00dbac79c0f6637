/-! one number is laid -/
def nuP (num : Nat → Nat → Int32) (a w : Nat) (v : Int32) : Nat → Nat → Int32 := if w < 6 then setN num a w v else num
def slP (sl : Nat → Nat → Int32) (a w : Nat) (v : Int32) : Nat → Nat → Int32 := if w = 6 ∨ w = 7 then setN sl a (w - 6) v else sl
def mnP (mn : Int32) (w : Nat) (v : Int32) : Int32 := if w = 8 then v else mn
def cput (h : AH) (a w : Nat) (v : Int32) : AH := if w = 8 then wI h 1 11 v else wI h (cadr 1 w) a v
theorem cput_fr {S : Nat → Nat → Prop} {h h1 : AH} {a w : Nat} {v : Int32} (F : Fr S h h1) (hS : ∀ o k, 1 ≤ o ∧ o ≤ 10 → S o k) (hw : w < 9) : Fr S h (cput h1 a w v) := by
  unfold cput
  by_cases c8 : w = 8
  · rw [if_pos c8]; exact F.w (hS _ _ (by omega))
  · rw [if_neg c8]
    refine F.w (hS _ _ ?_)
    unfold cadr
    split
    · omega
    · split
      · omega
      · split <;> omega
theorem CT_put {h : AH} {n m a w : Nat} {num sl : Nat → Nat → Int32} {mn v : Int32} (C : CT h n m num sl mn) (hv : vld n m a w) : CT (cput h a w v) n m (nuP num a w v) (slP sl a w v) (mnP mn w v) := by
  obtain ⟨⟨c1, c2, c3, c4, c5⟩, c6⟩ := C
  unfold vld at hv
  by_cases k8 : w = 8
  · have e1 : nuP num a w v = num := by unfold nuP; rw [if_neg (by omega)]
    have e2 : slP sl a w v = sl := by unfold slP; rw [if_neg (by omega)]
    have e3 : mnP mn w v = v := by unfold mnP; rw [if_pos k8]
    have e4 : cput h a w v = wI h 1 11 v := by unfold cput; rw [if_pos k8]
    rw [e1, e2, e3, e4]
    refine ⟨⟨?_, ?_, ?_, fun i hi => ?_, fun s hs => ?_⟩, fun i hi => ?_⟩
    · rw [wI_rd, if_neg (by omega)]; exact c1
    · rw [wI_rd, if_neg (by omega)]; exact c2
    · rw [wI_rd, if_pos ⟨rfl, rfl⟩]
    · simp only [wI_rd]; simp; exact c4 i hi
    · simp only [wI_rd]; simp; exact c5 s hs
    · rw [wI_rd, if_neg (by omega)]; exact c6 i hi
  · by_cases k6 : w < 6
    · have e1 : nuP num a w v = setN num a w v := by unfold nuP; rw [if_pos k6]
      have e2 : slP sl a w v = sl := by unfold slP; rw [if_neg (by omega)]
      have e3 : mnP mn w v = mn := by unfold mnP; rw [if_neg k8]
      have e4 : cput h a w v = wI h (2 + w) a v := by unfold cput cadr; rw [if_neg k8, if_pos k6]
      rw [e1, e2, e3, e4]
      have key : ∀ i j (x : Int32), j < 6 → h.1 (2 + j) i = num i j → (wI h (2 + w) a v).1 (2 + j) i = setN num a w v i j := by
        intro i j x hj hh
        rw [wI_rd]
        unfold setN
        by_cases e : i = a ∧ j = w
        · rw [if_pos (by omega), if_pos e]
        · rw [if_neg (by omega), if_neg e]; exact hh
      refine ⟨⟨?_, ?_, ?_, fun i hi => ?_, fun s hs => ?_⟩, fun i hi => ?_⟩
      · rw [wI_rd, if_neg (by omega)]; exact c1
      · rw [wI_rd, if_neg (by omega)]; exact c2
      · rw [wI_rd, if_neg (by omega)]; exact c3
      · obtain ⟨d0, d1, d2, d3, d5⟩ := c4 i hi
        exact ⟨key i 0 0 (by omega) d0, key i 1 0 (by omega) d1, key i 2 0 (by omega) d2, key i 3 0 (by omega) d3, key i 5 0 (by omega) d5⟩
      · rw [wI_rd, if_neg (by omega), wI_rd, if_neg (by omega), wI_rd, if_neg (by omega)]; exact c5 s hs
      · exact key i 4 0 (by omega) (c6 i hi)
    · have e1 : nuP num a w v = num := by unfold nuP; rw [if_neg k6]
      have e2 : slP sl a w v = setN sl a (w - 6) v := by unfold slP; rw [if_pos (by omega)]
      have e3 : mnP mn w v = mn := by unfold mnP; rw [if_neg k8]
      have e4 : cput h a w v = wI h (w + 3) a v := by
        unfold cput cadr
        rw [if_neg k8, if_neg k6]
        by_cases q : w = 6
        · rw [if_pos q, q]
        · rw [if_neg q, if_pos (by omega), show w = 7 by omega]
      rw [e1, e2, e3, e4]
      refine ⟨⟨?_, ?_, ?_, fun i hi => ?_, fun s hs => ?_⟩, fun i hi => ?_⟩
      · rw [wI_rd, if_neg (by omega)]; exact c1
      · rw [wI_rd, if_neg (by omega)]; exact c2
      · rw [wI_rd, if_neg (by omega)]; exact c3
      · rw [wI_rd, if_neg (by omega), wI_rd, if_neg (by omega), wI_rd, if_neg (by omega), wI_rd, if_neg (by omega), wI_rd, if_neg (by omega)]; exact c4 i hi
      · obtain ⟨s2, s0, s1⟩ := c5 s hs
        refine ⟨?_, ?_, ?_⟩
        · rw [wI_rd, if_neg (by omega), setN_ne (by omega)]; exact s2
        · rw [wI_rd]
          unfold setN
          by_cases e : s = a ∧ 0 = w - 6
          · rw [if_pos (by omega), if_pos e]
          · rw [if_neg (by omega), if_neg e]; exact s0
        · rw [wI_rd]
          unfold setN
          by_cases e : s = a ∧ 1 = w - 6
          · rw [if_pos (by omega), if_pos e]
          · rw [if_neg (by omega), if_neg e]; exact s1
      · rw [wI_rd, if_neg (by omega)]; exact c6 i hi
theorem MT_put {h : AH} {n m a w : Nat} {num sl : Nat → Nat → Int32} {mn v : Int32} (hn : n ≤ 9) (hm : m ≤ 12) (M : MT h n m num sl mn) (hv : vld n m a w) : MT (wI h 60 (plc a w) v) n m (nuP num a w v) (slP sl a w v) (mnP mn w v) := by
  obtain ⟨m1, m2, m3, m4, m5, m6⟩ := M
  unfold vld at hv
  refine ⟨by rw [wI_rd, if_neg (by omega)]; exact m1, fun i hi k hk => ?_, ?_, by rw [wI_rd, if_neg (by omega)]; exact m4, by rw [wI_rd, if_neg (by omega)]; exact m5, fun s hs j hj => ?_⟩
  · rw [wI_rd]
    unfold nuP plc setN
    by_cases k8 : w = 8
    · rw [if_pos k8, if_neg (by omega), if_neg (by omega)]; exact m2 i hi k hk
    · rw [if_neg k8]
      by_cases k6 : w = 6 ∨ w = 7
      · rw [if_pos k6, if_neg (by omega), if_neg (by omega)]; exact m2 i hi k hk
      · rw [if_neg k6, if_pos (show w < 6 by omega)]
        by_cases e : i = a ∧ k = w
        · rw [if_pos (by omega), if_pos e]
        · rw [if_neg (by omega), if_neg e]; exact m2 i hi k hk
  · rw [wI_rd]
    unfold mnP plc
    by_cases k8 : w = 8
    · rw [if_pos k8, if_pos ⟨rfl, rfl⟩, if_pos k8]
    · rw [if_neg k8, if_neg k8]
      by_cases k6 : w = 6 ∨ w = 7
      · rw [if_pos k6, if_neg (by omega)]; exact m3
      · rw [if_neg k6, if_neg (by omega)]; exact m3
  · rw [wI_rd]
    unfold slP plc setN
    by_cases k8 : w = 8
    · rw [if_pos k8, if_neg (by omega), if_neg (by omega)]; exact m6 s hs j hj
    · rw [if_neg k8]
      by_cases k6 : w = 6 ∨ w = 7
      · rw [if_pos k6, if_pos k6]
        by_cases e : s = a ∧ j = w - 6
        · rw [if_pos (by omega), if_pos e]
        · rw [if_neg (by omega), if_neg e]; exact m6 s hs j hj
      · rw [if_neg k6, if_neg (by omega), if_neg k6]; exact m6 s hs j hj
theorem WF_put {n m a w : Nat} {num sl : Nat → Nat → Int32} {mn v : Int32} (W : WF n m num sl mn) (hv : vld n m a w) (hr : rgK w v) : WF n m (nuP num a w v) (slP sl a w v) (mnP mn w v) := by
  obtain ⟨w1, w2, w3, w4, w5⟩ := W
  unfold vld at hv
  refine ⟨w1, w2, fun i hi k hk => ?_, fun s hs => ?_, ?_⟩
  · unfold nuP setN
    by_cases k6 : w < 6
    · rw [if_pos k6]
      by_cases e : i = a ∧ k = w
      · rw [if_pos e, e.2]; exact hr
      · rw [if_neg e]; exact w3 i hi k hk
    · rw [if_neg k6]; exact w3 i hi k hk
  · obtain ⟨h0, h1, j, h2, h3⟩ := w4 s hs
    unfold slP
    by_cases k6 : w = 6 ∨ w = 7
    · rw [if_pos k6]
      refine ⟨?_, ?_, j, h2, ?_⟩
      · unfold setN
        by_cases e : s = a ∧ 0 = w - 6
        · rw [if_pos e]; rw [show w = 6 by omega] at hr; exact hr
        · rw [if_neg e]; exact h0
      · unfold setN
        by_cases e : s = a ∧ 1 = w - 6
        · rw [if_pos e]; rw [show w = 7 by omega] at hr; exact hr
        · rw [if_neg e]; exact h1
      · rw [setN_ne (by omega)]; exact h3
    · rw [if_neg k6]; exact ⟨h0, h1, j, h2, h3⟩
  · unfold mnP
    by_cases k8 : w = 8
    · rw [if_pos k8]; rw [k8] at hr; exact hr
    · rw [if_neg k8]; exact w5
theorem led_c {h h2 : AH} {k0 : Nat} {v : Int32} (e : ∀ k, k < 5 → h2.1 32 k = (wI h 32 k0 v).1 32 k) : ∀ k, k < 5 → h2.1 32 k = ledU (fun k => h.1 32 k) k0 v k := by
  intro k hk
  rw [e k hk, wI_rd]
  unfold ledU
  by_cases q : k = k0
  · rw [if_pos ⟨rfl, q⟩, if_pos q]
  · rw [if_neg (fun z => q z.2), if_neg q]
theorem led_m {h h1 h2 : AH} {k0 : Nat} {v : Int32} (l : ∀ k, k < 5 → h1.1 79 k = h.1 32 k) (e : ∀ k, k < 5 → h2.1 79 k = (wI h1 79 k0 v).1 79 k) : ∀ k, k < 5 → h2.1 79 k = ledU (fun k => h.1 32 k) k0 v k := by
  intro k hk
  rw [e k hk, wI_rd]
  unfold ledU
  by_cases q : k = k0
  · rw [if_pos ⟨rfl, q⟩, if_pos q]
  · rw [if_neg (fun z => q z.2), if_neg q, l k hk]
theorem led_o {h h1 : AH} {n m B : Nat} {Λ : LawF} (O : Oth h n m B Λ) (F1 : Fr SC h h1) : ∀ k, k < 5 → h1.1 79 k = h.1 32 k := fun k hk => by
  rw [F1.1 79 k (by unfold SC Scr; omega), O.2.1 k hk]
theorem rgN {k : Nat} {v : Int32} (a b : Int) (e1 : (ST 200 k).toInt = a) (e2 : (ST 201 k).toInt = b) : rgK k v ↔ a ≤ v.toInt ∧ v.toInt ≤ b := by unfold rgK; rw [e1, e2]
theorem op_looks (g v : Int32) : Sim (fX9_looks g v) (fX10_looks g v) := by
  have e0 : (0 : Int32).toInt = 0 := by decide
  have e9 : (9 : Int32).toInt = 9 := by decide
  have s1 : (ST 200 2).toInt = 0 := by decide +kernel
  have s2 : (ST 201 2).toInt = 9 := by decide +kernel
  refine sim_of (fun n m B num sl mn Λ h T O => ?_)
  have hn9 := T.n9
  have hm12 := T.m12
  by_cases c1 : 0 ≤ g.toInt ∧ g.toInt < n
  · by_cases c2 : 0 ≤ v.toInt ∧ v.toInt ≤ 9
    · obtain ⟨eg, hg⟩ := nI_of_rg (a := 9) c1.1 (by omega) (by decide)
      obtain ⟨j, ej⟩ : ∃ j, j = g.toInt.toNat := ⟨_, rfl⟩
      rw [← ej] at eg hg
      have hj : j < n := by omega
      by_cases c3 : num j 5 = 0
      · have hvl : vld n m j 2 := by unfold vld; omega
        refine deed_ok (n' := n) (m' := m) (num' := nuP num j 2 v) (sl' := slP sl j 2 v) (mn' := mnP mn 2 v) (v := num j 2) (L := ledU (fun k => h.1 32 k) 3 (h.1 32 3 + 1)) O (WF_put T.1 hvl ((rgN 0 9 s1 s2).mpr c2)) (Nat.le_refl n) (Nat.le_refl m) ?_ (fun h1 F1 => ?_)
        · unfold fX9_looks
          rw [c_hasGuest T.c.1 hn9, b2_some, if_pos c1, if_neg (by decide), c_isWithin (K := 2) (k := 2) rfl (by decide), b2_some, s1, s2, if_pos c2, if_neg (by decide), eg, c_isLeft (Or.inl rfl) hn9 T.c hj, b2_some, if_pos c3, if_neg (by decide), ix3]
          refine ok_let (ok_t (inb_nI (by omega) (by decide)) (ok_let (ok_let ?_)))
          rw [ix_nI (by omega)]
          have C1 : CT (wI h 32 3 (h.1 32 3 + 1)) n m num sl mn := T.ct.fr (S := fun o k => o = 32) (Fr.rf.w rfl) (fun o k q z => by omega)
          refine ok_some ⟨?_, CT_put C1 hvl, led_c (fun k hk => ?_), (Fr.rf.w (by unfold SC; omega)).w (by unfold SC; omega)⟩
          · show (wI h 32 3 (h.1 32 3 + 1)).1 4 j = num j 2
            exact (C1.1.2.2.2.1 j hj).2.2.1
          · rw [wI_rd (wI h 32 3 _), if_neg (by omega)]
        · have M1 := T.mt.sc F1
          have l1 := led_o O F1
          unfold fX10_looks
          rw [m_isGuest M1.1 hn9, b2_some, if_pos c1, if_neg (by decide), m_isIn, b2_some, e0, e9, if_pos c2, if_neg (by decide), eg, m_isHere (by omega), b2_some, M1.2.1 j hj 5 (by decide), if_pos c3, if_neg (by decide), m_number (K := 2) (k := 2) rfl (by omega) (by decide), b2_some, m_change (K := 2) (k := 2) rfl (by omega) (by decide), bV_some, ix3]
          have M2 := MT_put (v := v) hn9 hm12 M1 hvl
          have ep : plc j 2 = 6 * j + 2 := by unfold plc; rw [if_neg (by omega), if_neg (by omega)]
          rw [ep] at M2
          refine ok_let (ok_some ⟨M1.2.1 j hj 2 (by decide), M2.fr (S := fun o k => o = 79) (Fr.rf.w rfl) (fun o k q z => by omega), led_m l1 (fun k hk => ?_), (Fr.rf.w (by unfold SM; omega)).w (by unfold SM; omega)⟩)
          rw [wI_rd, wI_rd, wI_rd, wI_rd, if_neg (show ¬ (79 = 60 ∧ 3 = 6 * j + 2) by omega), if_neg (show ¬ (79 = 60 ∧ k = 6 * j + 2) by omega), l1 3 (by omega)]
      · refine deed_no (v := -5) T O ?_ ?_
        · unfold fX9_looks
          rw [c_hasGuest T.c.1 hn9, b2_some, if_pos c1, if_neg (by decide), c_isWithin (K := 2) (k := 2) rfl (by decide), b2_some, s1, s2, if_pos c2, if_neg (by decide), eg, c_isLeft (Or.inl rfl) hn9 T.c hj, b2_some, if_neg c3, if_pos rfl]
        · unfold fX10_looks
          rw [m_isGuest T.m.1 hn9, b2_some, if_pos c1, if_neg (by decide), m_isIn, b2_some, e0, e9, if_pos c2, if_neg (by decide), eg, m_isHere (by omega), b2_some, T.m.2.1 j hj 5 (by decide), if_neg c3, if_pos rfl]
    · refine deed_no (v := -1) T O ?_ ?_
      · unfold fX9_looks
        rw [c_hasGuest T.c.1 hn9, b2_some, if_pos c1, if_neg (by decide), c_isWithin (K := 2) (k := 2) rfl (by decide), b2_some, s1, s2, if_neg c2, if_pos rfl]
      · unfold fX10_looks
        rw [m_isGuest T.m.1 hn9, b2_some, if_pos c1, if_neg (by decide), m_isIn, b2_some, e0, e9, if_neg c2, if_pos rfl]
  · refine deed_no (v := -1) T O ?_ ?_
    · unfold fX9_looks
      rw [c_hasGuest T.c.1 hn9, b2_some, if_neg c1, if_pos rfl]
    · unfold fX10_looks
      rw [m_isGuest T.m.1 hn9, b2_some, if_neg c1, if_pos rfl]
