/-! a slip comes -/
theorem WF_s {n m j : Nat} {num sl : Nat → Nat → Int32} {mn a w : Int32} (W : WF n m num sl mn) (hm : m < 12) (ha : rgK 6 a) (hw : rgK 7 w) (hj : j < n) : WF n (m + 1) num (slA m sl a w (nI j)) mn := by
  obtain ⟨w1, w2, w3, w4, w5⟩ := W
  refine ⟨w1, by omega, w3, fun s hs => ?_, w5⟩
  unfold slA
  by_cases e : s = m
  · rw [if_pos e, if_pos e, if_pos e]
    exact ⟨ha, hw, j, hj, rfl⟩
  · rw [if_neg e, if_neg e, if_neg e]; exact w4 s (by omega)
theorem c_addSlip {h : AH} {n m : Nat} {num sl : Nat → Nat → Int32} {mn a w g : Int32} (hm : m < 13) (C : CT h n m num sl mn) : Ok (fX7_addSlip 1 g a w h) (fun q => q.1 = nI m ∧ CT q.2 n (m + 1) num (slA m sl a w g) mn ∧ Fr (fun o k => (o = 1 ∧ k = 10) ∨ (8 ≤ o ∧ o ≤ 10)) h q.2) := by
  obtain ⟨⟨c1, c2, c3, c4, c5⟩, c6⟩ := C
  obtain ⟨r0, r1, r2, r3, r4, r5, r6, r7, r8⟩ := rfT (t := 1) (Or.inl rfl)
  unfold fX7_addSlip
  rw [c2, r6, r7, r8]
  refine ok_t (by rw [show (13 : Int32) = nI 13 from rfl, nI_ltI (by omega) (by omega)]; omega) (ok_let (ok_t (inb_nI (by omega) (by decide)) (ok_let (ok_let (ok_let (ok_let (ok_some ?_)))))))
  rw [ix_nI (by omega)]
  refine ⟨rfl, ⟨⟨?_, ?_, ?_, fun i hi => ?_, fun s hs => ?_⟩, fun i hi => ?_⟩, ?_⟩
  · simp [wI_rd]; exact c1
  · simp [wI_rd]; rw [c2, nI_1]
  · simp [wI_rd]; exact c3
  · simp [wI_rd]; exact c4 i hi
  · simp only [wI_rd]
    unfold slA
    by_cases e : s = m
    · subst e; simp
    · simp [e]; exact c5 s (by omega)
  · simp [wI_rd]; exact c6 i hi
  · exact (((Fr.rf.w (by omega)).w (by omega)).w (by omega)).w (by omega)
theorem m_addSlip {h : AH} {n m : Nat} {num sl : Nat → Nat → Int32} {mn a w g : Int32} (hn : n ≤ 9) (hm : m < 12) (M : MT h n m num sl mn) : Ok (fX10_addSlip g a w h) (fun q => q.1 = nI m ∧ MT q.2 n (m + 1) num (slA m sl a w g) mn ∧ Fr (fun o k => (o = 59 ∧ k = 3) ∨ o = 60) h q.2) := by
  obtain ⟨m1, m2, m3, m4, m5, m6⟩ := M
  unfold fX10_addSlip
  rw [m5]
  have ex : (54 : Int32) + 3 * nI m = nI (54 + 3 * m) := by rw [show (3 : Int32) = nI 3 from rfl, pk_mul, show (54 : Int32) = nI 54 from rfl, nI_add]
  have ex2 : nI (54 + 3 * m) + 2 = nI (54 + 3 * m + 2) := by rw [show (2 : Int32) = nI 2 from rfl, nI_add]
  rw [ex]
  refine ok_let ?_
  rw [nI_1, ex2]
  refine (ok_t (inb_nI (by omega) (by decide)) (ok_let (ok_t (inb_nI (by omega) (by decide)) (ok_let (ok_t (inb_nI (by omega) (by decide)) (ok_let (ok_let (ok_some ?_))))))))
  rw [ix_nI (show 54 + 3 * m < 2 ^ 31 by omega), ix_nI (show 54 + 3 * m + 1 < 2 ^ 31 by omega), ix_nI (show 54 + 3 * m + 2 < 2 ^ 31 by omega)]
  refine ⟨?_, ⟨?_, fun i hi k hk => ?_, ?_, ?_, ?_, fun s hs j hj => ?_⟩, ?_⟩
  · show (wI _ 59 3 _).1 59 3 - 1 = nI m
    rw [wI_rd, if_pos ⟨rfl, rfl⟩, wI_rd, if_neg (by omega), wI_rd, if_neg (by omega), wI_rd, if_neg (by omega), m5]
    simp
  · simp only [wI_rd]; simp; exact m1
  · simp only [wI_rd]
    rw [if_neg (by omega), if_neg (by omega), if_neg (by omega), if_neg (by omega)]
    exact m2 i hi k hk
  · simp only [wI_rd]
    rw [if_neg (by omega), if_neg (by omega), if_neg (by omega), if_neg (by omega)]
    exact m3
  · simp only [wI_rd]; simp; exact m4
  · simp only [wI_rd]; simp; rw [m5, nI_1]
  · simp only [wI_rd]
    unfold slA
    by_cases e : s = m
    · subst e
      have c : j = 0 ∨ j = 1 ∨ j = 2 := by omega
      rcases c with rfl | rfl | rfl <;> simp
    · rw [if_neg (by omega), if_neg (by omega), if_neg (by omega), if_neg (by omega), if_neg e]
      exact m6 s (by omega) j hj
  · exact (((Fr.rf.w (by omega)).w (by omega)).w (by omega)).w (by omega)
theorem op_slip (g a w : Int32) : Sim (fX9_slip g a w) (fX10_slip g a w) := by
  have e0 : (0 : Int32).toInt = 0 := by decide
  have e1 : (1 : Int32).toInt = 1 := by decide
  have e30 : (30 : Int32).toInt = 30 := by decide
  have e199 : (199 : Int32).toInt = 199 := by decide
  have s1 : (ST 200 6).toInt = 0 := by decide +kernel
  have s2 : (ST 201 6).toInt = 199 := by decide +kernel
  have s3 : (ST 200 7).toInt = 1 := by decide +kernel
  have s4 : (ST 201 7).toInt = 30 := by decide +kernel
  refine sim_of (fun n m B num sl mn Λ h T O => ?_)
  have hn9 := T.n9
  have hm12 := T.m12
  by_cases c0 : 0 ≤ g.toInt ∧ g.toInt < n
  · by_cases c1 : 0 ≤ a.toInt ∧ a.toInt ≤ 199
    · by_cases c2 : 1 ≤ w.toInt ∧ w.toInt ≤ 30
      · by_cases c3 : m < 12
        · obtain ⟨eg, hg⟩ := nI_of_rg (a := 9) c0.1 (by omega) (by decide)
          have hj : g.toInt.toNat < n := by omega
          have W := WF_s T.1 c3 ((rgN 0 199 s1 s2).mpr c1) ((rgN 1 30 s3 s4).mpr c2) hj
          rw [← eg] at W
          refine deed_ok (n' := n) (m' := m + 1) (v := nI m) (L := fun k => h.1 32 k) O W (Nat.le_refl n) (by omega) ?_ (fun h1 F1 => ?_)
          · unfold fX9_slip
            rw [c_hasGuest T.c.1 hn9, b2_some, if_pos c0, if_neg (by decide), c_isWithin (K := 6) (k := 6) rfl (by decide), b2_some, s1, s2, if_pos c1, if_neg (by decide), c_isWithin (K := 7) (k := 7) rfl (by decide), b2_some, s3, s4, if_pos c2, if_neg (by decide), T.c.2.1, if_pos (by rw [show (12 : Int32) = nI 12 from rfl, nI_ltI (by omega) (by omega)]; exact c3)]
            refine ok_b2 (c_addSlip (by omega) T.ct) (fun v h2 hh => ?_)
            obtain ⟨ev, C2, F2⟩ := hh
            exact ok_some ⟨ev, C2, fun k hk => F2.1 32 k (by omega), F2.mono (fun o k q => by unfold SC; omega)⟩
          · have M1 := T.mt.sc F1
            have l1 := led_o O F1
            unfold fX10_slip
            rw [m_isGuest M1.1 hn9, b2_some, if_pos c0, if_neg (by decide), m_isIn, b2_some, e0, e199, if_pos c1, if_neg (by decide), m_isIn, b2_some, e1, e30, if_pos c2, if_neg (by decide), M1.2.2.2.2.1, if_neg (by rw [show (12 : Int32) = nI 12 from rfl, nI_eq (by omega) (by omega)]; omega)]
            refine ok_b2 (m_addSlip hn9 c3 M1) (fun v h2 hh => ?_)
            obtain ⟨ev, M2, F2⟩ := hh
            exact ok_some ⟨ev, M2, fun k hk => by show h2.1 79 k = h.1 32 k; rw [F2.1 79 k (by omega), l1 k hk], F2.mono (fun o k q => by unfold SM; omega)⟩
        · refine deed_no (v := -3) T O ?_ ?_
          · unfold fX9_slip
            rw [c_hasGuest T.c.1 hn9, b2_some, if_pos c0, if_neg (by decide), c_isWithin (K := 6) (k := 6) rfl (by decide), b2_some, s1, s2, if_pos c1, if_neg (by decide), c_isWithin (K := 7) (k := 7) rfl (by decide), b2_some, s3, s4, if_pos c2, if_neg (by decide), T.c.2.1, if_neg (by rw [show (12 : Int32) = nI 12 from rfl, nI_ltI (by omega) (by omega)]; exact c3)]
          · unfold fX10_slip
            rw [m_isGuest T.m.1 hn9, b2_some, if_pos c0, if_neg (by decide), m_isIn, b2_some, e0, e199, if_pos c1, if_neg (by decide), m_isIn, b2_some, e1, e30, if_pos c2, if_neg (by decide), T.2.2.2.2.2.2.2.1, if_pos (by rw [show m = 12 by omega]; rfl)]
      · refine deed_no (v := -1) T O ?_ ?_
        · unfold fX9_slip
          rw [c_hasGuest T.c.1 hn9, b2_some, if_pos c0, if_neg (by decide), c_isWithin (K := 6) (k := 6) rfl (by decide), b2_some, s1, s2, if_pos c1, if_neg (by decide), c_isWithin (K := 7) (k := 7) rfl (by decide), b2_some, s3, s4, if_neg c2, if_pos rfl]
        · unfold fX10_slip
          rw [m_isGuest T.m.1 hn9, b2_some, if_pos c0, if_neg (by decide), m_isIn, b2_some, e0, e199, if_pos c1, if_neg (by decide), m_isIn, b2_some, e1, e30, if_neg c2, if_pos rfl]
    · refine deed_no (v := -1) T O ?_ ?_
      · unfold fX9_slip
        rw [c_hasGuest T.c.1 hn9, b2_some, if_pos c0, if_neg (by decide), c_isWithin (K := 6) (k := 6) rfl (by decide), b2_some, s1, s2, if_neg c1, if_pos rfl]
      · unfold fX10_slip
        rw [m_isGuest T.m.1 hn9, b2_some, if_pos c0, if_neg (by decide), m_isIn, b2_some, e0, e199, if_neg c1, if_pos rfl]
  · refine deed_no (v := -1) T O ?_ ?_
    · unfold fX9_slip
      rw [c_hasGuest T.c.1 hn9, b2_some, if_neg c0, if_pos rfl]
    · unfold fX10_slip
      rw [m_isGuest T.m.1 hn9, b2_some, if_neg c0, if_pos rfl]
theorem op_slips (g w : Int32) : Sim (fX9_slips g w) (fX10_slips g w) := by
  have e1 : (1 : Int32).toInt = 1 := by decide
  have e30 : (30 : Int32).toInt = 30 := by decide
  have s1 : (ST 200 6).toInt = 0 := by decide +kernel
  have s2 : (ST 201 6).toInt = 199 := by decide +kernel
  have s3 : (ST 200 7).toInt = 1 := by decide +kernel
  have s4 : (ST 201 7).toInt = 30 := by decide +kernel
  refine sim_of (fun n m B num sl mn Λ h T O => ?_)
  have hn9 := T.n9
  have hm12 := T.m12
  by_cases c0 : 0 ≤ g.toInt ∧ g.toInt < n
  · by_cases c2 : 1 ≤ w.toInt ∧ w.toInt ≤ 30
    · by_cases c3 : m < 12
      · obtain ⟨eg, hg⟩ := nI_of_rg (a := 9) c0.1 (by omega) (by decide)
        obtain ⟨j, ej⟩ : ∃ j, j = g.toInt.toNat := ⟨_, rfl⟩
        rw [← ej] at eg hg
        have hj : j < n := by omega
        by_cases c4 : num j 5 = 0
        · have W := WF_s T.1 c3 ((rgN 0 199 s1 s2).mpr (rg8.mp T.1.2.2.2.2)) ((rgN 1 30 s3 s4).mpr c2) hj
          refine deed_ok (n' := n) (m' := m + 1) (v := nI m) (L := ledU (fun k => h.1 32 k) 0 (h.1 32 0 + 1)) O W (Nat.le_refl n) (by omega) ?_ (fun h1 F1 => ?_)
          · unfold fX9_slips
            rw [c_hasGuest T.c.1 hn9, b2_some, if_pos c0, if_neg (by decide), c_isWithin (K := 7) (k := 7) rfl (by decide), b2_some, s3, s4, if_pos c2, if_neg (by decide), T.c.2.1, if_pos (by rw [show (12 : Int32) = nI 12 from rfl, nI_ltI (by omega) (by omega)]; exact c3), eg, c_isLeft (Or.inl rfl) hn9 T.c hj, b2_some, if_pos c4, if_neg (by decide), ix0]
            refine ok_let ?_
            have C1 : CT (wI h 32 0 (h.1 32 0 + 1)) n m num sl mn := T.ct.fr (S := fun o k => o = 32) (Fr.rf.w rfl) (fun o k q z => by omega)
            rw [C1.1.2.2.1]
            refine ok_b2 (c_addSlip (by omega) C1) (fun v h2 hh => ?_)
            obtain ⟨ev, C2, F2⟩ := hh
            exact ok_some ⟨ev, C2, led_c (fun k hk => F2.1 32 k (by omega)), (Fr.w (S := SC) Fr.rf (by unfold SC; omega)).tr (F2.mono (fun o k q => by unfold SC; omega))⟩
          · have M1 := T.mt.sc F1
            have l1 := led_o O F1
            unfold fX10_slips
            rw [m_isGuest M1.1 hn9, b2_some, if_pos c0, if_neg (by decide), m_isIn, b2_some, e1, e30, if_pos c2, if_neg (by decide), M1.2.2.2.2.1, if_neg (by rw [show (12 : Int32) = nI 12 from rfl, nI_eq (by omega) (by omega)]; omega), eg, m_isHere (by omega), b2_some, M1.2.1 j hj 5 (by decide), if_pos c4, if_neg (by decide), ix0, ix93]
            refine ok_let ?_
            have M2 : MT (wI h1 79 0 (h1.1 79 0 + 1)) n m num sl mn := M1.fr (S := fun o k => o = 79) (Fr.rf.w rfl) (fun o k q z => by omega)
            rw [M2.2.2.1]
            refine ok_b2 (m_addSlip hn9 c3 M2) (fun v h2 hh => ?_)
            obtain ⟨ev, M3, F2⟩ := hh
            refine ok_some ⟨ev, M3, ?_, (Fr.w (S := SM) Fr.rf (by unfold SM; omega)).tr (F2.mono (fun o k q => by unfold SM; omega))⟩
            rw [← l1 0 (by omega)]
            exact led_m l1 (fun k hk => F2.1 79 k (by omega))
        · refine deed_no (v := -5) T O ?_ ?_
          · unfold fX9_slips
            rw [c_hasGuest T.c.1 hn9, b2_some, if_pos c0, if_neg (by decide), c_isWithin (K := 7) (k := 7) rfl (by decide), b2_some, s3, s4, if_pos c2, if_neg (by decide), T.c.2.1, if_pos (by rw [show (12 : Int32) = nI 12 from rfl, nI_ltI (by omega) (by omega)]; exact c3), eg, c_isLeft (Or.inl rfl) hn9 T.c hj, b2_some, if_neg c4, if_pos rfl]
          · unfold fX10_slips
            rw [m_isGuest T.m.1 hn9, b2_some, if_pos c0, if_neg (by decide), m_isIn, b2_some, e1, e30, if_pos c2, if_neg (by decide), T.2.2.2.2.2.2.2.1, if_neg (by rw [show (12 : Int32) = nI 12 from rfl, nI_eq (by omega) (by omega)]; omega), eg, m_isHere (by omega), b2_some, T.m.2.1 j hj 5 (by decide), if_neg c4, if_pos rfl]
      · refine deed_no (v := -3) T O ?_ ?_
        · unfold fX9_slips
          rw [c_hasGuest T.c.1 hn9, b2_some, if_pos c0, if_neg (by decide), c_isWithin (K := 7) (k := 7) rfl (by decide), b2_some, s3, s4, if_pos c2, if_neg (by decide), T.c.2.1, if_neg (by rw [show (12 : Int32) = nI 12 from rfl, nI_ltI (by omega) (by omega)]; exact c3)]
        · unfold fX10_slips
          rw [m_isGuest T.m.1 hn9, b2_some, if_pos c0, if_neg (by decide), m_isIn, b2_some, e1, e30, if_pos c2, if_neg (by decide), T.2.2.2.2.2.2.2.1, if_pos (by rw [show m = 12 by omega]; rfl)]
    · refine deed_no (v := -1) T O ?_ ?_
      · unfold fX9_slips
        rw [c_hasGuest T.c.1 hn9, b2_some, if_pos c0, if_neg (by decide), c_isWithin (K := 7) (k := 7) rfl (by decide), b2_some, s3, s4, if_neg c2, if_pos rfl]
      · unfold fX10_slips
        rw [m_isGuest T.m.1 hn9, b2_some, if_pos c0, if_neg (by decide), m_isIn, b2_some, e1, e30, if_neg c2, if_pos rfl]
  · refine deed_no (v := -1) T O ?_ ?_
    · unfold fX9_slips
      rw [c_hasGuest T.c.1 hn9, b2_some, if_neg c0, if_pos rfl]
    · unfold fX10_slips
      rw [m_isGuest T.m.1 hn9, b2_some, if_neg c0, if_pos rfl]
