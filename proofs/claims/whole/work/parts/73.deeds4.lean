theorem op_goes : Sim fX9_goes fX10_goes := by
  have m2 : (-2 : Int32).toInt = -2 := by decide
  refine sim_of (fun n m B num sl mn Λ h T O => ?_)
  have hn9 := T.n9
  have hm12 := T.m12
  by_cases c0 : lftN num n = 0
  · have ef : fstA Λ n num mn = -2 := by rw [fstA_eq hn9 O.ir, if_pos c0]
    refine deed_ok (n' := n) (m' := m) (num' := num) (sl' := sl) (mn' := mn) (v := -2) (L := fun k => h.1 32 k) O T.1 (Nat.le_refl n) (Nat.le_refl m) ?_ (fun h1 F1 => ?_)
    · unfold fX9_goes
      refine ok_bv (c_sorriest (Or.inl rfl) hn9 T.gone T.c O.cl) (fun h1 F1 => ?_)
      rw [show (srtG (rd Λ n num mn) num 9 n).1 = -2 from ef, c_hasGuest ((F1.1 1 9 (by unfold Sr; omega)).trans T.c.1) hn9, b2_some, if_neg (show ¬ (0 ≤ (-2 : Int32).toInt ∧ (-2 : Int32).toInt < (n : Int)) by rw [m2]; omega)]
      refine ok_t rfl (ok_some ⟨rfl, T.ct.fr F1 (fun o k q z => by unfold Sr at z; omega), fun k hk => F1.1 32 k (by unfold Sr; omega), F1.mono (fun o k q => by unfold SC Scr; unfold Sr at q; omega)⟩)
    · have M1 := T.mt.sc F1
      have l1 := led_o O F1
      unfold fX10_goes
      refine ok_bv (m_firstNow hn9 O.ir M1.m (O.ml.fr F1 (fun o k q z => by unfold SC Scr at z; omega))) (fun h2 F2 => ?_)
      rw [ef]
      refine ok_t rfl (ok_some ⟨rfl, M1.fr F2 (fun o k q z => by unfold Sl Sg at z; omega), fun k hk => ?_, F2.mono (fun o k q => by unfold SM Scr; unfold Sl Sg at q; omega)⟩)
      show h2.1 79 k = h.1 32 k
      rw [F2.1 79 k (by unfold Sl Sg; omega), l1 k hk]
  · have hlen := ordL_len (rd Λ n num mn) num n
    have hmem := (ordL_mem (rd Λ n num mn) num n _).mp (getD_mem (show 0 < (ordL (rd Λ n num mn) num n).length by omega))
    obtain ⟨g, eg⟩ : ∃ g, g = (ordL (rd Λ n num mn) num n).getD 0 0 := ⟨_, rfl⟩
    rw [← eg] at hmem
    have ef : fstA Λ n num mn = nI g := by rw [fstA_eq hn9 O.ir, if_neg c0, ← eg]
    have hg := hmem.1
    have hvl : vld n m g 5 := by unfold vld; omega
    have W2 := WF_pm (WF_put T.1 hvl (show rgK 5 1 from rg5'.mpr (by decide)))
    have e5 : ∀ x : Int32, nuP num g 5 x = setN num g 5 x := fun x => by unfold nuP; rw [if_pos (by decide)]
    refine deed_ok (n' := n) (m' := m) (v := nI g) (L := fun k => if k = 1 then h.1 32 1 + 1 else if k = 2 then h.1 32 2 + 1 else if k = 4 then h.1 32 4 + num g 0 else h.1 32 k) O W2 (Nat.le_refl n) (Nat.le_refl m) ?_ (fun h1 F1 => ?_)
    · unfold fX9_goes
      refine ok_bv (c_sorriest (Or.inl rfl) hn9 T.gone T.c O.cl) (fun h1 F1 => ?_)
      have C1 : CT h1 n m num sl mn := T.ct.fr F1 (fun o k q z => by unfold Sr at z; omega)
      rw [show (srtG (rd Λ n num mn) num 9 n).1 = nI g from ef, c_hasGuest C1.1.1 hn9, b2_some, if_pos (show 0 ≤ (nI g).toInt ∧ (nI g).toInt < (n : Int) by rw [nI_toInt (by omega)]; omega), if_neg (by decide), ix2, ix4, ix1]
      refine ok_let (ok_t (inb_nI (by omega) (by decide)) (ok_let (ok_let (ok_let ?_))))
      rw [ix_nI (by omega)]
      have e2 : (wI h1 32 2 (h1.1 32 2 + 1)).1 2 g = num g 0 := by rw [wI_rd, if_neg (by omega)]; exact (C1.1.2.2.2.1 g hg).1
      rw [e2]
      obtain ⟨hL, eL⟩ : ∃ hL, hL = wI (wI (wI h1 32 2 (h1.1 32 2 + 1)) 32 4 ((wI h1 32 2 (h1.1 32 2 + 1)).1 32 4 + num g 0)) 32 1 ((wI (wI h1 32 2 (h1.1 32 2 + 1)) 32 4 ((wI h1 32 2 (h1.1 32 2 + 1)).1 32 4 + num g 0)).1 32 1 + 1) := ⟨_, rfl⟩
      rw [← eL]
      have FL : Fr (fun o k => o = 32) h1 hL := by rw [eL]; exact Fr.w (S := fun o k => o = 32) (Fr.w (S := fun o k => o = 32) (Fr.w (S := fun o k => o = 32) Fr.rf rfl) rfl) rfl
      have lL : ∀ k, k < 5 → hL.1 32 k = (if k = 1 then h.1 32 1 + 1 else if k = 2 then h.1 32 2 + 1 else if k = 4 then h.1 32 4 + num g 0 else h.1 32 k) := by
        intro k hk
        rw [eL]
        have b32 : ∀ k, h1.1 32 k = h.1 32 k := fun k => F1.1 32 k (by unfold Sr; omega)
        have c : k = 0 ∨ k = 1 ∨ k = 2 ∨ k = 3 ∨ k = 4 := by omega
        rcases c with rfl | rfl | rfl | rfl | rfl <;> simp [wI_rd, b32]
      have CL2 : CT hL n m num sl mn := C1.fr FL (fun o k q z => by omega)
      have C2 := CT_put (v := 1) CL2 hvl
      have ep : cput hL g 5 1 = wI hL 7 g 1 := rfl
      rw [ep] at C2
      refine ok_bV (c_pass1t (WF_put T.1 hvl (show rgK 5 1 from rg5'.mpr (by decide))) C2) (fun h3 hh => ?_)
      obtain ⟨C3, F3⟩ := hh
      refine ok_some ⟨rfl, C3, fun k hk => ?_, ?_⟩
      · show h3.1 32 k = _
        rw [F3.1 32 k (by omega), wI_rd, if_neg (by omega)]
        exact lL k hk
      · have FA : Fr SC h h1 := F1.mono (fun o k q => by unfold SC Scr; unfold Sr at q; omega)
        exact ((FA.tr (FL.mono (fun o k q => by unfold SC; omega))).w (by unfold SC; omega)).tr (F3.mono (fun o k q => by unfold SC; omega))
    · have M1 := T.mt.sc F1
      have l1 := led_o O F1
      unfold fX10_goes
      refine ok_bv (m_firstNow hn9 O.ir M1.m (O.ml.fr F1 (fun o k q z => by unfold SC Scr at z; omega))) (fun h2 F2 => ?_)
      have M2 : MT h2 n m num sl mn := M1.fr F2 (fun o k q z => by unfold Sl Sg at z; omega)
      have l2 : ∀ k, k < 5 → h2.1 79 k = h.1 32 k := fun k hk => by rw [F2.1 79 k (by unfold Sl Sg; omega), l1 k hk]
      rw [ef, ix2, ix4]
      refine ok_f (fun z => absurd (congrArg Int32.toInt z) (by rw [nI_toInt (by omega), m2]; omega)) (ok_let ?_)
      rw [m_number (K := 0) (k := 0) rfl (by omega) (by decide), b2_some]
      have e0 : (wI h2 79 2 (h2.1 79 2 + 1)).1 60 (6 * g + 0) = num g 0 := by rw [wI_rd, if_neg (by omega)]; exact M2.2.1 g hg 0 (by decide)
      rw [e0]
      refine ok_let ?_
      obtain ⟨hL, eL⟩ : ∃ hL, hL = wI (wI h2 79 2 (h2.1 79 2 + 1)) 79 4 ((wI h2 79 2 (h2.1 79 2 + 1)).1 79 4 + num g 0) := ⟨_, rfl⟩
      rw [← eL]
      have FL : Fr (fun o k => o = 79) h2 hL := by rw [eL]; exact Fr.w (S := fun o k => o = 79) (Fr.w (S := fun o k => o = 79) Fr.rf rfl) rfl
      have lL : ∀ k, k < 5 → hL.1 79 k = (if k = 2 then h.1 32 2 + 1 else if k = 4 then h.1 32 4 + num g 0 else h.1 32 k) := by
        intro k hk
        rw [eL]
        have c : k = 0 ∨ k = 1 ∨ k = 2 ∨ k = 3 ∨ k = 4 := by omega
        rcases c with rfl | rfl | rfl | rfl | rfl <;> simp [wI_rd, l2]
      have ML2 : MT hL n m num sl mn := M2.fr FL (fun o k q z => by omega)
      rw [m_change (K := 5) (k := 5) rfl (by omega) (by decide), bV_some]
      have M3 := MT_put (v := 1) hn9 hm12 ML2 hvl
      have ep : plc g 5 = 6 * g + 5 := rfl
      rw [ep] at M3
      unfold fX10_minute
      obtain ⟨h4, e4, M4, F4⟩ := m_passt (WF_put T.1 hvl (show rgK 5 1 from rg5'.mpr (by decide))) M3
      rw [e4, bV_some, ix1, ix93]
      show Ok (some (nI g, wI h4 79 1 (h4.1 79 1 + 1))) _
      refine ok_some ⟨rfl, M4.fr (S := fun o k => o = 79) (Fr.rf.w rfl) (fun o k q z => by omega), fun k hk => ?_, ?_⟩
      · have b4 : ∀ k, k < 5 → h4.1 79 k = hL.1 79 k := fun k hk => by rw [F4.1 79 k (by omega), wI_rd, if_neg (by omega)]
        show (wI h4 79 1 (h4.1 79 1 + 1)).1 79 k = if k = 1 then h.1 32 1 + 1 else if k = 2 then h.1 32 2 + 1 else if k = 4 then h.1 32 4 + num g 0 else h.1 32 k
        rw [wI_rd, b4 1 (by omega), lL 1 (by omega), b4 k hk, lL k hk]
        by_cases q : k = 1
        · rw [if_pos ⟨rfl, q⟩, if_pos q]; rfl
        · rw [if_neg (fun z => q z.2), if_neg q]
      · have FA : Fr SM h1 h2 := F2.mono (fun o k q => by unfold SM Scr; unfold Sl Sg at q; omega)
        exact (((FA.tr (FL.mono (fun o k q => by unfold SM; omega))).w (by unfold SM; omega)).tr (F4.mono (fun o k q => by unfold SM; omega))).w (by unfold SM; omega)
/-! a guest comes -/
def nuG (num : Nat → Nat → Int32) (n : Nat) (a b : Int32) : Nat → Nat → Int32 := fun i k => if i = n then (if k = 1 then 1 else if k = 3 then a else if k = 4 then b else 0) else num i k
theorem WF_g {n m : Nat} {num sl : Nat → Nat → Int32} {mn a b : Int32} (W : WF n m num sl mn) (hn : n < 9) (ha : rgK 3 a) (hb : rgK 4 b) : WF (n + 1) m (nuG num n a b) sl mn := by
  obtain ⟨w1, w2, w3, w4, w5⟩ := W
  refine ⟨by omega, w2, fun i hi k hk => ?_, fun s hs => ?_, w5⟩
  · unfold nuG
    by_cases e : i = n
    · rw [if_pos e]
      have c : k = 0 ∨ k = 1 ∨ k = 2 ∨ k = 3 ∨ k = 4 ∨ k = 5 := by omega
      rcases c with rfl | rfl | rfl | rfl | rfl | rfl
      · exact rg0'.mpr (show 0 ≤ (0 : Int32).toInt ∧ (0 : Int32).toInt ≤ 99 by decide)
      · show (ST 200 1).toInt ≤ (1 : Int32).toInt ∧ (1 : Int32).toInt ≤ (ST 201 1).toInt
        decide +kernel
      · show (ST 200 2).toInt ≤ (0 : Int32).toInt ∧ (0 : Int32).toInt ≤ (ST 201 2).toInt
        decide +kernel
      · exact ha
      · exact hb
      · exact rg5'.mpr (show 0 ≤ (0 : Int32).toInt ∧ (0 : Int32).toInt ≤ 1 by decide)
    · rw [if_neg e]; exact w3 i (by omega) k hk
  · obtain ⟨h0, h1, j, h2, h3⟩ := w4 s hs
    exact ⟨h0, h1, j, by omega, h3⟩
theorem c_addGuest {h : AH} {n m : Nat} {num sl : Nat → Nat → Int32} {mn a b : Int32} (hn : n < 9) (C : CT h n m num sl mn) : Ok (fX7_addGuest 1 a b h) (fun q => q.1 = nI n ∧ CT q.2 (n + 1) m (nuG num n a b) sl mn ∧ Fr (fun o k => (o = 1 ∧ k = 9) ∨ (2 ≤ o ∧ o ≤ 7)) h q.2) := by
  obtain ⟨⟨c1, c2, c3, c4, c5⟩, c6⟩ := C
  obtain ⟨r0, r1, r2, r3, r4, r5, r6, r7, r8⟩ := rfT (t := 1) (Or.inl rfl)
  unfold fX7_addGuest
  rw [c1, r0, r1, r2, r3, r4, r5]
  refine ok_t (by rw [show (9 : Int32) = nI 9 from rfl, nI_ltI (by omega) (by omega)]; exact hn) (ok_let (ok_t (inb_nI (by omega) (by decide)) (ok_let (ok_let (ok_let (ok_let (ok_let (ok_let (ok_let (ok_some ?_))))))))))
  rw [ix_nI (by omega)]
  refine ⟨rfl, ⟨⟨?_, ?_, ?_, fun i hi => ?_, fun s hs => ?_⟩, fun i hi => ?_⟩, ?_⟩
  · simp [wI_rd]; rw [c1, nI_1]
  · simp [wI_rd]; exact c2
  · simp [wI_rd]; exact c3
  · simp only [wI_rd]
    unfold nuG
    by_cases e : i = n
    · subst e; simp
    · simp [e]; exact c4 i (by omega)
  · simp [wI_rd]; exact c5 s hs
  · simp only [wI_rd]
    unfold nuG
    by_cases e : i = n
    · subst e; simp
    · simp [e]; exact c6 i (by omega)
  · exact ((((((Fr.rf.w (by omega)).w (by omega)).w (by omega)).w (by omega)).w (by omega)).w (by omega)).w (by omega)
theorem m_add {h : AH} {n m : Nat} {num sl : Nat → Nat → Int32} {mn a b : Int32} (hn : n < 9) (M : MT h n m num sl mn) : Ok (fX10_add 0 1 0 a b h) (fun q => q.1 = nI n ∧ MT q.2 (n + 1) m (nuG num n a b) sl mn ∧ Fr (fun o k => (o = 59 ∧ k = 2) ∨ o = 60) h q.2) := by
  obtain ⟨m1, m2, m3, m4, m5, m6⟩ := M
  unfold fX10_add
  refine ok_let ?_
  rw [m1]
  rw [m_change (K := 0) (k := 0) rfl hn (by decide), bV_some, m_change (K := 1) (k := 1) rfl hn (by decide), bV_some, m_change (K := 2) (k := 2) rfl hn (by decide), bV_some, m_change (K := 3) (k := 3) rfl hn (by decide), bV_some, m_change (K := 4) (k := 4) rfl hn (by decide), bV_some, m_change (K := 5) (k := 5) rfl hn (by decide), bV_some]
  refine ok_let (ok_some ⟨rfl, ⟨?_, fun i hi k hk => ?_, ?_, ?_, ?_, fun s hs j hj => ?_⟩, ?_⟩)
  · simp only [wI_rd]; simp; rw [m1, nI_1]
  · simp only [wI_rd]
    unfold nuG
    by_cases e : i = n
    · subst e
      have c : k = 0 ∨ k = 1 ∨ k = 2 ∨ k = 3 ∨ k = 4 ∨ k = 5 := by omega
      rcases c with rfl | rfl | rfl | rfl | rfl | rfl <;> simp
    · rw [if_neg (by omega), if_neg (by omega), if_neg (by omega), if_neg (by omega), if_neg (by omega), if_neg (by omega), if_neg (by omega), if_neg e]
      exact m2 i (by omega) k hk
  · simp only [wI_rd]
    rw [if_neg (by omega), if_neg (by omega), if_neg (by omega), if_neg (by omega), if_neg (by omega), if_neg (by omega), if_neg (by omega)]
    exact m3
  · simp only [wI_rd]; simp; exact m4
  · simp only [wI_rd]; simp; exact m5
  · simp only [wI_rd]
    rw [if_neg (by omega), if_neg (by omega), if_neg (by omega), if_neg (by omega), if_neg (by omega), if_neg (by omega), if_neg (by omega)]
    exact m6 s hs j hj
  · exact ((((((Fr.rf.w (by omega)).w (by omega)).w (by omega)).w (by omega)).w (by omega)).w (by omega)).w (by omega)
theorem op_guest (a b : Int32) : Sim (fX9_guest a b) (fX10_guest a b) := by
  have e0 : (0 : Int32).toInt = 0 := by decide
  have e1 : (1 : Int32).toInt = 1 := by decide
  have e5 : (5 : Int32).toInt = 5 := by decide
  have e9 : (9 : Int32).toInt = 9 := by decide
  have s1 : (ST 200 3).toInt = 0 := by decide +kernel
  have s2 : (ST 201 3).toInt = 1 := by decide +kernel
  have s3 : (ST 200 4).toInt = 5 := by decide +kernel
  have s4 : (ST 201 4).toInt = 9 := by decide +kernel
  refine sim_of (fun n m B num sl mn Λ h T O => ?_)
  have hn9 := T.n9
  by_cases c1 : 0 ≤ a.toInt ∧ a.toInt ≤ 1
  · by_cases c2 : 5 ≤ b.toInt ∧ b.toInt ≤ 9
    · by_cases c3 : n < 9
      · refine deed_ok (n' := n + 1) (m' := m) (v := nI n) (L := fun k => h.1 32 k) O (WF_g T.1 c3 ((rgN 0 1 s1 s2).mpr c1) ((rgN 5 9 s3 s4).mpr c2)) (by omega) (Nat.le_refl m) ?_ (fun h1 F1 => ?_)
        · unfold fX9_guest
          rw [c_isWithin (K := 3) (k := 3) rfl (by decide), b2_some, s1, s2, if_pos c1, if_neg (by decide), c_isWithin (K := 4) (k := 4) rfl (by decide), b2_some, s3, s4, if_pos c2, if_neg (by decide), T.c.1, if_pos (by rw [show (9 : Int32) = nI 9 from rfl, nI_ltI (by omega) (by omega)]; exact c3)]
          refine ok_b2 (c_addGuest c3 T.ct) (fun v h2 hh => ?_)
          obtain ⟨ev, C2, F2⟩ := hh
          exact ok_some ⟨ev, C2, fun k hk => F2.1 32 k (by omega), F2.mono (fun o k q => by unfold SC; omega)⟩
        · have M1 := T.mt.sc F1
          have l1 := led_o O F1
          unfold fX10_guest
          rw [m_isIn, b2_some, e0, e1, if_pos c1, if_neg (by decide), m_isIn, b2_some, e5, e9, if_pos c2, if_neg (by decide), M1.1, if_neg (by rw [show (9 : Int32) = nI 9 from rfl, nI_eq (by omega) (by omega)]; omega)]
          refine ok_b2 (m_add c3 M1) (fun v h2 hh => ?_)
          obtain ⟨ev, M2, F2⟩ := hh
          exact ok_some ⟨ev, M2, fun k hk => by show h2.1 79 k = h.1 32 k; rw [F2.1 79 k (by omega), l1 k hk], F2.mono (fun o k q => by unfold SM; omega)⟩
      · refine deed_no (v := -3) T O ?_ ?_
        · unfold fX9_guest
          rw [c_isWithin (K := 3) (k := 3) rfl (by decide), b2_some, s1, s2, if_pos c1, if_neg (by decide), c_isWithin (K := 4) (k := 4) rfl (by decide), b2_some, s3, s4, if_pos c2, if_neg (by decide), T.c.1, if_neg (by rw [show (9 : Int32) = nI 9 from rfl, nI_ltI (by omega) (by omega)]; exact c3)]
        · unfold fX10_guest
          rw [m_isIn, b2_some, e0, e1, if_pos c1, if_neg (by decide), m_isIn, b2_some, e5, e9, if_pos c2, if_neg (by decide), T.m.1, if_pos (by rw [show n = 9 by omega]; rfl)]
    · refine deed_no (v := -1) T O ?_ ?_
      · unfold fX9_guest
        rw [c_isWithin (K := 3) (k := 3) rfl (by decide), b2_some, s1, s2, if_pos c1, if_neg (by decide), c_isWithin (K := 4) (k := 4) rfl (by decide), b2_some, s3, s4, if_neg c2, if_pos rfl]
      · unfold fX10_guest
        rw [m_isIn, b2_some, e0, e1, if_pos c1, if_neg (by decide), m_isIn, b2_some, e5, e9, if_neg c2, if_pos rfl]
  · refine deed_no (v := -1) T O ?_ ?_
    · unfold fX9_guest
      rw [c_isWithin (K := 3) (k := 3) rfl (by decide), b2_some, s1, s2, if_neg c1, if_pos rfl]
    · unfold fX10_guest
      rw [m_isIn, b2_some, e0, e1, if_neg c1, if_pos rfl]
