/-! mend -/
def SA (o k : Nat) : Prop := (o = 38 ∧ (k = 4 ∨ k = 5)) ∨ (39 ≤ o ∧ o ≤ 42)
theorem c_add13 {h : AH} {e : Nat} {P0 P1 P2 P3 A W x v : Int32} (he : h.1 38 5 = nI e) (h40 : e < 40) : Ok (fX0_add_13 P0 P1 P2 P3 A W x v h) (fun h' => h'.1 38 5 = nI (e + 1) ∧ h'.1 38 4 = nI (e + 1) ∧ (∀ i, h'.1 39 i = if i = e then A else h.1 39 i) ∧ (∀ i, h'.1 40 i = if i = e then W else h.1 40 i) ∧ (∀ i, h'.1 41 i = if i = e then x else h.1 41 i) ∧ (∀ i, h'.1 42 i = if i = e then v else h.1 42 i) ∧ Fr SA h h') := by
  unfold fX0_add_13
  have ei : ix (nI e) = e := ix_nI (by omega)
  have ib : inb (nI e) 40 = true := inb_nI (by omega) (by decide)
  rw [he, if_pos ib, ei]
  have r1 : (wI h 39 e A).1 38 5 = nI e := by rw [wI_rd, if_neg (by omega)]; exact he
  refine ok_let ?_
  rw [r1, if_pos ib, ei]
  have r2 : (wI (wI h 39 e A) 40 e W).1 38 5 = nI e := by rw [wI_rd, if_neg (by omega)]; exact r1
  refine ok_let ?_
  rw [r2, if_pos ib, ei]
  have r3 : (wI (wI (wI h 39 e A) 40 e W) 41 e x).1 38 5 = nI e := by rw [wI_rd, if_neg (by omega)]; exact r2
  refine ok_let ?_
  rw [r3, if_pos ib, ei]
  have r4 : (wI (wI (wI (wI h 39 e A) 40 e W) 41 e x) 42 e v).1 38 5 = nI e := by rw [wI_rd, if_neg (by omega)]; exact r3
  refine ok_let ?_
  rw [r4, nI_1]
  refine ok_let (ok_let (ok_some ⟨?_, ?_, fun i => ?_, fun i => ?_, fun i => ?_, fun i => ?_, ?_⟩))
  · simp only [wI_rd]; simp
  · simp only [wI_rd]; simp
  · simp only [wI_rd]; simp
  · simp only [wI_rd]; simp
  · simp only [wI_rd]; simp
  · simp only [wI_rd]; simp
  · exact (((((Fr.rf.w (by unfold SA; omega)).w (by unfold SA; omega)).w (by unfold SA; omega)).w (by unfold SA; omega)).w (by unfold SA; omega)).w (by unfold SA; omega)
theorem c_addC {h : AH} {d e sf : Nat} {A W x v : Int32} (hd : h.1 38 5 = nI d) (hc : (d < 40 ∧ e = d ∧ sf = 0) ∨ (d = 40 ∧ e = 39 ∧ sf = 1)) : Ok (fX0_add A W x v h) (fun h' => h'.1 38 5 = nI (e + 1) ∧ h'.1 38 4 = nI (e + 1) ∧ (∀ i, i < e + 1 → h'.1 39 i = if i = e then A else h.1 39 (i + sf)) ∧ (∀ i, i < e + 1 → h'.1 40 i = if i = e then W else h.1 40 (i + sf)) ∧ (∀ i, i < e + 1 → h'.1 41 i = if i = e then x else h.1 41 (i + sf)) ∧ (∀ i, i < e + 1 → h'.1 42 i = if i = e then v else h.1 42 (i + sf)) ∧ Fr SA h h') := by
  unfold fX0_add
  rw [hd]
  rcases hc with ⟨q1, q2, q3⟩ | ⟨q1, q2, q3⟩
  · subst q2
    subst q3
    refine ok_t (by rw [show (40 : Int32) = nI 40 from rfl, nI_ltI (by omega) (by omega)]; exact q1) ?_
    refine ok_mono (c_add13 hd q1) (fun h' hh => ?_)
    obtain ⟨a1, a2, a3, a4, a5, a6, a7⟩ := hh
    exact ⟨a1, a2, fun i _ => a3 i, fun i _ => a4 i, fun i _ => a5 i, fun i _ => a6 i, a7⟩
  · subst q2
    subst q3
    refine ok_f (by rw [show (40 : Int32) = nI 40 from rfl, nI_ltI (by omega) (by omega)]; omega) ?_
    have fo : Ok (fX0_forgetOldest h) (fun h' => h'.1 38 5 = nI 39 ∧ (∀ i, i < 39 → h'.1 39 i = h.1 39 (i + 1) ∧ h'.1 40 i = h.1 40 (i + 1) ∧ h'.1 41 i = h.1 41 (i + 1) ∧ h'.1 42 i = h.1 42 (i + 1)) ∧ Fr SA h h') := by
      unfold fX0_forgetOldest
      have ck : cpOK 1 0 39 40 40 = true := by decide
      have k1 : ix (1 : Int32) = 1 := ix1
      have k0 : ix (0 : Int32) = 0 := ix0
      have k39 : ix (39 : Int32) = 39 := by decide
      have z0 : (wI h 38 5 39).1 38 5 = 39 := by rw [wI_rd, if_pos ⟨rfl, rfl⟩]
      refine ok_let ?_
      rw [z0, if_pos ck, k1, k0, k39]
      have z1 : (cpI (wI h 38 5 39) 39 1 39 0 39).1 38 5 = 39 := by rw [cpI_rd, if_neg (by omega)]; exact z0
      refine ok_let ?_
      rw [z1, if_pos ck, k39]
      have z2 : (cpI (cpI (wI h 38 5 39) 39 1 39 0 39) 40 1 40 0 39).1 38 5 = 39 := by rw [cpI_rd, if_neg (by omega)]; exact z1
      refine ok_let ?_
      rw [z2, if_pos ck, k39]
      have z3 : (cpI (cpI (cpI (wI h 38 5 39) 39 1 39 0 39) 40 1 40 0 39) 41 1 41 0 39).1 38 5 = 39 := by rw [cpI_rd, if_neg (by omega)]; exact z2
      refine ok_let ?_
      rw [z3, if_pos ck, k39]
      refine ok_let (ok_some ⟨?_, fun i hi => ?_, ?_⟩)
      · rw [cpI_rd, if_neg (by omega)]; exact z3
      · simp only [cpI_rd, wI_rd]
        simp [hi, Nat.add_comm]
      · refine ⟨fun o k q => ?_, rfl⟩
        unfold SA at q
        simp only [cpI_rd, wI_rd]
        rw [if_neg (by omega), if_neg (by omega), if_neg (by omega), if_neg (by omega), if_neg (by omega)]
    refine ok_bV fo (fun h1 hh => ?_)
    obtain ⟨b1, b2, F1⟩ := hh
    refine ok_mono (c_add13 b1 (by omega)) (fun h' hh => ?_)
    obtain ⟨a1, a2, a3, a4, a5, a6, a7⟩ := hh
    refine ⟨a1, a2, fun i hi => ?_, fun i hi => ?_, fun i hi => ?_, fun i hi => ?_, F1.tr a7⟩
    · rw [a3 i]
      by_cases q : i = 39
      · rw [if_pos q, if_pos q]
      · rw [if_neg q, if_neg q]; exact (b2 i (by omega)).1
    · rw [a4 i]
      by_cases q : i = 39
      · rw [if_pos q, if_pos q]
      · rw [if_neg q, if_neg q]; exact (b2 i (by omega)).2.1
    · rw [a5 i]
      by_cases q : i = 39
      · rw [if_pos q, if_pos q]
      · rw [if_neg q, if_neg q]; exact (b2 i (by omega)).2.2.1
    · rw [a6 i]
      by_cases q : i = 39
      · rw [if_pos q, if_pos q]
      · rw [if_neg q, if_neg q]; exact (b2 i (by omega)).2.2.2
def SB (o k : Nat) : Prop := (o = 59 ∧ (k = 7 ∨ k = 8)) ∨ (62 ≤ o ∧ o ≤ 64)
theorem m_141 {h : AH} {e : Nat} {P0 P1 P2 A x v : Int32} (he : h.1 59 7 = nI e) (h40 : e < 40) : Ok (fX10_mend_141 P0 P1 P2 v A x h) (fun q => q.1 = x ∧ q.2.1 59 7 = nI (e + 1) ∧ q.2.1 59 8 = nI (e + 1) ∧ (∀ i, q.2.1 62 i = if i = e then A else h.1 62 i) ∧ (∀ i, q.2.1 63 i = if i = e then x else h.1 63 i) ∧ (∀ i, q.2.1 64 i = if i = e then v else h.1 64 i) ∧ Fr SB h q.2) := by
  unfold fX10_mend_141
  have ei : ix (nI e) = e := ix_nI (by omega)
  have ib : inb (nI e) 40 = true := inb_nI (by omega) (by decide)
  rw [he, if_pos ib, ei]
  have r1 : (wI h 62 e A).1 59 7 = nI e := by rw [wI_rd, if_neg (by omega)]; exact he
  refine ok_let ?_
  rw [r1, if_pos ib, ei]
  have r2 : (wI (wI h 62 e A) 63 e x).1 59 7 = nI e := by rw [wI_rd, if_neg (by omega)]; exact r1
  refine ok_let ?_
  rw [r2, if_pos ib, ei]
  have r3 : (wI (wI (wI h 62 e A) 63 e x) 64 e v).1 59 7 = nI e := by rw [wI_rd, if_neg (by omega)]; exact r2
  refine ok_let ?_
  rw [r3, nI_1]
  refine ok_let (ok_let (ok_some ⟨rfl, ?_, ?_, fun i => ?_, fun i => ?_, fun i => ?_, ?_⟩))
  · simp only [wI_rd]; simp
  · simp only [wI_rd]; simp
  · simp only [wI_rd]; simp
  · simp only [wI_rd]; simp
  · simp only [wI_rd]; simp
  · exact ((((Fr.rf.w (by unfold SB; omega)).w (by unfold SB; omega)).w (by unfold SB; omega)).w (by unfold SB; omega)).w (by unfold SB; omega)
theorem m_addC {h : AH} {d e sf : Nat} {P0 P1 P2 A x v : Int32} (hd : h.1 59 7 = nI d) (hc : (d < 40 ∧ e = d ∧ sf = 0) ∨ (d = 40 ∧ e = 39 ∧ sf = 1)) : Ok (if h.1 59 7 = 40 then fX10_mend_70 P0 P1 P2 FU v A x 1 h else fX10_mend_141 P0 P1 P2 v A x h) (fun q => q.1 = x ∧ q.2.1 59 7 = nI (e + 1) ∧ q.2.1 59 8 = nI (e + 1) ∧ (∀ i, i < e + 1 → q.2.1 62 i = if i = e then A else h.1 62 (i + sf)) ∧ (∀ i, i < e + 1 → q.2.1 63 i = if i = e then x else h.1 63 (i + sf)) ∧ (∀ i, i < e + 1 → q.2.1 64 i = if i = e then v else h.1 64 (i + sf)) ∧ Fr SB h q.2) := by
  rw [hd]
  rcases hc with ⟨q1, q2, q3⟩ | ⟨q1, q2, q3⟩
  · subst q2
    subst q3
    refine ok_f (by rw [show (40 : Int32) = nI 40 from rfl, nI_eq (by omega) (by omega)]; omega) ?_
    refine ok_mono (m_141 hd q1) (fun h' hh => ?_)
    obtain ⟨a0, a1, a2, a3, a4, a5, a6⟩ := hh
    exact ⟨a0, a1, a2, fun i _ => a3 i, fun i _ => a4 i, fun i _ => a5 i, a6⟩
  · subst q1
    subst q2
    subst q3
    refine ok_t rfl ?_
    refine L4 (f := fX10_mend_70 P0 P1 P2) (b := fX10_mend_70_b P0 P1 P2) (fun _ => rfl) (fun r y1 y2 y3 y4 h' => ∃ c, c + r = 40 ∧ 1 ≤ c ∧ y1 = v ∧ y2 = A ∧ y3 = x ∧ y4 = nI c ∧ h'.1 59 7 = nI 40 ∧ (∀ o, 62 ≤ o ∧ o ≤ 64 → ∀ i, h'.1 o i = if i < c - 1 then h.1 o (i + 1) else h.1 o i) ∧ Fr SB h h') ?_ 39 FU v A x 1 h (by unfold FU; omega) ⟨1, by omega, by omega, rfl, rfl, rfl, rfl, hd, fun o ho i => by rw [if_neg (by omega)], Fr.rf⟩
    rintro r y1 y2 y3 y4 h' ⟨c, hc, h1c, rfl, rfl, rfl, rfl, g7, gA, F'⟩ Q hQ
    unfold fX10_mend_70_b
    refine ok_if (fun d1 => ?_) (fun d1 => ?_)
    · rw [show (40 : Int32) = nI 40 from rfl, nI_leI (by omega) (by omega)] at d1
      have e : c = 40 := by omega
      subst e
      rw [g7, nI_s1 (by omega)]
      refine ok_let ?_
      have g7' : (wI h' 59 7 (nI 39)).1 59 7 = nI 39 := by rw [wI_rd, if_pos ⟨rfl, rfl⟩]
      refine ok_mono (m_141 g7' (by omega)) (fun q hh => ?_)
      obtain ⟨a0, a1, a2, a3, a4, a5, a6⟩ := hh
      refine ⟨a0, a1, a2, fun i hi => ?_, fun i hi => ?_, fun i hi => ?_, (F'.w (by unfold SB; omega)).tr a6⟩
      · rw [a3 i]
        by_cases q : i = 39
        · rw [if_pos q, if_pos q]
        · rw [if_neg q, if_neg q, wI_rd, if_neg (by omega), gA 62 (by omega) i, if_pos (by omega)]
      · rw [a4 i]
        by_cases q : i = 39
        · rw [if_pos q, if_pos q]
        · rw [if_neg q, if_neg q, wI_rd, if_neg (by omega), gA 63 (by omega) i, if_pos (by omega)]
      · rw [a5 i]
        by_cases q : i = 39
        · rw [if_pos q, if_pos q]
        · rw [if_neg q, if_neg q, wI_rd, if_neg (by omega), gA 64 (by omega) i, if_pos (by omega)]
    · rw [show (40 : Int32) = nI 40 from rfl, nI_leI (by omega) (by omega)] at d1
      obtain ⟨c, rfl⟩ : ∃ c', c = c' + 1 := ⟨c - 1, by omega⟩
      rw [nI_s1 (by omega)]
      refine ok_t (inb_nI (by omega) (by decide)) (ok_t (inb_nI (by omega) (by decide)) (ok_let (ok_let (ok_let ?_))))
      rw [ix_nI (show c < 2 ^ 31 by omega), ix_nI (show c + 1 < 2 ^ 31 by omega), nI_1]
      refine hQ (r - 1) _ _ _ _ _ (by omega) ⟨c + 1 + 1, by omega, by omega, rfl, rfl, rfl, rfl, ?_, fun o ho i => ?_, ((F'.w (by unfold SB; omega)).w (by unfold SB; omega)).w (by unfold SB; omega)⟩
      · simp only [wI_rd]; simp; exact g7
      · have g62 := gA 62 (by omega)
        have g63 := gA 63 (by omega)
        have g64 := gA 64 (by omega)
        have oc : o = 62 ∨ o = 63 ∨ o = 64 := by omega
        have key : ∀ (F : Nat → Int32) (G : Nat → Int32), (∀ i, F i = if i < c + 1 - 1 then G (i + 1) else G i) → (if i = c then F (c + 1) else F i) = if i < c + 1 + 1 - 1 then G (i + 1) else G i := by
          intro F G hFG
          by_cases q : i = c
          · rw [if_pos q, hFG (c + 1), if_neg (by omega), if_pos (by omega), q]
          · rw [if_neg q, hFG i]
            by_cases q2 : i < c
            · rw [if_pos (by omega), if_pos (by omega)]
            · rw [if_neg (by omega), if_neg (by omega)]
        rcases oc with rfl | rfl | rfl
        · have := key (fun i => h'.1 62 i) (fun i => h.1 62 i) g62
          simp only [wI_rd]
          simpa using this
        · have := key (fun i => h'.1 63 i) (fun i => h.1 63 i) g63
          simp only [wI_rd]
          simpa using this
        · have := key (fun i => h'.1 64 i) (fun i => h.1 64 i) g64
          simp only [wI_rd]
          simpa using this
