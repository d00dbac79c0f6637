/-! the beginning -/
theorem h0_2 : h0.2 = zH.2 := rfl
theorem h0_i : (h0.1 1 9 = 0 ∧ h0.1 1 10 = 0 ∧ h0.1 1 11 = 0 ∧ h0.1 59 2 = 0 ∧ h0.1 60 93 = 0 ∧ h0.1 59 23 = -1 ∧ h0.1 59 3 = 0) ∧ (h0.1 0 2 = 0 ∧ h0.1 59 12 = 0) ∧ (h0.1 59 39 = 0 ∧ h0.1 33 6 = 0) ∧ (h0.1 38 5 = 0 ∧ h0.1 38 4 = 0 ∧ h0.1 59 7 = 0 ∧ h0.1 59 8 = 0) ∧ (h0.1 43 1 = 0 ∧ h0.1 59 43 = 0 ∧ h0.1 43 3 = 0 ∧ h0.1 59 45 = 0) ∧ h0.1 15 1 = 0 ∧ h0.1 59 15 = 0 := by decide +kernel
theorem h0_led : ∀ k, k < 5 → h0.1 79 k = h0.1 32 k := by decide +kernel
theorem h0_tr : ∀ i, i < 24 → h0.1 85 i = h0.1 45 i := by decide +kernel
theorem h0_sh : ∀ s, s < 6 → h0.1 (47 + 2 * s) 0 = 0 ∧ h0.1 75 s = -1 ∧ h0.1 (47 + 2 * s) 3 = 0 ∧ h0.1 76 s = 0 := by decide +kernel
theorem h0_c1 : ∀ k, k < 9 → h0.1 65 k = ST 200 k ∧ h0.1 66 k = ST 201 k := by decide +kernel
theorem h0_c2 : ∀ k, k < 6 → h0.1 71 k = mLet.getD k 0 := by decide +kernel
theorem h0_c3 : ∀ k, k < 8 → h0.1 82 k = mAbv.getD k 0 := by decide +kernel
theorem h0_c4 : ∀ k, k < 32 → h0.1 83 k = ST 203 k := by decide +kernel
/-- how one is read without a text -/
def law0 : LawF := fun r l hd _ _ _ => clp (r + 2 * l - (if hd = 0 then 5 else 0))
theorem law0_in : inR law0 := by
  intro a b c d e f
  unfold law0 clp
  rw [jmax_toInt, jmin_toInt, show (0 : Int32).toInt = 0 by decide, show (99 : Int32).toInt = 99 by decide]
  omega
theorem cl0 {h : AH} (h1 : h.1 15 1 = 0) : CL h law0 := by
  intro t n m num sl mn h' ht hn9 hg C e15 e16 i hi
  have q := C.2.2.2.1 i hi
  have r := rfT ht
  unfold fX3_readOf
  rw [c_hasGuest C.1 hn9, b2_some, nI_toInt (by omega), if_pos (show 0 ≤ (i : Int) ∧ (i : Int) < (n : Int) by omega)]
  refine ok_f (by decide) ?_
  rw [e15, h1]
  refine ok_t rfl ?_
  unfold fX3_worthWithoutText
  rw [if_pos (inb_nI (by omega) (by decide)), ix_nI (by omega), r.1, r.2.2.1, r.2.2.2.1, q.1, q.2.2.1, q.2.2.2.1]
  have e : (if num i 3 = 0 then some (num i 0 + 2 * num i 2 - 5, h') else some (num i 0 + 2 * num i 2 - 0, h')) = some (num i 0 + 2 * num i 2 - (if num i 3 = 0 then 5 else 0), h') := by
    by_cases c : num i 3 = 0
    · rw [if_pos c, if_pos c]
    · rw [if_neg c, if_neg c]
  rw [e, b2_some]
  unfold fX3_readOf_26
  refine ok_let ?_
  have G : Fr Sr h' (wI h' 15 3 0) := Fr.rf.w (Or.inr ⟨rfl, rfl⟩)
  have := rd_end (t := t) (P1 := nI i) (x2 := nI i) (x3 := num i 0 + 2 * num i 2 - (if num i 3 = 0 then 5 else 0)) (x4 := 0) (x5 := 0) (n := FU - 1) G (Or.inl (by rw [wI_rd, if_neg (by omega), e15, h1]; decide))
  exact this
theorem ml0 {h : AH} (h15 : h.1 59 15 = 0) : ML h law0 := by
  intro n m num sl mn h' hn9 M e14 e15 e68 e71 i hi
  unfold fX10_sorryBy
  rw [e15, h15]
  refine ok_t rfl ?_
  rw [num_of M hn9 hi (k := 0) (K := 0) (by omega) rfl, b2_some, num_of M hn9 hi (k := 2) (K := 2) (by omega) rfl, b2_some, num_of M hn9 hi (k := 3) (K := 3) (by omega) rfl, b2_some]
  unfold fX10_sorryBy_36
  rw [m_bound, b2_some, m_bound, b2_some]
  by_cases c : num i 3 = 0
  · refine ok_t c (ok_some ⟨?_, Fr.rf⟩)
    show jmax 0 (jmin 99 (num i 0 + 2 * num i 2 - 5)) = clp (num i 0 + 2 * num i 2 - (if num i 3 = 0 then 5 else 0))
    rw [if_pos c]
    rfl
  · refine ok_f c (ok_some ⟨?_, Fr.rf⟩)
    show jmax 0 (jmin 99 (num i 0 + 2 * num i 2 - 0)) = clp (num i 0 + 2 * num i 2 - (if num i 3 = 0 then 5 else 0))
    rw [if_neg c]
    rfl
theorem inv0 : Inv h0 := by
  obtain ⟨⟨a1, a2, a3, a4, a5, a6, a7⟩, ⟨b1, b2⟩, ⟨c1, c2⟩, ⟨d1, d2, d3, d4⟩, ⟨e1, e2, e3, e4⟩, f1, f2⟩ := h0_i
  refine ⟨0, 0, 0, fun _ _ => 0, fun _ _ => 0, 0, law0, ⟨⟨by omega, by omega, fun i hi => absurd hi (Nat.not_lt_zero i), fun i hi => absurd hi (Nat.not_lt_zero i), by unfold rgK; decide⟩, ⟨a1, a2, a3, fun i hi => absurd hi (Nat.not_lt_zero i), fun i hi => absurd hi (Nat.not_lt_zero i)⟩, fun i hi => absurd hi (Nat.not_lt_zero i), a4, fun i hi => absurd hi (Nat.not_lt_zero i), a5, a6, a7, fun i hi => absurd hi (Nat.not_lt_zero i)⟩, ⟨0, by omega, b1, b2, fun i hi => absurd hi (Nat.not_lt_zero i)⟩, h0_led, ⟨by rw [c1, c2], Or.inl c2⟩, ⟨0, 0, by omega, by omega, d1, d2, d3, d4, fun i hi => absurd hi (Nat.not_lt_zero i)⟩, ⟨by omega, e1, e2, fun i hi => absurd hi (Nat.not_lt_zero i), ⟨0, by omega, e3, e4⟩, h0_tr⟩, fun s hs => ?_, ⟨h0_c1, h0_c2, h0_c3, h0_c4⟩, cl0 f1, ml0 f2, law0_in⟩
  obtain ⟨s1, s2, s3, s4⟩ := h0_sh s hs
  refine ⟨Or.inl ⟨s1, s2⟩, ⟨0, by omega, s3, s4⟩, fun i hi => ?_⟩
  rw [h0_2]
  rfl
