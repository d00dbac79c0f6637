/-! image and back -/
theorem cp_nI {n : Nat} (h : n ≤ 9) : cpOK 0 0 (nI n) 9 9 = true := by
  unfold cpOK
  rw [ix0, ix_nI (show n < 2 ^ 31 by omega), nI_toInt (by omega)]
  have e0 : (0 : Int32).toInt = 0 := by decide
  rw [e0]
  simp
  omega
theorem c_take {h : AH} {n m : Nat} {num sl : Nat → Nat → Int32} {mn : Int32} (hn : n ≤ 9) (C : CT h n m num sl mn) : Ok (fX2_take 1 h) (fun h' => h'.1 33 4 = nI n ∧ h'.1 33 5 = mn ∧ h'.1 33 6 = 1 ∧ (∀ i, i < n → h'.1 34 i = num i 0 ∧ h'.1 35 i = num i 2 ∧ h'.1 36 i = num i 5) ∧ (∀ k, k < 5 → h'.1 37 k = h.1 32 k) ∧ Fr (fun o k => 33 ≤ o ∧ o ≤ 37) h h') := by
  obtain ⟨⟨c1, c2, c3, c4, c5⟩, c6⟩ := C
  obtain ⟨r0, r1, r2, r3, r4, r5, r6, r7, r8⟩ := rfT (t := 1) (Or.inl rfl)
  have i5 : ix (5 : Int32) = 5 := by decide
  have cc := cp_nI hn
  have c55 : cpOK 0 0 5 5 5 = true := by decide
  unfold fX2_take
  rw [r0, r2, r5, c1, ix0, i5]
  refine ok_let ?_
  have z1 : (wI h 33 4 (nI n)).1 1 11 = mn := by rw [wI_rd, if_neg (by omega)]; exact c3
  rw [z1]
  have z2 : (wI (wI h 33 4 (nI n)) 33 5 mn).1 33 4 = nI n := by simp [wI_rd]
  refine ok_let ?_
  rw [z2, if_pos cc, ix_nI (by omega)]
  have z3 : (cpI (wI (wI h 33 4 (nI n)) 33 5 mn) 2 0 34 0 n).1 33 4 = nI n := by rw [cpI_rd, if_neg (by omega)]; exact z2
  refine ok_let ?_
  rw [z3, if_pos cc, ix_nI (by omega)]
  have z4 : (cpI (cpI (wI (wI h 33 4 (nI n)) 33 5 mn) 2 0 34 0 n) 4 0 35 0 n).1 33 4 = nI n := by rw [cpI_rd, if_neg (by omega)]; exact z3
  refine ok_let ?_
  rw [z4, if_pos cc, ix_nI (by omega)]
  refine ok_let (ok_t c55 (ok_let (ok_let (ok_some ⟨?_, ?_, ?_, fun i hi => ?_, fun k hk => ?_, ?_⟩))))
  · simp [cpI_rd, wI_rd]
  · simp [cpI_rd, wI_rd]
  · simp [cpI_rd, wI_rd]
  · obtain ⟨d0, d1, d2, d3, d5⟩ := c4 i hi
    simp only [cpI_rd, wI_rd]
    simp [hi]
    exact ⟨d0, d2, d5⟩
  · simp only [cpI_rd, wI_rd]
    simp [hk]
  · refine ⟨fun o k q => ?_, rfl⟩
    simp only [cpI_rd, wI_rd]
    rw [if_neg (by omega), if_neg (by omega), if_neg (by omega), if_neg (by omega), if_neg (by omega), if_neg (by omega), if_neg (by omega)]
theorem m_image {h : AH} {n : Nat} (hn : h.1 59 2 = nI n) : Ok (fX10_image h) (fun q => q.1 = h.1 79 2 ∧ q.2.1 59 38 = nI n ∧ q.2.1 59 39 = 1 ∧ (∀ k, k < 94 → q.2.1 80 k = h.1 60 k) ∧ (∀ k, k < 5 → q.2.1 81 k = h.1 79 k) ∧ Fr (fun o k => o = 80 ∨ o = 81 ∨ (o = 59 ∧ (k = 38 ∨ k = 39))) h q.2) := by
  unfold fX10_image
  refine L1 (f := fX10_image_2) (b := fX10_image_2_b) (fun _ => rfl) (fun r x h' => ∃ c, c + r = 94 ∧ x = nI c ∧ (∀ k, k < c → h'.1 80 k = h.1 60 k) ∧ Fr (fun o k => o = 80 ∨ o = 81 ∨ (o = 59 ∧ (k = 38 ∨ k = 39))) h h') ?_ 94 FU 0 h (by unfold FU; omega) ⟨0, by omega, rfl, fun k hk => by omega, Fr.rf⟩
  rintro r x h' ⟨c, hc, rfl, h1, F'⟩ Q hQ
  unfold fX10_image_2_b
  refine ok_if (fun d1 => ?_) (fun d1 => ?_)
  · rw [show (94 : Int32) = nI 94 from rfl, nI_leI (by omega) (by omega)] at d1
    have e : c = 94 := by omega
    subst e
    refine L1 (f := fX10_image_28) (b := fX10_image_28_b) (fun _ => rfl) (fun r x h2 => ∃ c, c + r = 5 ∧ x = nI c ∧ (∀ k, k < 94 → h2.1 80 k = h.1 60 k) ∧ (∀ k, k < c → h2.1 81 k = h.1 79 k) ∧ Fr (fun o k => o = 80 ∨ o = 81 ∨ (o = 59 ∧ (k = 38 ∨ k = 39))) h h2) ?_ 5 FU 0 h' (by unfold FU; omega) ⟨0, by omega, rfl, h1, fun k hk => by omega, F'⟩
    rintro r2 x2 h2 ⟨c, hc, rfl, h3, h4, F2⟩ Q2 hQ2
    unfold fX10_image_28_b
    refine ok_if (fun d2 => ?_) (fun d2 => ?_)
    · rw [show (5 : Int32) = nI 5 from rfl, nI_leI (by omega) (by omega)] at d2
      rw [F2.1 59 2 (by omega), hn, ix2]
      refine ok_let (ok_let (ok_some ⟨?_, ?_, ?_, fun k hk => ?_, fun k hk => ?_, (F2.w (by omega)).w (by omega)⟩))
      · show (wI (wI h2 59 38 (nI n)) 59 39 1).1 79 2 = h.1 79 2
        rw [wI_rd, if_neg (by omega), wI_rd, if_neg (by omega)]; exact F2.1 79 2 (by omega)
      · simp [wI_rd]
      · simp [wI_rd]
      · show (wI (wI h2 59 38 (nI n)) 59 39 1).1 80 k = _
        rw [wI_rd, if_neg (by omega), wI_rd, if_neg (by omega)]; exact h3 k hk
      · show (wI (wI h2 59 38 (nI n)) 59 39 1).1 81 k = _
        rw [wI_rd, if_neg (by omega), wI_rd, if_neg (by omega)]; exact h4 k (by omega)
    · rw [show (5 : Int32) = nI 5 from rfl, nI_leI (by omega) (by omega)] at d2
      refine ok_t (inb_nI (by omega) (by decide)) (ok_let ?_)
      rw [ix_nI (by omega), nI_1]
      refine hQ2 (r2 - 1) _ _ (by omega) ⟨c + 1, by omega, rfl, fun k hk => by rw [wI_rd, if_neg (by omega)]; exact h3 k hk, fun k hk => ?_, F2.w (by omega)⟩
      rw [wI_rd]
      by_cases e : k = c
      · rw [if_pos ⟨rfl, e⟩, e]; exact F2.1 79 c (by omega)
      · rw [if_neg (fun z => e z.2)]; exact h4 k (by omega)
  · rw [show (94 : Int32) = nI 94 from rfl, nI_leI (by omega) (by omega)] at d1
    refine ok_t (inb_nI (by omega) (by decide)) (ok_let ?_)
    rw [ix_nI (by omega), nI_1]
    refine hQ (r - 1) _ _ (by omega) ⟨c + 1, by omega, rfl, fun k hk => ?_, F'.w (by omega)⟩
    rw [wI_rd]
    by_cases e : k = c
    · rw [if_pos ⟨rfl, e⟩, e]; exact F'.1 60 c (by omega)
    · rw [if_neg (fun z => e z.2)]; exact h1 k (by omega)
theorem op_image : Sim fX9_image fX10_image := by
  refine sim_of (fun n m B num sl mn Λ h T O => ?_)
  have hn9 := T.n9
  unfold fX9_image
  refine ok_bV (c_take hn9 T.ct) (fun h1 hh => ok_some ?_)
  obtain ⟨a1, a2, a3, a4, a5, F1⟩ := hh
  show Ok (fX10_image h1) _
  have M1 : MT h1 n m num sl mn := T.mt.fr F1 (fun o k q z => by omega)
  refine ok_mono (m_image M1.1) (fun q hq => ?_)
  obtain ⟨b0, b1, b2, b3, b4, F2⟩ := hq
  refine ⟨?_, ?_⟩
  · show h1.1 32 (ix 2) = q.1
    rw [b0, ix2, F1.1 32 2 (by omega), F1.1 79 2 (by omega), O.2.1 2 (by omega)]
  · have F : Fr (fun o k => (33 ≤ o ∧ o ≤ 37) ∨ (o = 80 ∨ o = 81 ∨ (o = 59 ∧ (k = 38 ∨ k = 39)))) h q.2 := (F1.mono (fun o k q => Or.inl q)).tr (F2.mono (fun o k q => Or.inr q))
    have g : ∀ o k, 33 ≤ o ∧ o ≤ 37 → q.2.1 o k = h1.1 o k := fun o k z => F2.1 o k (by omega)
    obtain ⟨oa, ob, oc, od, oe, og, oh, oi, oj, ol⟩ := O
    refine ⟨n, m, B, num, sl, mn, Λ, T.fr F (fun o k q z => by omega), oa.fr F (fun o k q z => by omega), ob.fr F (fun o k q z => by omega), ⟨by rw [b2, g 33 6 (by omega), a3], Or.inr ⟨by rw [g 33 6 (by omega)]; exact a3, n, Nat.le_refl n, by rw [g 33 4 (by omega)]; exact a1, b1, ?_, ?_, fun i hi => ?_, fun k hk => ?_⟩⟩, od.fr (Nat.le_refl n) (Nat.le_refl m) F (fun o k q z => by omega), oe.fr F (fun o k q z => by omega), fun s hs => (og s hs).fr (Nat.le_refl B) hs F (fun o k q z => by omega), oh.fr F (fun o k q z => by omega), oi.fr F (fun o k q z => by omega), oj.fr F (fun o k q z => by omega), ol⟩
    · rw [g 33 5 (by omega), a2]; exact T.1.2.2.2.2
    · rw [b3 93 (by omega), g 33 5 (by omega), a2]; exact M1.2.2.1
    · obtain ⟨x0, x2, x5⟩ := a4 i hi
      rw [b3 _ (by omega), b3 _ (by omega), b3 _ (by omega), g 34 i (by omega), g 35 i (by omega), g 36 i (by omega), x0, x2, x5]
      exact ⟨M1.2.1 i hi 0 (by omega), M1.2.1 i hi 2 (by omega), M1.2.1 i hi 5 (by omega), T.1.2.2.1 i hi 0 (by omega), T.1.2.2.1 i hi 2 (by omega), T.1.2.2.1 i hi 5 (by omega)⟩
    · rw [b4 k hk, g 37 k (by omega), a5 k hk, F1.1 79 k (by omega)]
      exact ob k hk
/-! back -/
def nuB (num : Nat → Nat → Int32) (A B C : Nat → Int32) (c : Nat) : Nat → Nat → Int32 := fun i k => if i < c then (if k = 0 then A i else if k = 2 then B i else if k = 5 then C i else num i k) else num i k
theorem c_layBack {h : AH} {n m c : Nat} {num sl : Nat → Nat → Int32} {mn : Int32} (hn : n ≤ 9) (hc : c ≤ n) (e4 : h.1 33 4 = nI c) (C : CT h n m num sl mn) : Ok (fX2_layBack 1 h) (fun h' => CT h' n m (nuB num (h.1 34) (h.1 35) (h.1 36) c) sl (h.1 33 5) ∧ (∀ k, k < 5 → h'.1 32 k = h.1 37 k) ∧ Fr SC h h') := by
  obtain ⟨⟨c1, c2, c3, c4, c5⟩, c6⟩ := C
  obtain ⟨r0, r1, r2, r3, r4, r5, r6, r7, r8⟩ := rfT (t := 1) (Or.inl rfl)
  have i5 : ix (5 : Int32) = 5 := by decide
  have cc := cp_nI (show c ≤ 9 by omega)
  have c55 : cpOK 0 0 5 5 5 = true := by decide
  unfold fX2_layBack
  rw [r0, r2, r5, ix0, i5]
  have z1 : (wI h 1 11 (h.1 33 5)).1 33 4 = nI c := by rw [wI_rd, if_neg (by omega)]; exact e4
  refine ok_let ?_
  rw [z1, if_pos cc, ix_nI (by omega)]
  have z2 : (cpI (wI h 1 11 (h.1 33 5)) 34 0 2 0 c).1 33 4 = nI c := by rw [cpI_rd, if_neg (by omega)]; exact z1
  refine ok_let ?_
  rw [z2, if_pos cc, ix_nI (by omega)]
  have z3 : (cpI (cpI (wI h 1 11 (h.1 33 5)) 34 0 2 0 c) 35 0 4 0 c).1 33 4 = nI c := by rw [cpI_rd, if_neg (by omega)]; exact z2
  refine ok_let ?_
  rw [z3, if_pos cc, ix_nI (by omega)]
  refine ok_let (ok_t c55 (ok_let (ok_some ⟨⟨⟨?_, ?_, ?_, fun i hi => ?_, fun s hs => ?_⟩, fun i hi => ?_⟩, fun k hk => ?_, ?_⟩)))
  · simp [cpI_rd, wI_rd]; exact c1
  · simp [cpI_rd, wI_rd]; exact c2
  · simp [cpI_rd, wI_rd]
  · obtain ⟨d0, d1, d2, d3, d5⟩ := c4 i hi
    simp only [cpI_rd, wI_rd]
    unfold nuB
    by_cases e : i < c
    · simp [e]; exact ⟨d1, d3⟩
    · simp [e]; exact ⟨d0, d1, d2, d3, d5⟩
  · simp [cpI_rd, wI_rd]; exact c5 s hs
  · simp only [cpI_rd, wI_rd]
    unfold nuB
    simp; exact c6 i hi
  · simp only [cpI_rd, wI_rd]
    simp [hk]
  · refine ⟨fun o k q => ?_, rfl⟩
    unfold SC at q
    simp only [cpI_rd, wI_rd]
    rw [if_neg (by omega), if_neg (by omega), if_neg (by omega), if_neg (by omega), if_neg (by omega)]
theorem MT_set {h : AH} {n m i k : Nat} {num sl : Nat → Nat → Int32} {mn v : Int32} (hn : n ≤ 9) (hm : m ≤ 12) (hi : i < n) (hk : k < 6) (M : MT h n m num sl mn) : MT (wI h 60 (6 * i + k) v) n m (setN num i k v) sl mn := by
  have := MT_put (a := i) (w := k) (v := v) hn hm M (by unfold vld; omega)
  have e1 : nuP num i k v = setN num i k v := by unfold nuP; rw [if_pos hk]
  have e2 : slP sl i k v = sl := by unfold slP; rw [if_neg (by omega)]
  have e3 : mnP mn k v = mn := by unfold mnP; rw [if_neg (by omega)]
  have e4 : plc i k = 6 * i + k := by unfold plc; rw [if_neg (by omega), if_neg (by omega)]
  rw [e1, e2, e3, e4] at this
  exact this
theorem m_back {h : AH} {n m c : Nat} {num sl : Nat → Nat → Int32} {mn : Int32} (hn : n ≤ 9) (hm : m ≤ 12) (hc : c ≤ n) (e38 : h.1 59 38 = nI c) (M : MT h n m num sl mn) : Ok (fX10_back_12 FU 0 h) (fun q => q.1 = h.1 81 2 ∧ MT q.2 n m (nuB num (fun i => h.1 80 (6 * i)) (fun i => h.1 80 (6 * i + 2)) (fun i => h.1 80 (6 * i + 5)) c) sl (h.1 80 93) ∧ (∀ k, k < 5 → q.2.1 79 k = h.1 81 k) ∧ Fr SM h q.2) := by
  refine L1 (f := fX10_back_12) (b := fX10_back_12_b) (fun _ => rfl) (fun r x h' => ∃ i, i + r = c ∧ x = nI i ∧ MT h' n m (nuB num (fun i => h.1 80 (6 * i)) (fun i => h.1 80 (6 * i + 2)) (fun i => h.1 80 (6 * i + 5)) i) sl mn ∧ Fr (fun o k => o = 60) h h') ?_ c FU 0 h (by unfold FU; omega) ⟨0, by omega, rfl, M, Fr.rf⟩
  rintro r x h' ⟨i, hi, rfl, M', F'⟩ Q hQ
  unfold fX10_back_12_b
  rw [F'.1 59 38 (by omega), e38]
  refine ok_if (fun d1 => ?_) (fun d1 => ?_)
  · rw [nI_leI (by omega) (by omega)] at d1
    have e : i = c := by omega
    subst e
    rw [ix93, F'.1 80 93 (by omega)]
    refine ok_let ?_
    have M2 : MT (wI h' 60 93 (h.1 80 93)) n m (nuB num (fun i => h.1 80 (6 * i)) (fun i => h.1 80 (6 * i + 2)) (fun i => h.1 80 (6 * i + 5)) i) sl (h.1 80 93) := by
      obtain ⟨m1, m2, m3, m4, m5, m6⟩ := M'
      refine ⟨by rw [wI_rd, if_neg (by omega)]; exact m1, fun j hj k hk => ?_, by rw [wI_rd, if_pos ⟨rfl, rfl⟩], by rw [wI_rd, if_neg (by omega)]; exact m4, by rw [wI_rd, if_neg (by omega)]; exact m5, fun s hs j hj => ?_⟩
      · rw [wI_rd, if_neg (by omega)]; exact m2 j hj k hk
      · rw [wI_rd, if_neg (by omega)]; exact m6 s hs j hj
    have F2 : Fr SM h (wI h' 60 93 (h.1 80 93)) := (F'.mono (fun o k q => by unfold SM; omega)).w (by unfold SM; omega)
    revert M2 F2
    generalize wI h' 60 93 (h.1 80 93) = h2
    intro M2 F2
    refine L1 (f := fX10_back_91) (b := fX10_back_91_b) (fun _ => rfl) (fun r x h3 => ∃ j, j + r = 5 ∧ x = nI j ∧ MT h3 n m (nuB num (fun i => h.1 80 (6 * i)) (fun i => h.1 80 (6 * i + 2)) (fun i => h.1 80 (6 * i + 5)) i) sl (h.1 80 93) ∧ (∀ k, k < j → h3.1 79 k = h.1 81 k) ∧ Fr SM h h3) ?_ 5 FU 0 h2 (by unfold FU; omega) ⟨0, by omega, rfl, M2, fun k hk => by omega, F2⟩
    rintro r2 x2 h3 ⟨j, hj, rfl, M3, l3, F3⟩ Q2 hQ2
    unfold fX10_back_91_b
    refine ok_if (fun d2 => ?_) (fun d2 => ?_)
    · rw [show (5 : Int32) = nI 5 from rfl, nI_leI (by omega) (by omega)] at d2
      rw [ix2]
      exact ok_some ⟨l3 2 (by omega), M3, fun k hk => l3 k (by omega), F3⟩
    · rw [show (5 : Int32) = nI 5 from rfl, nI_leI (by omega) (by omega)] at d2
      refine ok_t (inb_nI (by omega) (by decide)) (ok_let ?_)
      rw [ix_nI (by omega), nI_1, F3.1 81 j (by unfold SM Scr; omega)]
      refine hQ2 (r2 - 1) _ _ (by omega) ⟨j + 1, by omega, rfl, M3.fr (S := fun o k => o = 79) (Fr.rf.w rfl) (fun o k q z => by omega), fun k hk => ?_, F3.w (by unfold SM; omega)⟩
      rw [wI_rd]
      by_cases e : k = j
      · rw [if_pos ⟨rfl, e⟩, e]
      · rw [if_neg (fun z => e z.2)]; exact l3 k (by omega)
  · rw [nI_leI (by omega) (by omega)] at d1
    have hin : i < n := by omega
    have x0 : (6 : Int32) * nI i = nI (6 * i) := by rw [show (6 : Int32) = nI 6 from rfl, pk_mul]
    have x2 : nI (6 * i) + 2 = nI (6 * i + 2) := by rw [show (2 : Int32) = nI 2 from rfl, nI_add]
    have x5 : nI (6 * i) + 5 = nI (6 * i + 5) := by rw [show (5 : Int32) = nI 5 from rfl, nI_add]
    rw [x0, x2, x5]
    refine ok_t (inb_nI (by omega) (by decide)) ?_
    rw [ix_nI (show 6 * i < 2 ^ 31 by omega), F'.1 80 (6 * i) (by omega), m_change (K := 0) (k := 0) rfl (by omega) (by decide), bV_some]
    have Ma := MT_set (v := h.1 80 (6 * i)) hn hm hin (show 0 < 6 by omega) M'
    have Fa : Fr (fun o k => o = 60) h (wI h' 60 (6 * i + 0) (h.1 80 (6 * i))) := F'.w rfl
    revert Ma Fa
    generalize wI h' 60 (6 * i + 0) (h.1 80 (6 * i)) = ha
    intro Ma Fa
    refine ok_t (inb_nI (by omega) (by decide)) ?_
    rw [ix_nI (show 6 * i + 2 < 2 ^ 31 by omega), Fa.1 80 (6 * i + 2) (by omega), m_change (K := 2) (k := 2) rfl (by omega) (by decide), bV_some]
    have Mb := MT_set (v := h.1 80 (6 * i + 2)) hn hm hin (show 2 < 6 by omega) Ma
    have Fb : Fr (fun o k => o = 60) h (wI ha 60 (6 * i + 2) (h.1 80 (6 * i + 2))) := Fa.w rfl
    revert Mb Fb
    generalize wI ha 60 (6 * i + 2) (h.1 80 (6 * i + 2)) = hb
    intro Mb Fb
    refine ok_t (inb_nI (by omega) (by decide)) ?_
    rw [ix_nI (show 6 * i + 5 < 2 ^ 31 by omega), Fb.1 80 (6 * i + 5) (by omega), m_change (K := 5) (k := 5) rfl (by omega) (by decide), bV_some, nI_1]
    have Mc := MT_set (v := h.1 80 (6 * i + 5)) hn hm hin (show 5 < 6 by omega) Mb
    refine hQ (r - 1) _ _ (by omega) ⟨i + 1, by omega, rfl, ?_, Fb.w rfl⟩
    have ef : nuB num (fun i => h.1 80 (6 * i)) (fun i => h.1 80 (6 * i + 2)) (fun i => h.1 80 (6 * i + 5)) (i + 1) = setN (setN (setN (nuB num (fun i => h.1 80 (6 * i)) (fun i => h.1 80 (6 * i + 2)) (fun i => h.1 80 (6 * i + 5)) i) i 0 (h.1 80 (6 * i))) i 2 (h.1 80 (6 * i + 2))) i 5 (h.1 80 (6 * i + 5)) := by
      funext x y
      unfold setN nuB
      by_cases e : x = i
      · subst e
        by_cases y0 : y = 0
        · simp [y0]
        · by_cases y2 : y = 2
          · simp [y2]
          · by_cases y5 : y = 5
            · simp [y5]
            · simp [y0, y2, y5]
      · by_cases q : x < i
        · simp [e, q, show x < i + 1 by omega]
        · simp [e, q, show ¬ x < i + 1 by omega]
    rw [ef]
    exact Mc
theorem op_back : Sim fX9_back fX10_back := by
  refine sim_of (fun n m B num sl mn Λ h T O => ?_)
  have hn9 := T.n9
  have hm12 := T.m12
  obtain ⟨i1, i2⟩ := O.2.2.1
  rcases i2 with i2 | ⟨i2, c, hc, i3, i4, i5, i6, i7, i8⟩
  · refine deed_no (v := -5) T O ?_ ?_
    · unfold fX9_back
      rw [i2, if_pos rfl]
    · unfold fX10_back
      rw [i1, i2, if_pos rfl]
  · have W : WF n m (nuB num (h.1 34) (h.1 35) (h.1 36) c) sl (h.1 33 5) := by
      obtain ⟨w1, w2, w3, w4, w5⟩ := T.1
      refine ⟨w1, w2, fun i hi k hk => ?_, w4, i5⟩
      unfold nuB
      by_cases q : i < c
      · obtain ⟨y1, y2, y3, y4, y5, y6⟩ := i7 i q
        rw [if_pos q]
        by_cases k0 : k = 0
        · rw [if_pos k0, k0]; exact y4
        · rw [if_neg k0]
          by_cases k2 : k = 2
          · rw [if_pos k2, k2]; exact y5
          · rw [if_neg k2]
            by_cases k5 : k = 5
            · rw [if_pos k5, k5]; exact y6
            · rw [if_neg k5]; exact w3 i hi k hk
      · rw [if_neg q]; exact w3 i hi k hk
    refine deed_ok (n' := n) (m' := m) (v := h.1 37 2) (L := fun k => h.1 37 k) O W (Nat.le_refl n) (Nat.le_refl m) ?_ (fun h1 F1 => ?_)
    · unfold fX9_back
      rw [i2, if_neg (by decide), ix2]
      refine ok_bV (c_layBack hn9 hc i3 T.ct) (fun h2 hh => ?_)
      exact ok_some ⟨hh.2.1 2 (by omega), hh.1, hh.2.1, hh.2.2⟩
    · have M1 := T.mt.sc F1
      have g : ∀ o k, o = 80 ∨ o = 81 ∨ (o = 59 ∧ (k = 38 ∨ k = 39)) → h1.1 o k = h.1 o k := fun o k z => F1.1 o k (by unfold SC Scr; omega)
      unfold fX10_back
      rw [g 59 39 (by omega), i1, i2, if_neg (by decide)]
      refine ok_mono (m_back hn9 hm12 hc ((g 59 38 (by omega)).trans i4) M1) (fun q hq => ?_)
      obtain ⟨b0, b1, b2, b3⟩ := hq
      refine ⟨by rw [b0, g 81 2 (by omega), i8 2 (by omega)], ?_, fun k hk => by rw [b2 k hk, g 81 k (by omega), i8 k hk], b3⟩
      rw [g 80 93 (by omega), i6] at b1
      have ef : nuB num (fun i => h1.1 80 (6 * i)) (fun i => h1.1 80 (6 * i + 2)) (fun i => h1.1 80 (6 * i + 5)) c = nuB num (h.1 34) (h.1 35) (h.1 36) c := by
        funext x y
        unfold nuB
        by_cases q : x < c
        · obtain ⟨y1, y2, y3, y4, y5, y6⟩ := i7 x q
          simp only
          rw [if_pos q, if_pos q, g 80 (6 * x) (by omega), g 80 (6 * x + 2) (by omega), g 80 (6 * x + 5) (by omega), y1, y2, y3]
        · rw [if_neg q, if_neg q]
      rw [ef] at b1
      exact b1
