/-! ===== deeds ===== -/
/-- what a number's place holds -/
def valN (num sl : Nat → Nat → Int32) (mn : Int32) (a w : Nat) : Int32 := if w = 8 then mn else if w < 6 then num a w else if w = 9 then sl a 2 else sl a (w - 6)
def vl9 (n m a w : Nat) : Prop := vld n m a w ∨ (w = 9 ∧ a < m)
theorem hasN_nI {n m : Nat} {p w : Int32} (hn : n ≤ 9) (hm : m ≤ 13) (h : hasN n m p w) : ∃ a k, p = nI a ∧ w = nI k ∧ vl9 n m a k ∧ a < 13 ∧ k < 10 := by
  have hp : 0 ≤ p.toInt ∧ p.toInt < 13 := by unfold hasN at h; omega
  have hw : 0 ≤ w.toInt ∧ w.toInt < 10 := by unfold hasN at h; omega
  refine ⟨p.toInt.toNat, w.toInt.toNat, i_eq.mpr (by rw [nI_toInt (by omega)]; omega), i_eq.mpr (by rw [nI_toInt (by omega)]; omega), ?_, by omega, by omega⟩
  unfold vl9 vld
  unfold hasN at h
  omega
theorem hasN_of {n m a k : Nat} (h : vl9 n m a k) (hn : n ≤ 9) (hm : m ≤ 13) : hasN n m (nI a) (nI k) := by
  unfold hasN
  unfold vl9 vld at h
  rw [nI_toInt (by omega), nI_toInt (by omega)]
  omega
theorem c_adr {h : AH} {n m a w : Nat} {num sl : Nat → Nat → Int32} {mn : Int32} (T : TI h n m num sl mn) (hv : vl9 n m a w) (hw : w ≠ 8) : h.1 (cadr 1 w) a = valN num sl mn a w := by
  unfold cadr valN
  rw [if_neg hw]
  by_cases c6 : w < 6
  · rw [if_pos c6, if_pos c6]
    have ha : a < n := by unfold vl9 vld at hv; omega
    obtain ⟨d0, d1, d2, d3, d5⟩ := T.c.2.2.2.1 a ha
    have d4 := T.2.2.1 a ha
    have c : w = 0 ∨ w = 1 ∨ w = 2 ∨ w = 3 ∨ w = 4 ∨ w = 5 := by omega
    rcases c with rfl | rfl | rfl | rfl | rfl | rfl
    · exact d0
    · exact d1
    · exact d2
    · exact d3
    · exact d4
    · exact d5
  · rw [if_neg c6, if_neg c6]
    have ha : a < m := by unfold vl9 vld at hv; omega
    obtain ⟨s0, s1, s2⟩ := T.c.2.2.2.2 a ha
    have c : w = 6 ∨ w = 7 ∨ w = 9 := by unfold vl9 vld at hv; omega
    rcases c with rfl | rfl | rfl
    · exact s1
    · exact s2
    · exact s0
theorem c_numberOf {h : AH} {n m a w : Nat} {num sl : Nat → Nat → Int32} {mn : Int32} (T : TI h n m num sl mn) (hv : vl9 n m a w) : fX7_numberOf 1 (nI a) (nI w) h = some (valN num sl mn a w, h) := by
  have hn9 := T.n9
  have hm12 := T.m12
  have hw : w < 10 := by unfold vl9 vld at hv; omega
  have ha : a < 13 := by unfold vl9 vld at hv; omega
  unfold fX7_numberOf
  rw [c_hasNumber T.c.1 T.c.2.1 hn9 (by omega), b2_some, if_pos (hasN_of hv hn9 (by omega)), if_neg (by decide)]
  by_cases c8 : w = 8
  · subst c8
    rw [if_pos (show nI 8 = (8 : Int32) from rfl), T.c.2.2.1]
    rfl
  · rw [if_neg (by rw [show (8 : Int32) = nI 8 from rfl, nI_eq (by omega) (by omega)]; exact c8), c_numbersOf (Or.inl rfl) hw c8, b2_some, KD_t (Or.inl rfl) w hw]
    have hi : inb (nI a) (if w < 6 then 9 else 13) = true := by
      by_cases q : w < 6
      · rw [if_pos q]; exact inb_nI (by unfold vl9 vld at hv; omega) (by decide)
      · rw [if_neg q]; exact inb_nI (by omega) (by decide)
    rw [if_pos ⟨rfl, hi⟩, ix_nI (by omega), c_adr T hv c8]
theorem m_place {h : AH} {n m : Nat} (hn : h.1 59 2 = nI n) (hm : h.1 59 3 = nI m) (hn9 : n ≤ 9) (hm12 : m ≤ 12) (p w : Int32) : fX10_place p w h = some (if hasN n m p w ∧ ¬ w.toInt = 9 then nI (plc p.toInt.toNat w.toInt.toNat) else -1, h) := by
  have e0 : (0 : Int32).toInt = 0 := by decide
  have e5 : (5 : Int32).toInt = 5 := by decide
  have e6 : (6 : Int32).toInt = 6 := by decide
  have e7 : (7 : Int32).toInt = 7 := by decide
  have e8 : (8 : Int32).toInt = 8 := by decide
  have b29 : (w.toInt = 6 ∨ w.toInt = 7) → fX10_place_29 p w p w h = some (if hasN n m p w ∧ ¬ w.toInt = 9 then nI (plc p.toInt.toNat w.toInt.toNat) else -1, h) := by
    intro hw
    unfold fX10_place_29
    rw [m_isIn, b2_some, hm, show (1 : Int32) = nI 1 from rfl, pk_sub_toInt (by omega) (by omega), e0]
    by_cases c : 0 ≤ p.toInt ∧ p.toInt ≤ (m : Int) - ((1 : Nat) : Int)
    · rw [if_pos c, if_neg (by decide), if_pos (show hasN n m p w ∧ ¬ w.toInt = 9 by unfold hasN; omega)]
      obtain ⟨ep, hp⟩ := nI_of_rg (p := p) (a := 12) c.1 (by omega) (by decide)
      obtain ⟨a, ea⟩ : ∃ a, a = p.toInt.toNat := ⟨_, rfl⟩
      rw [← ea] at ep hp ⊢
      have ew : w = nI w.toInt.toNat := i_eq.mpr (by rw [nI_toInt (by omega)]; omega)
      obtain ⟨k, ek⟩ : ∃ k, k = w.toInt.toNat := ⟨_, rfl⟩
      rw [← ek] at ew ⊢
      have e : (54 : Int32) + 3 * p + w = nI (54 + 3 * a + k) := by rw [ep, ew, show (3 : Int32) = nI 3 from rfl, pk_mul, show (54 : Int32) = nI 54 from rfl, nI_add, nI_add]
      have e2 : nI (54 + 3 * a + k) - 6 = nI (plc a k) := by
        unfold plc
        rw [if_neg (by omega), if_pos (by omega), i_eq, show (6 : Int32) = nI 6 from rfl, pk_sub_toInt (by omega) (by omega), nI_toInt (by omega)]
        omega
      rw [e, e2]
    · rw [if_neg c, if_pos rfl, if_neg (show ¬ (hasN n m p w ∧ ¬ w.toInt = 9) by unfold hasN; omega)]
  unfold fX10_place
  simp only [i_eq, e0, e6, e7, e8]
  by_cases c8 : w.toInt = 8
  · rw [if_pos c8]
    by_cases c1 : p.toInt = 0
    · rw [if_pos c1, if_pos (show hasN n m p w ∧ ¬ w.toInt = 9 by unfold hasN; omega)]
      unfold plc
      rw [if_pos (by omega)]
      rfl
    · rw [if_neg c1, if_neg (show ¬ (hasN n m p w ∧ ¬ w.toInt = 9) by unfold hasN; omega)]
  · rw [if_neg c8]
    by_cases c6 : w.toInt = 6
    · rw [if_pos c6]; exact b29 (by omega)
    · rw [if_neg c6]
      by_cases c7 : w.toInt = 7
      · rw [if_pos c7]; exact b29 (by omega)
      · rw [if_neg c7, m_isIn, b2_some, e0, e5]
        by_cases c5 : 0 ≤ w.toInt ∧ w.toInt ≤ 5
        · rw [if_pos c5, if_neg (by decide), m_isGuest hn hn9, b2_some]
          by_cases c1 : 0 ≤ p.toInt ∧ p.toInt < n
          · rw [if_pos c1, if_neg (by decide), if_pos (show hasN n m p w ∧ ¬ w.toInt = 9 by unfold hasN; omega)]
            obtain ⟨ep, hp⟩ := nI_of_rg (p := p) (a := 9) c1.1 (by omega) (by decide)
            obtain ⟨ew, hw⟩ := nI_of_rg (p := w) (a := 9) c5.1 (by omega) (by decide)
            obtain ⟨a, ea⟩ : ∃ a, a = p.toInt.toNat := ⟨_, rfl⟩
            obtain ⟨k, ek⟩ : ∃ k, k = w.toInt.toNat := ⟨_, rfl⟩
            rw [← ea] at ep ⊢
            rw [← ek] at ew ⊢
            rw [ep, ew, show (6 : Int32) = nI 6 from rfl, pk_mul, nI_add]
            unfold plc
            rw [if_neg (by omega), if_neg (by omega)]
          · rw [if_neg c1, if_pos (by decide), if_neg (show ¬ (hasN n m p w ∧ ¬ w.toInt = 9) by unfold hasN; omega)]
        · rw [if_neg c5, if_pos (by decide), if_neg (show ¬ (hasN n m p w ∧ ¬ w.toInt = 9) by unfold hasN; omega)]
theorem plc_lt {n m a w : Nat} (hn : n ≤ 9) (hm : m ≤ 12) (h : vld n m a w) : plc a w < 94 := by
  unfold vld at h
  unfold plc
  split
  · omega
  · split <;> omega
theorem m_plc {h : AH} {n m a w : Nat} {num sl : Nat → Nat → Int32} {mn : Int32} (T : TI h n m num sl mn) (hv : vld n m a w) : h.1 60 (plc a w) = valN num sl mn a w := by
  unfold plc valN
  unfold vld at hv
  by_cases c8 : w = 8
  · rw [if_pos c8, if_pos c8]; exact T.m.2.2.1
  · rw [if_neg c8, if_neg c8]
    by_cases c6 : w = 6 ∨ w = 7
    · rw [if_pos c6, if_neg (by omega), if_neg (by omega)]
      exact T.2.2.2.2.2.2.2.2 a (by omega) (w - 6) (by omega)
    · rw [if_neg c6, if_pos (by omega)]
      exact T.m.2.1 a (by omega) w (by omega)
theorem op_of (p w : Int32) : Sim (fX9_of p w) (fX10_of p w) := by
  have e0 : (0 : Int32).toInt = 0 := by decide
  have e9 : (9 : Int32).toInt = 9 := by decide
  refine sim_think (fun n m num sl mn Λ => if hasN n m p w then valN num sl mn p.toInt.toNat w.toInt.toNat else -1) (fun n m B num sl mn Λ h T O => ?_) (fun n m B num sl mn Λ h T O => ?_)
  · have hn9 := T.n9
    have hm12 := T.m12
    unfold fX9_of
    rw [c_hasNumber T.c.1 T.c.2.1 hn9 (by omega), b2_some]
    by_cases c : hasN n m p w
    · rw [if_pos c, if_pos c]
      refine ok_f (by decide) ?_
      obtain ⟨a, k, ea, ek, hv, la, lk⟩ := hasN_nI hn9 (by omega) c
      subst ea
      subst ek
      rw [c_numberOf T hv, b2_some, nI_toInt (by omega), nI_toInt (by omega)]
      exact ok_some ⟨rfl, Fr.rf⟩
    · rw [if_neg c, if_neg c]
      exact ok_t rfl (ok_some ⟨rfl, Fr.rf⟩)
  · have hn9 := T.n9
    have hm12 := T.m12
    unfold fX10_of
    refine ok_if (fun c9 => ?_) (fun c9 => ?_)
    · rw [i_eq, e9] at c9
      rw [m_isIn, b2_some, T.2.2.2.2.2.2.2.1, show (1 : Int32) = nI 1 from rfl, pk_sub_toInt (by omega) (by omega), e0]
      by_cases c : 0 ≤ p.toInt ∧ p.toInt ≤ (m : Int) - ((1 : Nat) : Int)
      · rw [if_pos c, if_pos (show hasN n m p w by unfold hasN; omega)]
        refine ok_f (by decide) ?_
        obtain ⟨ep, hp⟩ := nI_of_rg (p := p) (a := 12) c.1 (by omega) (by decide)
        obtain ⟨a, ea⟩ : ∃ a, a = p.toInt.toNat := ⟨_, rfl⟩
        rw [← ea] at ep hp ⊢
        have e : (54 : Int32) + 3 * p + 2 = nI (54 + 3 * a + 2) := by rw [ep, show (3 : Int32) = nI 3 from rfl, pk_mul, show (54 : Int32) = nI 54 from rfl, nI_add, show (2 : Int32) = nI 2 from rfl, nI_add]
        rw [e]
        refine ok_t (inb_nI (by omega) (by decide)) (ok_some ⟨?_, Fr.rf⟩)
        show h.1 60 (ix (nI (54 + 3 * a + 2))) = _
        rw [ix_nI (by omega), T.2.2.2.2.2.2.2.2 a (by omega) 2 (by omega)]
        unfold valN
        rw [if_neg (by omega), if_neg (by omega), if_pos (by omega)]
      · rw [if_neg c, if_neg (show ¬ hasN n m p w by unfold hasN; omega)]
        exact ok_t rfl (ok_some ⟨rfl, Fr.rf⟩)
    · rw [i_eq, e9] at c9
      rw [m_place T.m.1 T.2.2.2.2.2.2.2.1 hn9 hm12, b2_some]
      by_cases c : hasN n m p w
      · rw [if_pos (show hasN n m p w ∧ ¬ w.toInt = 9 from ⟨c, c9⟩), if_pos c]
        obtain ⟨a, k, ea, ek, hv, la, lk⟩ := hasN_nI hn9 (by omega) c
        subst ea
        subst ek
        rw [nI_toInt (by omega)] at c9
        have hv : vld n m a k := by rcases hv with q | q; exact q; omega
        rw [nI_toInt (by omega), nI_toInt (by omega)]
        have hl := plc_lt hn9 hm12 hv
        have hl' : plc a k < 94 := hl
        refine ok_f (fun z => nI_nm1 (show plc a k < 2 ^ 31 by omega) z.symm) (ok_t (inb_nI hl' (by decide)) (ok_some ⟨?_, Fr.rf⟩))
        show h.1 60 (ix (nI (plc a k))) = _
        rw [ix_nI (show plc a k < 2 ^ 31 by omega), m_plc T hv]
        rfl
      · rw [if_neg (show ¬ (hasN n m p w ∧ ¬ w.toInt = 9) from fun z => c z.1), if_neg c]
        exact ok_t rfl (ok_some ⟨rfl, Fr.rf⟩)
theorem op_led (p : Int32) : Sim (fX9_led p) (fX10_led p) := by
  have e0 : (0 : Int32).toInt = 0 := by decide
  have e4 : (4 : Int32).toInt = 4 := by decide
  have e5 : (5 : Int32).toInt = 5 := by decide
  refine sim_thinkH (fun h n m num sl mn Λ => if 0 ≤ p.toInt ∧ p.toInt < 5 then h.1 32 p.toInt.toNat else -1) (fun n m num sl mn Λ h h' F => ?_) (fun n m B num sl mn Λ h T O => ?_) (fun n m B num sl mn Λ h T O => ?_)
  · rw [F.1 32 _ (by unfold Scr; omega)]
  · unfold fX9_led
    by_cases c : 0 ≤ p.toInt ∧ p.toInt < 5
    · rw [if_pos c]
      obtain ⟨ep, hp⟩ := nI_of_rg (p := p) (a := 5) c.1 (by omega) (by decide)
      refine ok_f (by rw [i_lt, e0]; omega) (ok_f (by rw [i_le, e5]; omega) ?_)
      rw [ep]
      refine ok_t (inb_nI (by omega) (by decide)) (ok_some ⟨?_, Fr.rf⟩)
      show h.1 32 (ix (nI _)) = _
      rw [ix_nI (by omega), nI_toInt (by omega)]
      rfl
    · rw [if_neg c]
      refine ok_if (fun _ => ok_some ⟨rfl, Fr.rf⟩) (fun c1 => ok_t ?_ (ok_some ⟨rfl, Fr.rf⟩))
      rw [i_lt, e0] at c1
      rw [i_le, e5]
      omega
  · unfold fX10_led
    rw [m_isIn, b2_some, e0, e4]
    by_cases c : 0 ≤ p.toInt ∧ p.toInt < 5
    · rw [if_pos c, if_pos (show 0 ≤ p.toInt ∧ p.toInt ≤ 4 by omega)]
      refine ok_f (by decide) ?_
      obtain ⟨ep, hp⟩ := nI_of_rg (p := p) (a := 5) c.1 (by omega) (by decide)
      rw [ep]
      refine ok_t (inb_nI (by omega) (by decide)) (ok_some ⟨?_, Fr.rf⟩)
      show h.1 79 (ix (nI _)) = _
      rw [ix_nI (by omega), nI_toInt (by omega), O.2.1 _ (by omega)]
      rfl
    · rw [if_neg c, if_neg (show ¬ (0 ≤ p.toInt ∧ p.toInt ≤ 4) by omega)]
      exact ok_t rfl (ok_some ⟨rfl, Fr.rf⟩)
theorem op_count (p : Int32) : Sim (fX9_count p) (fX10_count p) := by
  refine sim_of (fun n m B num sl mn Λ h T O => ?_)
  obtain ⟨L, l1, l2, l3, l4⟩ := O.1
  obtain ⟨d, kn, c1, c2, c3, c4, c5, c6, c7⟩ := O.2.2.2.1
  obtain ⟨b1, b2, b3, b4, ⟨R, r1, r2, r3⟩, b6⟩ := O.2.2.2.2.1
  have I : Inv h := ⟨n, m, B, num, sl, mn, Λ, T, O⟩
  unfold fX9_count
  rw [T.c.1, T.c.2.1, l2, c3, b2, r2]
  have key : ∀ v : Int32, fX10_count p h = some (v, h) → Ok (some (v, h)) (fun q => Ok (fX10_count p q.2) (fun q2 => q.1 = q2.1 ∧ Inv q2.2)) := by
    intro v e
    refine ok_some ?_
    show Ok (fX10_count p h) _
    rw [e]
    exact ok_some ⟨rfl, I⟩
  have ex : fX10_count p h = if p = 0 then some (nI n, h) else if p = 1 then some (nI m, h) else if p = 2 then some (nI L, h) else if p = 3 then some (nI d, h) else if p = 4 then some (nI B, h) else if p = 5 then some (nI R, h) else some (-1, h) := by
    unfold fX10_count
    rw [T.m.1, T.2.2.2.2.2.2.2.1, l3, c5, b3, r3]
  refine ok_if (fun q0 => key _ ?_) (fun q0 => ok_if (fun q1 => key _ ?_) (fun q1 => ok_if (fun q2 => key _ ?_) (fun q2 => ok_if (fun q3 => key _ ?_) (fun q3 => ok_if (fun q4 => key _ ?_) (fun q4 => ok_if (fun q5 => key _ ?_) (fun q5 => key _ ?_))))))
  · rw [ex, if_pos q0]
  · rw [ex, if_neg q0, if_pos q1]
  · rw [ex, if_neg q0, if_neg q1, if_pos q2]
  · rw [ex, if_neg q0, if_neg q1, if_neg q2, if_pos q3]
  · rw [ex, if_neg q0, if_neg q1, if_neg q2, if_neg q3, if_pos q4]
  · rw [ex, if_neg q0, if_neg q1, if_neg q2, if_neg q3, if_neg q4, if_pos q5]
  · rw [ex, if_neg q0, if_neg q1, if_neg q2, if_neg q3, if_neg q4, if_neg q5]
