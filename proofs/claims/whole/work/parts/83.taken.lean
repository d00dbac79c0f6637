/-! taken -/
def upK (k : Nat) : Nat := [0, 0, 0, 2, 1, 3, 0, 4].getD k 0
def anc : Nat → Nat → Nat → Bool
  | 0, k, t => k == t
  | f + 1, k, t => k == t || anc f (upK k) t
theorem anc_t : ∀ t, t < 8 → anc 8 t t = true := by decide +kernel
theorem anc_0 : ∀ t, t < 8 → 0 ≠ t → anc 8 0 t = false := by decide +kernel
theorem anc_s : ∀ k, k < 8 → ∀ t, t < 8 → k ≠ t → anc 8 (upK k) t = anc 8 k t := by decide +kernel
theorem upK_lt : ∀ k, k < 8 → upK k < 8 ∧ (k ≠ 0 → upK k < k) ∧ (k = 0 → upK k = 0) := by decide +kernel
theorem upK_ST : ∀ k, k < 8 → ST 202 k = nI (upK k) := by decide +kernel
theorem upK_m : ∀ k, k < 8 → mAbv.getD k 0 = if k = 0 then -1 else nI (upK k) := by decide +kernel
theorem c_ofKind {k t : Nat} {P0 P1 : Int32} {h : AH} (hk : k < 8) (ht : t < 8) : fX1_isOfKind_20 P0 P1 FU (nI t) (nI k) 0 h = some (if anc 8 k t = true then 1 else 0, h) := by
  refine ok_eq ?_
  refine L3 (f := fX1_isOfKind_20 P0 P1) (b := fX1_isOfKind_20_b P0 P1) (fun _ => rfl) (fun r x y z h' => ∃ c j, c + r = 8 ∧ x = nI t ∧ y = nI j ∧ z = nI c ∧ j < 8 ∧ (j = 0 ∨ j + c ≤ 7) ∧ anc 8 j t = anc 8 k t ∧ h' = h) ?_ 8 FU (nI t) (nI k) 0 h (by unfold FU; omega) ⟨0, k, by omega, rfl, rfl, rfl, hk, by omega, rfl, rfl⟩
  rintro r x y z h' ⟨c, j, hc, rfl, rfl, rfl, hj, hjc, ha, rfl⟩ Q hQ
  have e44 : (j = t ∨ j = 0) → Ok (fX1_isOfKind_44 P0 P1 (nI t) (nI j) h') (fun q => q.1 = (if anc 8 k t = true then 1 else 0) ∧ q.2 = h') := by
    intro q
    unfold fX1_isOfKind_44
    rw [← ha]
    by_cases e : j = t
    · refine ok_t (by rw [e]) ?_
      rw [e, anc_t t ht]
      exact ok_some ⟨rfl, rfl⟩
    · refine ok_f (fun z => e (nI_inj (by omega) (by omega) z)) ?_
      have j0 : j = 0 := by omega
      rw [j0, anc_0 t ht (by omega)]
      exact ok_some ⟨rfl, rfl⟩
  unfold fX1_isOfKind_20_b
  refine ok_if (fun d1 => ?_) (fun d1 => ?_)
  · rw [show (8 : Int32) = nI 8 from rfl, nI_leI (by omega) (by omega)] at d1
    exact e44 (by omega)
  · rw [show (8 : Int32) = nI 8 from rfl, nI_leI (by omega) (by omega)] at d1
    refine ok_if (fun d2 => e44 (Or.inl (nI_inj (by omega) (by omega) d2))) (fun d2 => ?_)
    have hne : j ≠ t := fun z => d2 (by rw [z])
    refine ok_t (inb_nI hj (by decide)) (ok_let ?_)
    rw [ix_nI (by omega), upK_ST j hj, nI_1]
    have u := upK_lt j hj
    exact hQ (r - 1) _ _ _ _ (by omega) ⟨c + 1, upK j, by omega, rfl, rfl, rfl, u.1, by omega, by rw [anc_s j hj t ht hne]; exact ha, rfl⟩
theorem m_ofKind {k t : Nat} {P0 P1 K : Int32} {h : AH} (hk : k < 8) (ht : t < 8) (hc : ∀ k, k < 8 → h.1 82 k = mAbv.getD k 0) : fX10_taken_66 P0 P1 FU (nI t) K (nI k) h = some (if anc 8 k t = true then K else -12, h) := by
  refine ok_eq ?_
  refine L3 (f := fX10_taken_66 P0 P1) (b := fX10_taken_66_b P0 P1) (fun _ => rfl) (fun r x y z h' => x = nI t ∧ y = K ∧ h' = h ∧ ((r = 0 ∧ z = -1 ∧ anc 8 k t = false) ∨ (∃ j, r = j + 1 ∧ j < 8 ∧ z = nI j ∧ anc 8 j t = anc 8 k t))) ?_ (k + 1) FU (nI t) K (nI k) h (by unfold FU; omega) ⟨rfl, rfl, rfl, Or.inr ⟨k, rfl, hk, rfl, rfl⟩⟩
  rintro r x y z h' ⟨rfl, rfl, rfl, hz⟩ Q hQ
  unfold fX10_taken_66_b
  rcases hz with ⟨rfl, rfl, ha⟩ | ⟨j, rfl, hj, rfl, ha⟩
  · refine ok_t rfl ?_
    unfold fX10_taken_90
    rw [ha]
    exact ok_t rfl (ok_some ⟨rfl, rfl⟩)
  · have nm : ¬ nI j = -1 := fun z => nI_nm1 (show j < 2 ^ 31 by omega) z.symm
    refine ok_f nm ?_
    by_cases e : j = t
    · refine ok_t (by rw [e]) ?_
      unfold fX10_taken_90
      rw [← ha, e, anc_t t ht]
      exact ok_f (by rw [← e]; exact nm) (ok_some ⟨rfl, rfl⟩)
    · refine ok_f (fun z => e (nI_inj (by omega) (by omega) z)) (ok_t (inb_nI hj (by decide)) (ok_let ?_))
      rw [ix_nI (by omega), hc j hj, upK_m j hj]
      by_cases j0 : j = 0
      · rw [if_pos j0]
        rw [j0, anc_0 t ht (by omega)] at ha
        exact hQ 0 _ _ _ _ (by omega) ⟨rfl, rfl, rfl, Or.inl ⟨rfl, rfl, ha.symm⟩⟩
      · rw [if_neg j0]
        have u := upK_lt j hj
        have := u.2.1 j0
        exact hQ (upK j + 1) _ _ _ _ (by omega) ⟨rfl, rfl, rfl, Or.inr ⟨upK j, rfl, u.1, rfl, by rw [anc_s j hj t ht e]; exact ha⟩⟩
theorem op_taken (p t : Int32) : Sim (fX9_taken p t) (fX10_taken p t) := by
  have e0 : (0 : Int32).toInt = 0 := by decide
  have e7 : (7 : Int32).toInt = 7 := by decide
  have e10 : (10 : Int32).toInt = 10 := by decide
  refine sim_of (fun n m B num sl mn Λ h T O => ?_)
  have hB := O.b50
  obtain ⟨b1, b2, b3, b4, -, -⟩ := O.2.2.2.2.1
  have hc := O.2.2.2.2.2.2.1.2.2.1
  by_cases c1 : 0 ≤ p.toInt ∧ p.toInt < 6
  · by_cases c2 : 0 ≤ t.toInt ∧ t.toInt ≤ 7
    · obtain ⟨ep, hp⟩ := nI_of_rg (p := p) (a := 5) (by omega) (by omega) (by decide)
      obtain ⟨s, es⟩ : ∃ s, s = p.toInt.toNat := ⟨_, rfl⟩
      rw [← es] at ep hp
      have hs : s < 6 := by omega
      clear es
      subst ep
      obtain ⟨et, ht⟩ := nI_of_rg (p := t) (a := 7) c2.1 c2.2 (by decide)
      obtain ⟨u, eu⟩ : ∃ u, u = t.toInt.toNat := ⟨_, rfl⟩
      rw [← eu] at et ht
      clear eu
      subst et
      have r46 := rfS s hs
      rcases (O.sh s hs).1 with ⟨a1, a2⟩ | ⟨a1, b, hb, a2, a3⟩ | ⟨a1, q, hq, a2, a3, -⟩
      · refine deed_no (v := -11) T O ?_ ?_
        · unfold fX9_taken
          rw [c_isShelf, b2_some, if_pos c1, if_neg (by decide), c_isKind, b2_some, if_pos c2, if_neg (by decide), if_pos (inb_nI (by omega) (by decide)), ix_nI (by omega), r46.1]
          show (if h.1 (47 + 2 * s) 0 = 0 then _ else _) = _
          rw [a1, if_pos rfl]
        · unfold fX10_taken
          rw [m_isShelf, b2_some, if_pos c1, if_neg (by decide), m_isIn, b2_some, e0, e7, if_pos c2, if_neg (by decide), if_pos (inb_nI (by omega) (by decide)), ix_nI (by omega), a2, if_neg (by decide), if_pos rfl]
      · obtain ⟨g1, k, hk, g2⟩ := b4 b hb
        refine deed_no (v := if anc 8 k u = true then nI k else -12) T O ?_ ?_
        · unfold fX9_taken
          rw [c_isShelf, b2_some, if_pos c1, if_neg (by decide), c_isKind, b2_some, if_pos c2, if_neg (by decide), if_pos (inb_nI (by omega) (by decide)), ix_nI (by omega), r46.1]
          show (if h.1 (47 + 2 * s) 0 = 0 then _ else _) = _
          rw [a1, if_neg (by decide), if_pos rfl, a2]
          unfold fX1_isOfKind
          rw [c_hasBody b2 hB, b2_some, if_pos (show 0 ≤ (nI b).toInt ∧ (nI b).toInt < (B : Int) by rw [nI_toInt (by omega)]; omega), if_neg (by decide), if_pos (inb_nI (by omega) (by decide)), ix_nI (by omega), g2]
          rw [let_eq, c_ofKind hk (by omega), b2_some, a2, if_pos (inb_nI (by omega) (by decide)), ix_nI (by omega), g2]
          by_cases q : anc 8 k u = true
          · rw [if_pos q, if_pos q]; rfl
          · rw [if_neg q, if_neg q]; rfl
        · unfold fX10_taken
          have e : nI (10 + b) - 10 = nI b := by rw [i_eq, show (10 : Int32) = nI 10 from rfl, pk_sub_toInt (by omega) (by omega), nI_toInt (by omega)]; omega
          rw [m_isShelf, b2_some, if_pos c1, if_neg (by decide), m_isIn, b2_some, e0, e7, if_pos c2, if_neg (by decide), if_pos (inb_nI (by omega) (by decide)), ix_nI (by omega), a3, if_pos (by rw [i_le, e10, nI_toInt (by omega)]; omega), e, if_pos (inb_nI (by omega) (by decide)), ix_nI (by omega), g1, g2, let_eq, m_ofKind hk (by omega) hc]
      · refine deed_no (v := -12) T O ?_ ?_
        · unfold fX9_taken
          rw [c_isShelf, b2_some, if_pos c1, if_neg (by decide), c_isKind, b2_some, if_pos c2, if_neg (by decide), if_pos (inb_nI (by omega) (by decide)), ix_nI (by omega), r46.1]
          show (if h.1 (47 + 2 * s) 0 = 0 then _ else _) = _
          rw [a1, if_neg (by decide), if_neg (by decide)]
        · unfold fX10_taken
          rw [m_isShelf, b2_some, if_pos c1, if_neg (by decide), m_isIn, b2_some, e0, e7, if_pos c2, if_neg (by decide), if_pos (inb_nI (by omega) (by decide)), ix_nI (by omega), a3, if_neg (by rw [i_le, e10, nI_toInt (by omega)]; omega), if_neg (fun z => nI_nm1 (show q < 2 ^ 31 by omega) z.symm)]
    · refine deed_no (v := -1) T O ?_ ?_
      · unfold fX9_taken
        rw [c_isShelf, b2_some, if_pos c1, if_neg (by decide), c_isKind, b2_some, if_neg c2, if_pos rfl]
      · unfold fX10_taken
        rw [m_isShelf, b2_some, if_pos c1, if_neg (by decide), m_isIn, b2_some, e0, e7, if_neg c2, if_pos rfl]
  · refine deed_no (v := -1) T O ?_ ?_
    · unfold fX9_taken
      rw [c_isShelf, b2_some, if_neg c1, if_pos rfl]
    · unfold fX10_taken
      rw [m_isShelf, b2_some, if_neg c1, if_pos rfl]
