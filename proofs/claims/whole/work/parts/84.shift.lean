/-! shift -/
theorem c_places {t z : Nat} {h : AH} (hz : z ≤ 60) (ez : h.1 t 3 = nI z) (a b : Int32) : fX5_hasPlaces t a b h = some (if 0 ≤ a.toInt ∧ 0 ≤ b.toInt ∧ a.toInt + b.toInt ≤ z then 1 else 0, h) := by
  have e0 : (0 : Int32).toInt = 0 := by decide
  have key : (0 < lg_cmp (a.toInt64 + b.toInt64) (nI z).toInt64) ↔ (z : Int) < a.toInt + b.toInt := by
    have hs : (a.toInt64 + b.toInt64).toInt = a.toInt + b.toInt := by
      have ha := a.toInt_lt
      have ha' := a.le_toInt
      have hb := b.toInt_lt
      have hb' := b.le_toInt
      rw [Int64.toInt_add, Int32.toInt_toInt64, Int32.toInt_toInt64]
      rw [Int.bmod_eq_of_le (by omega) (by omega)]
    have hz2 : ((nI z).toInt64).toInt = z := by rw [Int32.toInt_toInt64, nI_toInt (by omega)]
    unfold lg_cmp
    by_cases c : a.toInt64 + b.toInt64 > (nI z).toInt64
    · rw [if_pos c]
      have c' : ((nI z).toInt64).toInt < (a.toInt64 + b.toInt64).toInt := Int64.lt_iff_toInt_lt.mp c
      rw [hs, hz2] at c'
      exact ⟨fun _ => c', fun _ => by decide⟩
    · rw [if_neg c]
      have c' : ¬ ((nI z).toInt64).toInt < (a.toInt64 + b.toInt64).toInt := fun q => c (Int64.lt_iff_toInt_lt.mpr q)
      rw [hs, hz2] at c'
      constructor
      · intro q
        split at q
        · exact absurd q (by decide)
        · exact absurd q (by decide)
      · intro q; exact absurd q c'
  unfold fX5_hasPlaces
  rw [ez]
  by_cases c1 : a < 0
  · rw [if_pos c1, if_neg (by rw [i_lt, e0] at c1; omega)]
  · rw [if_neg c1]
    by_cases c2 : b < 0
    · rw [if_pos c2, if_neg (by rw [i_lt, e0] at c2; omega)]
    · rw [if_neg c2]
      rw [i_lt, e0] at c1 c2
      by_cases c3 : 0 < lg_cmp (a.toInt64 + b.toInt64) (nI z).toInt64
      · rw [if_pos c3, if_neg (by rw [key] at c3; omega)]
      · rw [if_neg c3, if_pos (by rw [key] at c3; omega)]
theorem m_shift {a b i j l : Nat} {P0 P1 P2 P3 P4 : Int32} {h : AH} (ha : a < 6) (hb : b < 6) (hi : i + l ≤ 60) (hj : j + l ≤ 60) : Ok (fX10_shift_114 P0 P1 P2 P3 P4 FU (nI a) (nI i) (nI b) (nI j) (nI l) 0 h) (fun q => q.1 = nI l ∧ q.2.1 = h.1 ∧ ∀ o k, o ≠ 78 → q.2.2 o k = if o = 77 ∧ 60 * b + j ≤ k ∧ k < 60 * b + j + l then h.2 77 (60 * a + i + (k - (60 * b + j))) else h.2 o k) := by
  refine L6 (f := fX10_shift_114 P0 P1 P2 P3 P4) (b := fX10_shift_114_b P0 P1 P2 P3 P4) (fun _ => rfl) (fun r x1 x2 x3 x4 x5 x6 h' => ∃ c, c + r = l ∧ x1 = nI a ∧ x2 = nI i ∧ x3 = nI b ∧ x4 = nI j ∧ x5 = nI l ∧ x6 = nI c ∧ h'.1 = h.1 ∧ (∀ o k, o ≠ 78 → h'.2 o k = h.2 o k) ∧ ∀ k, k < c → h'.2 78 k = h.2 77 (60 * a + i + k)) ?_ l FU _ _ _ _ _ 0 h (by unfold FU; omega) ⟨0, by omega, rfl, rfl, rfl, rfl, rfl, rfl, rfl, fun _ _ _ => rfl, fun k hk => by omega⟩
  rintro r x1 x2 x3 x4 x5 x6 h' ⟨c, hc, rfl, rfl, rfl, rfl, rfl, rfl, h1, h2, h3⟩ Q hQ
  unfold fX10_shift_114_b
  refine ok_if (fun d1 => ?_) (fun d1 => ?_)
  · rw [nI_leI (by omega) (by omega)] at d1
    have e : c = l := by omega
    subst e
    refine L4 (f := fX10_shift_151 P0 P1 P2 P3 P4) (b := fX10_shift_151_b P0 P1 P2 P3 P4) (fun _ => rfl) (fun r y1 y2 y3 y4 h4 => ∃ d, d + r = c ∧ y1 = nI b ∧ y2 = nI j ∧ y3 = nI c ∧ y4 = nI d ∧ h4.1 = h.1 ∧ (∀ k, k < c → h4.2 78 k = h.2 77 (60 * a + i + k)) ∧ ∀ o k, o ≠ 78 → h4.2 o k = if o = 77 ∧ 60 * b + j ≤ k ∧ k < 60 * b + j + d then h.2 77 (60 * a + i + (k - (60 * b + j))) else h.2 o k) ?_ c FU (nI b) (nI j) (nI c) 0 h' (by unfold FU; omega) ⟨0, by omega, rfl, rfl, rfl, rfl, h1, h3, fun o k q => by rw [if_neg (by omega)]; exact h2 o k q⟩
    rintro r2 y1 y2 y3 y4 h4 ⟨d, hd, rfl, rfl, rfl, rfl, g1, g3, g2⟩ Q2 hQ2
    unfold fX10_shift_151_b
    refine ok_if (fun d2 => ?_) (fun d2 => ?_)
    · rw [nI_leI (by omega) (by omega)] at d2
      have e : d = c := by omega
      subst e
      exact ok_some ⟨rfl, g1, g2⟩
    · rw [nI_leI (by omega) (by omega)] at d2
      have ex : (60 : Int32) * nI b + nI j + nI d = nI (60 * b + j + d) := by rw [show (60 : Int32) = nI 60 from rfl, pk_mul, nI_add, nI_add]
      rw [ex]
      refine ok_t (inb_nI (by omega) (by decide)) (ok_t (inb_nI (by omega) (by decide)) (ok_let ?_))
      rw [ix_nI (show d < 2 ^ 31 by omega), ix_nI (show 60 * b + j + d < 2 ^ 31 by omega), nI_1, g3 d (by omega)]
      refine hQ2 (r2 - 1) _ _ _ _ _ (by omega) ⟨d + 1, by omega, rfl, rfl, rfl, rfl, by rw [wL_1]; exact g1, fun k hk => by rw [wL_rd, if_neg (by omega)]; exact g3 k hk, fun o k q => ?_⟩
      rw [wL_rd]
      by_cases e : o = 77 ∧ k = 60 * b + j + d
      · rw [if_pos e, if_pos (by omega), show k - (60 * b + j) = d by omega]
      · rw [if_neg e, g2 o k q]
        by_cases e2 : o = 77 ∧ 60 * b + j ≤ k ∧ k < 60 * b + j + d
        · rw [if_pos e2, if_pos (by omega)]
        · rw [if_neg e2, if_neg (by omega)]
  · rw [nI_leI (by omega) (by omega)] at d1
    have ex : (60 : Int32) * nI a + nI i + nI c = nI (60 * a + i + c) := by rw [show (60 : Int32) = nI 60 from rfl, pk_mul, nI_add, nI_add]
    rw [ex]
    refine ok_t (inb_nI (by omega) (by decide)) (ok_t (inb_nI (by omega) (by decide)) (ok_let ?_))
    rw [ix_nI (show c < 2 ^ 31 by omega), ix_nI (show 60 * a + i + c < 2 ^ 31 by omega), nI_1, h2 77 _ (by decide)]
    refine hQ (r - 1) _ _ _ _ _ _ _ (by omega) ⟨c + 1, by omega, rfl, rfl, rfl, rfl, rfl, rfl, by rw [wL_1]; exact h1, fun o k q => by rw [wL_rd, if_neg (by omega)]; exact h2 o k q, fun k hk => ?_⟩
    rw [wL_rd]
    by_cases e : k = c
    · rw [if_pos ⟨rfl, e⟩, e]
    · rw [if_neg (fun z => e z.2)]; exact h3 k (by omega)
theorem sub_big {z : Nat} {x : Int32} (hz : z ≤ 60) (hx : 0 ≤ x.toInt) : (nI z - x).toInt = (z : Int) - x.toInt := by
  have h1 := x.toInt_lt
  rw [Int32.toInt_sub, nI_toInt (by omega), Int.bmod_eq_of_le (by omega) (by omega)]
