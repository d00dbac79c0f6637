theorem c_zero {s : Nat} {P0 P1 : Int32} {h : AH} (hs : s < 6) : Ok (fX5_holdRow_26 (47 + 2 * s) P0 P1 FU 0 h) (fun h' => h'.1 = h.1 ∧ ∀ o k, h'.2 o k = if o = 48 + 2 * s ∧ k < 60 then 0 else h.2 o k) := by
  refine L1 (f := fX5_holdRow_26 (47 + 2 * s) P0 P1) (b := fX5_holdRow_26_b (47 + 2 * s) P0 P1) (fun _ => rfl) (fun r x h' => ∃ c, c + r = 60 ∧ x = nI c ∧ h'.1 = h.1 ∧ ∀ o k, h'.2 o k = if o = 48 + 2 * s ∧ k < c then 0 else h.2 o k) ?_ 60 FU 0 h (by unfold FU; omega) ⟨0, by omega, rfl, rfl, fun o k => by rw [if_neg (by omega)]⟩
  rintro r x h' ⟨c, hc, rfl, h1, h2⟩ Q hQ
  unfold fX5_holdRow_26_b
  rw [(rfS s hs).2]
  refine ok_if (fun d1 => ?_) (fun d1 => ?_)
  · rw [show (60 : Int32) = nI 60 from rfl, nI_leI (by omega) (by omega)] at d1
    have e : c = 60 := by omega
    subst e
    exact ok_some ⟨h1, h2⟩
  · rw [show (60 : Int32) = nI 60 from rfl, nI_leI (by omega) (by omega)] at d1
    refine ok_t (inb_nI (by omega) (by decide)) (ok_let ?_)
    rw [ix_nI (by omega), nI_1]
    refine hQ (r - 1) _ _ (by omega) ⟨c + 1, by omega, rfl, by rw [wL_1]; exact h1, fun o k => ?_⟩
    rw [wL_rd]
    by_cases e : o = 48 + 2 * s ∧ k = c
    · rw [if_pos e, if_pos (by omega)]
    · rw [if_neg e, h2]
      by_cases e2 : o = 48 + 2 * s ∧ k < c
      · rw [if_pos e2, if_pos (by omega)]
      · rw [if_neg e2, if_neg (by omega)]
theorem m_zero {s : Nat} {P0 P1 P2 : Int32} {h : AH} (hs : s < 6) : Ok (fX10_row_48 P0 P1 P2 FU (nI s) 0 h) (fun q => q.1 = 1 ∧ q.2.1 = h.1 ∧ ∀ o k, q.2.2 o k = if o = 77 ∧ 60 * s ≤ k ∧ k < 60 * s + 60 then 0 else h.2 o k) := by
  refine L2 (f := fX10_row_48 P0 P1 P2) (b := fX10_row_48_b P0 P1 P2) (fun _ => rfl) (fun r x y h' => ∃ c, c + r = 60 ∧ x = nI s ∧ y = nI c ∧ h'.1 = h.1 ∧ ∀ o k, h'.2 o k = if o = 77 ∧ 60 * s ≤ k ∧ k < 60 * s + c then 0 else h.2 o k) ?_ 60 FU (nI s) 0 h (by unfold FU; omega) ⟨0, by omega, rfl, rfl, rfl, fun o k => by rw [if_neg (by omega)]⟩
  rintro r x y h' ⟨c, hc, rfl, rfl, h1, h2⟩ Q hQ
  unfold fX10_row_48_b
  refine ok_if (fun d1 => ?_) (fun d1 => ?_)
  · rw [show (60 : Int32) = nI 60 from rfl, nI_leI (by omega) (by omega)] at d1
    have e : c = 60 := by omega
    subst e
    exact ok_some ⟨rfl, h1, h2⟩
  · rw [show (60 : Int32) = nI 60 from rfl, nI_leI (by omega) (by omega)] at d1
    have ex : (60 : Int32) * nI s + nI c = nI (60 * s + c) := by rw [show (60 : Int32) = nI 60 from rfl, pk_mul, nI_add]
    rw [ex]
    refine ok_t (inb_nI (by omega) (by decide)) (ok_let ?_)
    rw [ix_nI (by omega), nI_1]
    refine hQ (r - 1) _ _ _ (by omega) ⟨c + 1, by omega, rfl, rfl, by rw [wL_1]; exact h1, fun o k => ?_⟩
    rw [wL_rd]
    by_cases e : o = 77 ∧ k = 60 * s + c
    · rw [if_pos e, if_pos (by omega)]
    · rw [if_neg e, h2]
      by_cases e2 : o = 77 ∧ 60 * s ≤ k ∧ k < 60 * s + c
      · rw [if_pos e2, if_pos (by omega)]
      · rw [if_neg e2, if_neg (by omega)]
theorem c_hold {s : Nat} {t z : Int32} {h : AH} (hs : s < 6) (z0 : 0 ≤ z.toInt) (z1 : z.toInt ≤ 60) : Ok (fX5_holdRow (47 + 2 * s) t z h) (fun h' => (∀ o k, o ≠ 47 + 2 * s → h'.1 o k = h.1 o k) ∧ (∀ o k, h'.2 o k = if o = 48 + 2 * s ∧ k < 60 then 0 else h.2 o k) ∧ h'.1 (47 + 2 * s) 0 = 2 ∧ h'.1 (47 + 2 * s) 2 = t ∧ h'.1 (47 + 2 * s) 3 = z) := by
  have e0 : (0 : Int32).toInt = 0 := by decide
  have e60 : (60 : Int32).toInt = 60 := by decide
  have ejz : jmax 0 (jmin 60 z) = z := by rw [i_eq, jmax_toInt, jmin_toInt, e0, e60]; omega
  unfold fX5_holdRow
  rw [ejz]
  refine ok_let (ok_let (ok_let ?_))
  refine ok_mono (c_zero hs) (fun h' hh => ?_)
  obtain ⟨a1, a2⟩ := hh
  refine ⟨fun o k q => ?_, a2, ?_, ?_, ?_⟩
  · rw [a1, wI_rd, if_neg (by omega), wI_rd, if_neg (by omega), wI_rd, if_neg (by omega)]
  · rw [a1]; simp [wI_rd]
  · rw [a1]; simp [wI_rd]
  · rw [a1]; simp [wI_rd]
theorem op_row (p t z : Int32) : Sim (fX9_row p t z) (fX10_row p t z) := by
  have e0 : (0 : Int32).toInt = 0 := by decide
  have e4 : (4 : Int32).toInt = 4 := by decide
  have e60 : (60 : Int32).toInt = 60 := by decide
  refine sim_of (fun n m B num sl mn Λ h T O => ?_)
  by_cases c1 : 0 ≤ p.toInt ∧ p.toInt < 6
  · by_cases c2 : 0 ≤ t.toInt ∧ t.toInt ≤ 4
    · have t1 : ¬ t < 0 := by rw [i_lt, e0]; omega
      have t2 : ¬ 4 < t := by rw [i_lt, e4]; omega
      by_cases c3 : z.toInt ≤ 60
      · have z1 : z ≤ 60 := by rw [i_le, e60]; exact c3
        by_cases c4 : 0 ≤ z.toInt
        · have z2 : (0 : Int32) ≤ z := by rw [i_le, e0]; exact c4
          obtain ⟨ep, hp⟩ := nI_of_rg (p := p) (a := 5) (by omega) (by omega) (by decide)
          obtain ⟨s, es⟩ : ∃ s, s = p.toInt.toNat := ⟨_, rfl⟩
          rw [← es] at ep hp
          have hs : s < 6 := by omega
          clear es
          subst ep
          have r46 := rfS s hs
          obtain ⟨et, ht⟩ := nI_of_rg (p := t) (a := 4) c2.1 c2.2 (by decide)
          obtain ⟨ez, hz⟩ := nI_of_rg (p := z) (a := 60) c4 c3 (by decide)
          unfold fX9_row
          rw [c_isShelf, b2_some, if_pos c1, if_neg (by decide), if_neg t1, if_neg t2, if_pos z1, if_pos z2, if_pos (inb_nI (by omega) (by decide)), ix_nI (by omega), r46.1]
          refine ok_bV (c_hold hs c4 c3) (fun h1 hh => ok_some ?_)
          obtain ⟨a1, a2, vA0, vA2, vA3⟩ := hh
          show Ok (fX10_row (nI s) t z h1) _
          unfold fX10_row
          rw [m_isShelf, b2_some, if_pos c1, if_neg (by decide), m_isIn, b2_some, e0, e4, if_pos c2, if_neg (by decide), if_pos z1, if_pos z2, if_pos (inb_nI (by omega) (by decide)), ix_nI (by omega)]
          refine ok_let (ok_let ?_)
          refine ok_mono (m_zero hs) (fun q hq => ?_)
          obtain ⟨b0, b1, b2⟩ := hq
          refine ⟨b0.symm, ?_⟩
          have k1 : ∀ o k, q.2.1 o k = if o = 76 ∧ k = s then z else if o = 75 ∧ k = s then t else h1.1 o k := fun o k => by
            rw [b1, wI_rd, wI_rd]
          have k2 : ∀ o k, q.2.2 o k = if o = 77 ∧ 60 * s ≤ k ∧ k < 60 * s + 60 then 0 else if o = 48 + 2 * s ∧ k < 60 then 0 else h.2 o k := fun o k => by
            rw [b2]
            show (if o = 77 ∧ 60 * s ≤ k ∧ k < 60 * s + 60 then 0 else h1.2 o k) = _
            rw [a2]
          refine inv_sh T O (fun o k w => ?_) (fun s' hs' => ?_)
          · rw [k1, if_neg (by omega), if_neg (by omega)]; exact a1 o k (by omega)
          · by_cases e : s' = s
            · subst e
              refine ⟨Or.inr (Or.inr ⟨?_, t.toInt.toNat, by omega, ?_, ?_, fun q0 i hi => ?_⟩), ⟨z.toInt.toNat, by omega, ?_, ?_⟩, fun i hi => ?_⟩
              · rw [k1, if_neg (by omega), if_neg (by omega)]; exact vA0
              · rw [k1, if_neg (by omega), if_neg (by omega), vA2]; exact et
              · rw [k1, if_neg (by omega), if_pos ⟨rfl, rfl⟩]; exact et
              · rw [k2, if_neg (by omega), if_pos (by omega)]; rfl
              · rw [k1, if_neg (by omega), if_neg (by omega), vA3]; exact ez
              · rw [k1, if_pos ⟨rfl, rfl⟩]; exact ez
              · rw [k2, if_pos (by omega), k2, if_neg (by omega), if_pos (by omega)]
            · refine Shl_eq (fun k => ?_) ?_ ?_ (fun i hi => ?_) (fun i hi => ?_) (O.sh s' hs')
              · rw [k1, if_neg (by omega), if_neg (by omega)]; exact a1 _ _ (by omega)
              · rw [k1, if_neg (by omega), if_neg (by omega)]; exact a1 _ _ (by omega)
              · rw [k1, if_neg (by omega), if_neg (by omega)]; exact a1 _ _ (by omega)
              · rw [k2, if_neg (by omega), if_neg (by omega)]
              · rw [k2, if_neg (by omega), if_neg (by omega)]
        · refine deed_no (v := -14) T O ?_ ?_
          · unfold fX9_row
            rw [c_isShelf, b2_some, if_pos c1, if_neg (by decide), if_neg t1, if_neg t2, if_pos z1, if_neg (by rw [i_le, e0]; exact c4)]
          · unfold fX10_row
            rw [m_isShelf, b2_some, if_pos c1, if_neg (by decide), m_isIn, b2_some, e0, e4, if_pos c2, if_neg (by decide), if_pos z1, if_neg (by rw [i_le, e0]; exact c4)]
      · refine deed_no (v := -1) T O ?_ ?_
        · unfold fX9_row
          rw [c_isShelf, b2_some, if_pos c1, if_neg (by decide), if_neg t1, if_neg t2, if_neg (by rw [i_le, e60]; exact c3)]
        · unfold fX10_row
          rw [m_isShelf, b2_some, if_pos c1, if_neg (by decide), m_isIn, b2_some, e0, e4, if_pos c2, if_neg (by decide), if_neg (by rw [i_le, e60]; exact c3)]
    · refine deed_no (v := -1) T O ?_ ?_
      · unfold fX9_row
        rw [c_isShelf, b2_some, if_pos c1, if_neg (by decide)]
        by_cases q : t < 0
        · rw [if_pos q]
        · rw [if_neg q, if_pos (by rw [i_lt, e0] at q; rw [i_lt, e4]; omega)]
      · unfold fX10_row
        rw [m_isShelf, b2_some, if_pos c1, if_neg (by decide), m_isIn, b2_some, e0, e4, if_neg c2, if_pos rfl]
  · refine deed_no (v := -1) T O ?_ ?_
    · unfold fX9_row
      rw [c_isShelf, b2_some, if_neg c1, if_pos rfl]
    · unfold fX10_row
      rw [m_isShelf, b2_some, if_neg c1, if_pos rfl]
