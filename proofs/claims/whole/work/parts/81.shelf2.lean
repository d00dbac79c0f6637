def plR (h : AH) (s : Nat) (p : Int32) : Int32 := if h.1 (47 + 2 * s) 0 = 0 then -11 else if h.1 (47 + 2 * s) 0 = 2 then (if 0 ≤ p.toInt ∧ p.toInt < (h.1 (47 + 2 * s) 3).toInt then 0 else -13) else -12
theorem c_refP {s : Nat} {h : AH} (p : Int32) : fX9_refusalOfPlace (47 + 2 * s) p h = some (plR h s p, h) := by
  have e0 : (0 : Int32).toInt = 0 := by decide
  unfold fX9_refusalOfPlace plR
  by_cases c1 : h.1 (47 + 2 * s) 0 = 0
  · rw [if_pos c1, if_pos c1]
  · rw [if_neg c1, if_neg c1]
    by_cases c2 : h.1 (47 + 2 * s) 0 = 2
    · rw [if_pos c2, if_pos c2]
      simp only [i_lt, i_le, e0]
      by_cases c3 : p.toInt < 0
      · rw [if_pos c3, if_neg (by omega)]
      · rw [if_neg c3]
        by_cases c4 : (h.1 (47 + 2 * s) 3).toInt ≤ p.toInt
        · rw [if_pos c4, if_neg (by omega)]
        · rw [if_neg c4, if_pos (by omega)]
    · rw [if_neg c2, if_neg c2]
theorem m_rowAt {s B : Nat} {h : AH} (hs : s < 6) (hB : B ≤ 50) (S : Shl h B s) (p : Int32) : fX10_rowAt (nI s) p h = some (if plR h s p = 0 then 1 else plR h s p, h) := by
  have e0 : (0 : Int32).toInt = 0 := by decide
  have e4 : (4 : Int32).toInt = 4 := by decide
  obtain ⟨a, ⟨z, z1, z2, z3⟩, c⟩ := S
  unfold fX10_rowAt
  rw [m_isShelf, b2_some, if_pos (show 0 ≤ (nI s).toInt ∧ (nI s).toInt < 6 by rw [nI_toInt (by omega)]; omega), if_neg (by decide), if_pos (inb_nI (by omega) (by decide)), ix_nI (by omega), z3]
  rcases a with ⟨a1, a2⟩ | ⟨a1, i, hi, a2, a3⟩ | ⟨a1, q, hq, a2, a3, -⟩
  · have e : plR h s p = -11 := by unfold plR; rw [a1, if_pos rfl]
    rw [a2, if_pos rfl, e]; rfl
  · have e : plR h s p = -12 := by unfold plR; rw [a1, if_neg (by decide), if_neg (by decide)]
    rw [a3, if_neg (fun z => nI_nm1 (show 10 + i < 2 ^ 31 by omega) z.symm), if_neg (by rw [i_le, e4, nI_toInt (by omega)]; omega), e]; rfl
  · rw [a3, if_neg (fun z => nI_nm1 (show q < 2 ^ 31 by omega) z.symm), if_pos (by rw [i_le, e4, nI_toInt (by omega)]; omega), m_isIn, b2_some, e0, sub1_toInt (by omega)]
    by_cases c3 : 0 ≤ p.toInt ∧ p.toInt < (z : Int)
    · have e : plR h s p = 0 := by unfold plR; rw [a1, if_neg (by decide), if_pos rfl, z2, nI_toInt (by omega), if_pos c3]
      rw [if_pos (show 0 ≤ p.toInt ∧ p.toInt ≤ (z : Int) - 1 by omega), if_neg (by decide), e]; rfl
    · have e : plR h s p = -13 := by unfold plR; rw [a1, if_neg (by decide), if_pos rfl, z2, nI_toInt (by omega), if_neg c3]
      rw [if_neg (show ¬ (0 ≤ p.toInt ∧ p.toInt ≤ (z : Int) - 1) by omega), if_pos rfl, e]; rfl
theorem plR_0 {s B : Nat} {h : AH} {p : Int32} (S : Shl h B s) (e : plR h s p = 0) : 0 ≤ p.toInt ∧ p.toInt < 60 ∧ ∃ q, q < 5 ∧ h.1 (47 + 2 * s) 0 = 2 ∧ h.1 (47 + 2 * s) 2 = nI q ∧ h.1 75 s = nI q ∧ (q = 0 → ∀ i, i < 60 → (h.2 (48 + 2 * s) i).toInt32.toInt64 = h.2 (48 + 2 * s) i) := by
  obtain ⟨a, ⟨z, z1, z2, z3⟩, c⟩ := S
  unfold plR at e
  rw [z2, nI_toInt (by omega)] at e
  by_cases c1 : h.1 (47 + 2 * s) 0 = 0
  · rw [if_pos c1] at e; exact absurd e (by decide)
  · rw [if_neg c1] at e
    by_cases c2 : h.1 (47 + 2 * s) 0 = 2
    · rw [if_pos c2] at e
      by_cases c3 : 0 ≤ p.toInt ∧ p.toInt < (z : Int)
      · refine ⟨c3.1, by omega, ?_⟩
        rcases a with ⟨a1, a2⟩ | ⟨a1, i, hi, a2, a3⟩ | ⟨a1, q, hq, a2, a3, a4⟩
        · exact absurd a1 c1
        · rw [a1] at c2; exact absurd c2 (by decide)
        · exact ⟨q, hq, a1, a2, a3, a4⟩
      · rw [if_neg c3] at e; exact absurd e (by decide)
    · rw [if_neg c2] at e; exact absurd e (by decide)
theorem op_element (p i : Int32) : Sim (fX9_element p i) (fX10_element p i) := by
  refine sim_of (fun n m B num sl mn Λ h T O => ?_)
  have I : Inv h := ⟨n, m, B, num, sl, mn, Λ, T, O⟩
  have no : ∀ v : Int64, fX9_element p i h = some (v, h) → fX10_element p i h = some (v, h) → Ok (fX9_element p i h) (fun q => Ok (fX10_element p i q.2) (fun q2 => q.1 = q2.1 ∧ Inv q2.2)) := by
    intro v e1 e2
    rw [e1]
    refine ok_some ?_
    show Ok (fX10_element p i h) _
    rw [e2]
    exact ok_some ⟨rfl, I⟩
  by_cases c1 : 0 ≤ p.toInt ∧ p.toInt < 6
  · obtain ⟨ep, hp⟩ := nI_of_rg (p := p) (a := 5) (by omega) (by omega) (by decide)
    obtain ⟨s, es⟩ : ∃ s, s = p.toInt.toNat := ⟨_, rfl⟩
    rw [← es] at ep hp
    have hs : s < 6 := by omega
    clear es
    subst ep
    have r46 := rfS s hs
    have S := O.sh s hs
    by_cases c2 : plR h s i = 0
    · obtain ⟨i0, i1, -⟩ := plR_0 S c2
      obtain ⟨ei, hi⟩ := nI_of_rg (p := i) (a := 60) i0 (by omega) (by decide)
      obtain ⟨j, ej⟩ : ∃ j, j = i.toInt.toNat := ⟨_, rfl⟩
      rw [← ej] at ei hi
      have hj : j < 60 := by omega
      clear ej
      subst ei
      refine no (h.2 (48 + 2 * s) j) ?_ ?_
      · unfold fX9_element
        rw [c_isShelf, b2_some, if_pos c1, if_neg (by decide), if_pos (inb_nI (by omega) (by decide)), ix_nI (show s < 2 ^ 31 by omega), r46.1, c_refP, b2_some, if_pos c2, if_pos (inb_nI (by omega) (by decide)), ix_nI (show j < 2 ^ 31 by omega), r46.2]
      · unfold fX10_element
        have ex : (60 : Int32) * nI s + nI j = nI (60 * s + j) := by rw [show (60 : Int32) = nI 60 from rfl, pk_mul, nI_add]
        rw [m_rowAt hs O.b50 S, b2_some, if_pos c2, if_pos rfl, ex, if_pos (inb_nI (by omega) (by decide)), ix_nI (by omega), S.2.2 j hj]
    · refine no (-9223372036854775808) ?_ ?_
      · unfold fX9_element
        rw [c_isShelf, b2_some, if_pos c1, if_neg (by decide), if_pos (inb_nI (by omega) (by decide)), ix_nI (show s < 2 ^ 31 by omega), r46.1, c_refP, b2_some, if_neg c2]
      · unfold fX10_element
        rw [m_rowAt hs O.b50 S, b2_some, if_neg c2, if_neg]
        unfold plR
        split
        · decide
        · split
          · split <;> decide
          · decide
  · refine no (-9223372036854775808) ?_ ?_
    · unfold fX9_element
      rw [c_isShelf, b2_some, if_neg c1, if_pos rfl]
    · unfold fX10_element fX10_rowAt
      rw [m_isShelf, b2_some, if_neg c1, if_pos rfl]
      rfl
/-! what a sort keeps of a number -/
def cutV (q : Nat) (v : Int64) : Int64 := if q = 0 then v.toInt32.toInt8.toInt32.toInt64 else if q = 1 then v.toInt32.toInt16.toInt32.toInt64 else if q = 2 then v.toInt32.toInt64 else if q = 3 then v else if lg_cmp v 0 = 0 then 0 else 1
theorem op_put (p i : Int32) (v : Int64) : Sim (fX9_put p i v) (fX10_put p i v) := by
  refine sim_of (fun n m B num sl mn Λ h T O => ?_)
  by_cases c1 : 0 ≤ p.toInt ∧ p.toInt < 6
  · obtain ⟨ep, hp⟩ := nI_of_rg (p := p) (a := 5) (by omega) (by omega) (by decide)
    obtain ⟨s, es⟩ : ∃ s, s = p.toInt.toNat := ⟨_, rfl⟩
    rw [← es] at ep hp
    have hs : s < 6 := by omega
    clear es
    subst ep
    have r46 := rfS s hs
    have S := O.sh s hs
    by_cases c2 : plR h s i = 0
    · obtain ⟨i0, i1, q, hq, q1, q2, q3, q4⟩ := plR_0 S c2
      obtain ⟨ei, hi⟩ := nI_of_rg (p := i) (a := 60) i0 (by omega) (by decide)
      obtain ⟨j, ej⟩ : ∃ j, j = i.toInt.toNat := ⟨_, rfl⟩
      rw [← ej] at ei hi
      have hj : j < 60 := by omega
      clear ej
      subst ei
      have qc : q = 0 ∨ q = 1 ∨ q = 2 ∨ q = 3 ∨ q = 4 := by omega
      have cut : fX5_cut (47 + 2 * s) v h = some (cutV q v, h) := by
        unfold fX5_cut
        show (if h.1 (47 + 2 * s) 2 = 0 then _ else _) = _
        rw [q2]
        unfold cutV
        rcases qc with rfl | rfl | rfl | rfl | rfl
        · rfl
        · rfl
        · rfl
        · rfl
        · show (if lg_cmp v 0 = 0 then some ((0 : Int64), h) else some (1, h)) = some (if lg_cmp v 0 = 0 then 0 else 1, h)
          split <;> rfl
      have cf : fX9_put (nI s) (nI j) v h = some (1, wL h (48 + 2 * s) j (cutV q v)) := by
        unfold fX9_put
        rw [c_isShelf, b2_some, if_pos c1, if_neg (by decide), if_pos (inb_nI (by omega) (by decide)), ix_nI (show s < 2 ^ 31 by omega), r46.1, c_refP, b2_some, if_pos c2, cut, b2_some, if_pos (inb_nI (by omega) (by decide)), ix_nI (show j < 2 ^ 31 by omega), r46.2]
        rfl
      rw [cf]
      refine ok_some ?_
      obtain ⟨h1, eh⟩ : ∃ h1, h1 = wL h (48 + 2 * s) j (cutV q v) := ⟨_, rfl⟩
      rw [← eh]
      have g1 : h1.1 = h.1 := by rw [eh]; exact wL_1 _ _ _ _
      have g2 : ∀ o k, h1.2 o k = if o = 48 + 2 * s ∧ k = j then cutV q v else h.2 o k := by rw [eh]; intro o k; exact wL_rd _ _ _ _ _ _
      -- the model
      have ex : (60 : Int32) * nI s + nI j = nI (60 * s + j) := by rw [show (60 : Int32) = nI 60 from rfl, pk_mul, nI_add]
      have p93 : ∀ x : Int64, fX10_put_93 (nI s) (nI j) v x (nI (60 * s + j)) h1 = some (1, wL h1 77 (60 * s + j) x) := by
        intro x
        unfold fX10_put_93
        rw [if_pos (inb_nI (by omega) (by decide)), ix_nI (by omega)]
        rfl
      have rA : fX10_rowAt (nI s) (nI j) h1 = some (1, h1) := by
        have e0 : (0 : Int32).toInt = 0 := by decide
        have e4 : (4 : Int32).toInt = 4 := by decide
        obtain ⟨-, ⟨z, z1, z2, z3⟩, -⟩ := S
        unfold plR at c2
        rw [q1, if_neg (by decide), if_pos rfl, z2, nI_toInt (show z < 2 ^ 31 by omega)] at c2
        unfold fX10_rowAt
        rw [m_isShelf, b2_some, if_pos c1, if_neg (by decide), if_pos (inb_nI (by omega) (by decide)), ix_nI (by omega), g1, z3, q3, if_neg (fun z => nI_nm1 (show q < 2 ^ 31 by omega) z.symm), if_pos (by rw [i_le, e4, nI_toInt (by omega)]; omega), m_isIn, b2_some, e0, sub1_toInt (by omega)]
        by_cases c3 : 0 ≤ (nI j).toInt ∧ (nI j).toInt < (z : Int)
        · rw [if_pos (show 0 ≤ (nI j).toInt ∧ (nI j).toInt ≤ (z : Int) - 1 by omega), if_neg (by decide)]
        · rw [if_neg c3] at c2; exact absurd c2 (by decide)
      have mf : fX10_put (nI s) (nI j) v h1 = some (1, wL h1 77 (60 * s + j) (cutV q v)) := by
        unfold fX10_put
        rw [rA, b2_some, if_pos (by decide), if_pos (inb_nI (by omega) (by decide)), ix_nI (show s < 2 ^ 31 by omega), g1, q3, ex]
        unfold cutV
        rcases qc with rfl | rfl | rfl | rfl | rfl
        · exact p93 _
        · exact p93 _
        · exact p93 _
        · exact p93 _
        · show (if lg_cmp v 0 = 0 then _ else _) = some (1, wL h1 77 (60 * s + j) (if lg_cmp v 0 = 0 then 0 else 1))
          split
          · exact p93 _
          · exact p93 _
      show Ok (fX10_put (nI s) (nI j) v h1) _
      rw [mf]
      refine ok_some ⟨rfl, ?_⟩
      show Inv (wL h1 77 (60 * s + j) (cutV q v))
      have k1 : (wL h1 77 (60 * s + j) (cutV q v)).1 = h.1 := by rw [wL_1]; exact g1
      have k2 : ∀ o k, (wL h1 77 (60 * s + j) (cutV q v)).2 o k = if o = 77 ∧ k = 60 * s + j then cutV q v else h1.2 o k := fun o k => wL_rd _ _ _ _ _ _
      refine inv_sh T O (fun o k q => by rw [k1]) (fun s' hs' => ?_)
      by_cases e : s' = s
      · subst e
        obtain ⟨a, ⟨z, z1, z2, z3⟩, c⟩ := S
        refine ⟨Or.inr (Or.inr ⟨by rw [k1]; exact q1, q, hq, by rw [k1]; exact q2, by rw [k1]; exact q3, fun q0 i hi => ?_⟩), ⟨z, z1, by rw [k1]; exact z2, by rw [k1]; exact z3⟩, fun i hi => ?_⟩
        · rw [k2, if_neg (by omega), g2]
          by_cases e : 48 + 2 * s' = 48 + 2 * s' ∧ i = j
          · rw [if_pos e]
            unfold cutV
            rw [if_pos q0]
            simp
          · rw [if_neg e]; exact q4 q0 i hi
        · rw [k2, k2, if_neg (show ¬ (48 + 2 * s' = 77 ∧ i = 60 * s' + j) by omega), g2, g2, if_neg (show ¬ (77 = 48 + 2 * s' ∧ 60 * s' + i = j) by omega)]
          by_cases e : i = j
          · rw [if_pos ⟨rfl, by omega⟩, if_pos ⟨rfl, e⟩]
          · rw [if_neg (by omega), if_neg (by omega)]; exact c i hi
      · refine Shl_eq (fun k => by rw [k1]) (by rw [k1]) (by rw [k1]) (fun i hi => ?_) (fun i hi => ?_) (O.sh s' hs')
        · rw [k2, if_neg (by omega), g2, if_neg (by omega)]
        · rw [k2, if_neg (by omega), g2, if_neg (by omega)]
    · refine deed_no (v := plR h s i) T O ?_ ?_
      · unfold fX9_put
        rw [c_isShelf, b2_some, if_pos c1, if_neg (by decide), if_pos (inb_nI (by omega) (by decide)), ix_nI (show s < 2 ^ 31 by omega), r46.1, c_refP, b2_some, if_neg c2]
      · unfold fX10_put
        rw [m_rowAt hs O.b50 S, b2_some, if_neg c2, if_neg]
        unfold plR
        split
        · decide
        · split
          · split <;> decide
          · decide
  · refine deed_no (v := -1) T O ?_ ?_
    · unfold fX9_put
      rw [c_isShelf, b2_some, if_neg c1, if_pos rfl]
    · unfold fX10_put fX10_rowAt
      rw [m_isShelf, b2_some, if_neg c1, if_pos rfl]
      rfl
