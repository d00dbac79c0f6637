/-! ===== shelves ===== -/
theorem inv_sh {n m B : Nat} {num sl : Nat → Nat → Int32} {mn : Int32} {Λ : LawF} {h h2 : AH} (T : TI h n m num sl mn) (O : Oth h n m B Λ) (hI : ∀ o k, ¬ ((47 ≤ o ∧ o ≤ 58) ∨ o = 75 ∨ o = 76) → h2.1 o k = h.1 o k) (S2 : ∀ s, s < 6 → Shl h2 B s) : Inv h2 := by
  have F : Fr (fun o k => (47 ≤ o ∧ o ≤ 58) ∨ o = 75 ∨ o = 76) h (h2.1, h.2) := ⟨hI, rfl⟩
  obtain ⟨oa, ob, oc, od, oe, og, oh, oi, oj, ol⟩ := O
  have t := T.fr F (fun o k q z => by omega)
  have ta := oa.fr F (fun o k q z => by omega)
  have tb := ob.fr F (fun o k q z => by omega)
  have tc := oc.fr (Nat.le_refl n) F (fun o k q z => by omega)
  have td := od.fr (Nat.le_refl n) (Nat.le_refl m) F (fun o k q z => by omega)
  have te := oe.fr F (fun o k q z => by omega)
  have th := oh.fr F (fun o k q z => by omega)
  have ti := oi.fr F (fun o k q z => by omega)
  have tj := oj.fr F (fun o k q z => by omega)
  exact ⟨n, m, B, num, sl, mn, Λ, t, ta, tb, tc, td, te, S2, th, ti, tj, ol⟩
theorem Shl_eq {h h2 : AH} {B s : Nat} (e1 : ∀ k, h2.1 (47 + 2 * s) k = h.1 (47 + 2 * s) k) (e2 : h2.1 75 s = h.1 75 s) (e3 : h2.1 76 s = h.1 76 s) (e4 : ∀ i, i < 60 → h2.2 (48 + 2 * s) i = h.2 (48 + 2 * s) i) (e5 : ∀ i, i < 60 → h2.2 77 (60 * s + i) = h.2 77 (60 * s + i)) (S : Shl h B s) : Shl h2 B s := by
  obtain ⟨a, ⟨z, b1, b2, b3⟩, c⟩ := S
  refine ⟨?_, ⟨z, b1, by rw [e1]; exact b2, by rw [e3]; exact b3⟩, fun i hi => by rw [e5 i hi, e4 i hi]; exact c i hi⟩
  rw [e1, e1, e1, e2]
  rcases a with a | ⟨a, b, h1, h2, h3⟩ | ⟨a, q, h1, h2, h3, h4⟩
  · exact Or.inl a
  · exact Or.inr (Or.inl ⟨a, b, h1, h2, h3⟩)
  · exact Or.inr (Or.inr ⟨a, q, h1, h2, h3, fun z i hi => by rw [e4 i hi]; exact h4 z i hi⟩)
theorem c_hasBody {h : AH} {B : Nat} (hb : h.1 43 1 = nI B) (hB : B ≤ 50) (p : Int32) : fX1_hasBody p h = some (if 0 ≤ p.toInt ∧ p.toInt < B then 1 else 0, h) := by
  have e0 : (0 : Int32).toInt = 0 := by decide
  unfold fX1_hasBody
  rw [hb]
  simp only [i_lt, i_le, e0, nI_toInt (show B < 2 ^ 31 by omega)]
  by_cases c1 : p.toInt < 0
  · rw [if_pos c1, if_neg (by omega)]
  · rw [if_neg c1]
    by_cases c2 : (B : Int) ≤ p.toInt
    · rw [if_pos c2, if_neg (by omega)]
    · rw [if_neg c2, if_pos (by omega)]
theorem sub1_toInt {B : Nat} (h : B < 2 ^ 29) : (nI B - 1).toInt = (B : Int) - 1 := by
  rw [show (1 : Int32) = nI 1 from rfl, pk_sub_toInt (by omega) (by omega)]
  rfl
theorem op_keep (p b : Int32) : Sim (fX9_keep p b) (fX10_keep p b) := by
  have e0 : (0 : Int32).toInt = 0 := by decide
  have em : (-1 : Int32).toInt = -1 := by decide
  refine sim_of (fun n m B num sl mn Λ h T O => ?_)
  have hB := O.b50
  have b2 := O.2.2.2.2.1.2.1
  have b3 := O.2.2.2.2.1.2.2.1
  by_cases c1 : 0 ≤ p.toInt ∧ p.toInt < 6
  · by_cases c2 : -1 ≤ b.toInt ∧ b.toInt < B
    · obtain ⟨ep, hp⟩ := nI_of_rg (p := p) (a := 5) (by omega) (by omega) (by decide)
      obtain ⟨s, es⟩ : ∃ s, s = p.toInt.toNat := ⟨_, rfl⟩
      rw [← es] at ep hp
      have hs : s < 6 := by omega
      clear es
      subst ep
      have r46 := (rfS s hs).1
      obtain ⟨v0, ev0⟩ : ∃ v0 : Int32, v0 = if b = -1 then 0 else 1 := ⟨_, rfl⟩
      have cf : fX9_keep (nI s) b h = some (1, wI (wI h (47 + 2 * s) 0 v0) (47 + 2 * s) 1 b) := by
        have c25 : fX9_keep_25 (nI s) b (nI s) b h = some (1, wI (wI h (47 + 2 * s) 0 v0) (47 + 2 * s) 1 b) := by
          unfold fX9_keep_25
          rw [if_pos (inb_nI (by omega) (by decide)), ix_nI (by omega), r46]
          have c41 : ∀ x : Int32, fX9_keep_41 (nI s) b (nI s) b x (47 + 2 * s) h = some (1, wI (wI h (47 + 2 * s) 0 x) (47 + 2 * s) 1 b) := by
            intro x
            unfold fX9_keep_41
            show (if inb (nI s) 6 = true then _ else _) = _
            rw [if_pos (inb_nI (by omega) (by decide)), ix_nI (by omega), r46]
            rfl
          by_cases q : b = -1
          · rw [if_pos q, c41, ev0, if_pos q]
          · rw [if_neg q, c41, ev0, if_neg q]
        unfold fX9_keep
        rw [c_isShelf, b2_some, if_pos c1, if_neg (by decide)]
        by_cases q : b = -1
        · rw [if_pos q]; exact c25
        · rw [if_neg q, c_hasBody b2 hB, b2_some, if_pos (show 0 ≤ b.toInt ∧ b.toInt < B by rw [i_eq, em] at q; omega), if_neg (by decide)]; exact c25
      rw [cf]
      refine ok_some ?_
      obtain ⟨h1, eh1⟩ : ∃ h1, h1 = wI (wI h (47 + 2 * s) 0 v0) (47 + 2 * s) 1 b := ⟨_, rfl⟩
      rw [← eh1]
      have F1 : Fr (fun o k => o = 47 + 2 * s ∧ (k = 0 ∨ k = 1)) h h1 := by rw [eh1]; exact (Fr.rf.w ⟨rfl, Or.inl rfl⟩).w ⟨rfl, Or.inr rfl⟩
      have w0 : h1.1 (47 + 2 * s) 0 = v0 := by rw [eh1, wI_rd, if_neg (by omega), wI_rd, if_pos ⟨rfl, rfl⟩]
      have w1 : h1.1 (47 + 2 * s) 1 = b := by rw [eh1, wI_rd, if_pos ⟨rfl, rfl⟩]
      obtain ⟨v1, ev1⟩ : ∃ v1 : Int32, v1 = if b = -1 then -1 else 10 + b := ⟨_, rfl⟩
      have mf : fX10_keep (nI s) b h1 = some (1, wI h1 75 s v1) := by
        unfold fX10_keep
        rw [m_isShelf, b2_some, if_pos c1, if_neg (by decide), m_isIn, b2_some, em, F1.1 59 43 (by omega), b3, sub1_toInt (by omega), if_pos (show -1 ≤ b.toInt ∧ b.toInt ≤ (B : Int) - 1 by omega), if_neg (by decide)]
        have c41 : ∀ x : Int32, fX10_keep_41 (nI s) b x (nI s) h1 = some (1, wI h1 75 s x) := by
          intro x
          unfold fX10_keep_41
          rw [if_pos (inb_nI (by omega) (by decide)), ix_nI (by omega)]
          rfl
        by_cases q : b = -1
        · rw [if_pos q, c41, ev1, if_pos q]
        · rw [if_neg q, c41, ev1, if_neg q]
      show Ok (fX10_keep (nI s) b h1) _
      rw [mf]
      refine ok_some ⟨rfl, ?_⟩
      show Inv (wI h1 75 s v1)
      have F2 : Fr (fun o k => (o = 47 + 2 * s ∧ (k = 0 ∨ k = 1)) ∨ (o = 75 ∧ k = s)) h (wI h1 75 s v1) := (F1.mono (fun o k q => Or.inl q)).w (Or.inr ⟨rfl, rfl⟩)
      refine inv_sh T O (fun o k q => F2.1 o k (by omega)) (fun s' hs' => ?_)
      by_cases e : s' = s
      · subst e
        obtain ⟨a, ⟨z, z1, z2, z3⟩, c⟩ := O.sh s' hs'
        refine ⟨?_, ⟨z, z1, by rw [F2.1 _ _ (by omega)]; exact z2, by rw [F2.1 _ _ (by omega)]; exact z3⟩, fun i hi => by rw [F2.2]; exact c i hi⟩
        have r0 : (wI h1 75 s' v1).1 (47 + 2 * s') 0 = v0 := by rw [wI_rd, if_neg (by omega)]; exact w0
        have r1 : (wI h1 75 s' v1).1 (47 + 2 * s') 1 = b := by rw [wI_rd, if_neg (by omega)]; exact w1
        have r2 : (wI h1 75 s' v1).1 75 s' = v1 := by rw [wI_rd, if_pos ⟨rfl, rfl⟩]
        rw [r0, r1, r2, ev0, ev1]
        by_cases q : b = -1
        · rw [if_pos q, if_pos q]; exact Or.inl ⟨rfl, rfl⟩
        · rw [if_neg q, if_neg q]
          rw [i_eq, em] at q
          refine Or.inr (Or.inl ⟨rfl, b.toInt.toNat, by omega, ?_, ?_⟩)
          · exact i_eq.mpr (by rw [nI_toInt (by omega)]; omega)
          · have eb : b = nI b.toInt.toNat := i_eq.mpr (by rw [nI_toInt (by omega)]; omega)
            rw [show (10 : Int32) = nI 10 from rfl]
            conv => lhs; rw [eb]
            rw [nI_add]
      · exact Shl_eq (fun k => F2.1 _ _ (by omega)) (F2.1 _ _ (by omega)) (F2.1 _ _ (by omega)) (fun i hi => by rw [F2.2]) (fun i hi => by rw [F2.2]) (O.sh s' hs')
    · refine deed_no (v := -1) T O ?_ ?_
      · unfold fX9_keep
        rw [c_isShelf, b2_some, if_pos c1, if_neg (by decide), if_neg (show ¬ b = -1 by rw [i_eq, em]; omega), c_hasBody b2 hB, b2_some, if_neg (show ¬ (0 ≤ b.toInt ∧ b.toInt < B) by omega), if_pos rfl]
      · unfold fX10_keep
        rw [m_isShelf, b2_some, if_pos c1, if_neg (by decide), m_isIn, b2_some, em, b3, sub1_toInt (by omega), if_neg (show ¬ (-1 ≤ b.toInt ∧ b.toInt ≤ (B : Int) - 1) by omega), if_pos rfl]
  · refine deed_no (v := -1) T O ?_ ?_
    · unfold fX9_keep
      rw [c_isShelf, b2_some, if_neg c1, if_pos rfl]
    · unfold fX10_keep
      rw [m_isShelf, b2_some, if_neg c1, if_pos rfl]
