theorem op_guests (p i g : Int32) : Sim (fX9_guests p i g) (fX10_guests p i g) := by
  have e0 : (0 : Int32).toInt = 0 := by decide
  have e1 : (1 : Int32).toInt = 1 := by decide
  have e9 : (9 : Int32).toInt = 9 := by decide
  refine sim_of (fun n m B num sl mn Λ h T O => ?_)
  have hB := O.b50
  have hn9 := T.n9
  by_cases c1 : 0 ≤ p.toInt ∧ p.toInt < 6
  · by_cases c2 : 1 ≤ g.toInt ∧ g.toInt ≤ 9
    · obtain ⟨ep, hp⟩ := nI_of_rg (p := p) (a := 5) (by omega) (by omega) (by decide)
      obtain ⟨s, es⟩ : ∃ s, s = p.toInt.toNat := ⟨_, rfl⟩
      rw [← es] at ep hp
      have hs : s < 6 := by omega
      clear es
      subst ep
      obtain ⟨eg, hg⟩ := nI_of_rg (p := g) (a := 9) (by omega) (by omega) (by decide)
      obtain ⟨k, ek⟩ : ∃ k, k = g.toInt.toNat := ⟨_, rfl⟩
      rw [← ek] at eg hg
      clear ek
      subst eg
      have r46 := rfS s hs
      have g1 : ¬ nI k < 1 := by rw [i_lt, e1]; omega
      have g9 : nI k ≤ 9 := by rw [i_le, e9]; omega
      obtain ⟨Ss, ⟨z, z1, z2, z3⟩, Es⟩ := O.sh s hs
      have cf : fX9_guests (nI s) i (nI k) h = if h.1 (47 + 2 * s) 0 = 0 then some (0, h) else bind2 (fX5_isRowOf (47 + 2 * s) 0 h) (fun r12_ h13_ => if r12_ = 0 then some ((-12), h13_) else fX9_guests_56 (nI s) i (nI k) FU i (nI k) (47 + 2 * s) 0 0 h13_) := by
        unfold fX9_guests
        rw [c_isShelf, b2_some, if_pos c1, if_neg (by decide), if_neg g1, if_pos g9, if_pos (inb_nI (by omega) (by decide)), ix_nI (by omega), let_eq, r46.1]
      have mf : ∀ h1 : AH, h1.1 75 s = h.1 75 s → fX10_guests (nI s) i (nI k) h1 = if h.1 75 s ≤ 0 then fX10_guests_37 (nI s) i (nI k) FU (nI s) i (nI k) 0 0 h1 else some (-12, h1) := by
        intro h1 e
        unfold fX10_guests
        rw [m_isShelf, b2_some, if_pos c1, if_neg (by decide), m_isIn, b2_some, e1, e9, if_pos c2, if_neg (by decide), if_pos (inb_nI (by omega) (by decide)), ix_nI (by omega), e]
      rcases Ss with ⟨a1, a2⟩ | ⟨a1, b, hb, a2, a3⟩ | ⟨a1, q, hq, a2, a3, a4⟩
      · refine deed_no (v := 0) T O ?_ ?_
        · rw [cf, a1, if_pos rfl]
        · rw [mf h rfl, a2, if_pos (by decide)]
          refine ok_eq ?_
          refine L5 (f := fX10_guests_37 (nI s) i (nI k)) (b := fX10_guests_37_b (nI s) i (nI k)) (fun _ => rfl) (fun r x1 x2 x3 x4 x5 h' => x1 = nI s ∧ x4 = 0 ∧ h' = h ∧ ((r = 1 ∧ x5 = 0) ∨ (r = 0 ∧ x5 = 1))) ?_ 1 FU (nI s) i (nI k) 0 0 h (by unfold FU; omega) ⟨rfl, rfl, rfl, Or.inl ⟨rfl, rfl⟩⟩
          rintro r x1 x2 x3 x4 x5 h' ⟨rfl, rfl, rfl, hx⟩ Q hQ
          unfold fX10_guests_37_b
          refine ok_if (fun _ => ok_some ⟨rfl, rfl⟩) (fun _ => ?_)
          rcases hx with ⟨rfl, rfl⟩ | ⟨rfl, rfl⟩
          · refine ok_t rfl (ok_if (fun _ => ok_some ⟨rfl, rfl⟩) (fun _ => ok_let (ok_t (inb_nI (by omega) (by decide)) ?_)))
            rw [ix_nI (by omega), a2]
            refine ok_f (by decide) ?_
            exact hQ 0 _ _ _ _ _ _ (by omega) ⟨rfl, rfl, rfl, Or.inr ⟨rfl, by decide⟩⟩
          · exact ok_f (by decide) (ok_some ⟨rfl, rfl⟩)
      · refine deed_no (v := -12) T O ?_ ?_
        · rw [cf, a1, if_neg (by decide)]
          unfold fX5_isRowOf
          rw [a1, if_neg (by decide), b2_some, if_pos rfl]
        · rw [mf h rfl, a3, if_neg (by rw [i_le, e0, nI_toInt (by omega)]; omega)]
      · by_cases q0 : q = 0
        · subst q0
          obtain ⟨A, hA⟩ := cntL_ex (GO i (fun k => (h.2 (48 + 2 * s) k).toInt32) z n) k 0
          have all := cntL_all hA
          have le := cntL_le hA
          have W := GO_WF (c := A) T.1 (fun d hd => all d (by omega) hd)
          refine deed_ok (n' := n + A) (m' := m) (v := nI A) (L := fun k => h.1 32 k) O W (by omega) (Nat.le_refl m) ?_ (fun h1 F1 => ?_)
          · have isR : fX5_isRowOf (47 + 2 * s) 0 h = some (1, h) := by
              unfold fX5_isRowOf
              rw [a1, if_pos rfl, a2]
              rfl
            rw [cf, a1, if_neg (by decide), isR, b2_some, if_neg (by decide)]
            refine ok_mono (c_guests hs T.1 hg z1 z2 (fun k hk => rfl) T.ct hA) (fun w hw => ?_)
            obtain ⟨w0, w1, w2⟩ := hw
            exact ⟨w0, w1, fun k hk => w2.1 32 k (by omega), w2.mono (fun o k q => by unfold SC; omega)⟩
          · have M1 := T.mt.sc F1
            have l1 := led_o O F1
            have f : ∀ o k, o = 75 ∨ o = 76 → h1.1 o k = h.1 o k := fun o k q => F1.1 o k (by unfold SC Scr; omega)
            rw [mf h1 (f 75 s (by omega)), a3, if_pos (by decide)]
            refine ok_mono (m_guests hs T.1 hg z1 ((f 75 s (by omega)).trans a3) ((f 76 s (by omega)).trans z3) (fun k hk => ?_) M1 hA) (fun w hw => ?_)
            · show (h1.2 77 (60 * s + k)).toInt32 = (h.2 (48 + 2 * s) k).toInt32
              rw [F1.2, Es k hk]
            · obtain ⟨w0, w1, w2⟩ := hw
              exact ⟨w0, w1, fun k hk => by show w.2.1 79 k = h.1 32 k; rw [w2.1 79 k (by omega), l1 k hk], w2.mono (fun o k q => by unfold SM; omega)⟩
        · refine deed_no (v := -12) T O ?_ ?_
          · rw [cf, a1, if_neg (by decide)]
            unfold fX5_isRowOf
            rw [a1, if_pos rfl, a2, if_neg (nI_ne0 (by omega) (by omega)), b2_some, if_pos rfl]
          · rw [mf h rfl, a3, if_neg (by rw [i_le, e0, nI_toInt (by omega)]; omega)]
    · refine deed_no (v := -1) T O ?_ ?_
      · unfold fX9_guests
        rw [c_isShelf, b2_some, if_pos c1, if_neg (by decide)]
        by_cases q : g < 1
        · rw [if_pos q]
        · rw [if_neg q, if_neg (by rw [i_lt, e1] at q; rw [i_le, e9]; omega)]
      · unfold fX10_guests
        rw [m_isShelf, b2_some, if_pos c1, if_neg (by decide), m_isIn, b2_some, e1, e9, if_neg c2, if_pos rfl]
  · refine deed_no (v := -1) T O ?_ ?_
    · unfold fX9_guests
      rw [c_isShelf, b2_some, if_neg c1, if_pos rfl]
    · unfold fX10_guests
      rw [m_isShelf, b2_some, if_neg c1, if_pos rfl]
