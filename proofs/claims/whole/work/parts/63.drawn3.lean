theorem m_drawn {n m B tr mi q : Nat} {num sl : Nat → Nat → Int32} {mn g ch sd P0 P1 P2 : Int32} {Λ : LawF} {h : AH} (T : TI h n m num sl mn) (O : Oth h n m B Λ) (htr : tr ≤ 100) (hmi : mi ≤ 100) (hq : q < 2 ^ 30) (eq : q / 10000 = tr) (h0 : n = 0 → g = -1) : Ok (fX10_drawn_80 P0 P1 P2 FU (nI q) g (nI mi) ch sd 0 0 h) (fun r => r.1 = (if n = 0 then 0 else (drT Λ n m sl num mn g ch mi sd tr).1) ∧ Fr Scr h r.2) := by
  have hn9 := T.n9
  refine L7 (f := fX10_drawn_80 P0 P1 P2) (b := fX10_drawn_80_b P0 P1 P2) (fun _ => rfl) (fun r x2 x3 x4 x5 x6 x7 x8 h' => ∃ c, c + r = tr ∧ x2 = nI q ∧ x3 = g ∧ x4 = nI mi ∧ x5 = ch ∧ (n = 0 → x7 = 0) ∧ (0 < n → (x7, x6) = drT Λ n m sl num mn g ch mi sd c) ∧ x8 = nI c ∧ Fr Scr h h') ?_ tr FU (nI q) g (nI mi) ch sd 0 0 h (by unfold FU; omega) ⟨0, by omega, rfl, rfl, rfl, rfl, fun _ => rfl, fun _ => rfl, rfl, Fr.rf⟩
  rintro r x2 x3 x4 x5 x6 x7 x8 h' ⟨c, hc, rfl, rfl, rfl, rfl, hz, hp, rfl, F'⟩ Q hQ
  obtain ⟨T', O'⟩ := scr_t T O F'
  unfold fX10_drawn_80_b
  rw [div_nI (D := 10000) (d := 10000) rfl (by decide) (by decide) (by omega), eq]
  refine ok_if (fun d1 => ?_) (fun d1 => ?_)
  · rw [nI_leI (by omega) (by omega)] at d1
    have e : c = tr := by omega
    subst e
    refine ok_some ⟨?_, F'⟩
    by_cases c0 : n = 0
    · rw [if_pos c0]; exact hz c0
    · rw [if_neg c0, ← hp (by omega)]
  · rw [nI_leI (by omega) (by omega)] at d1
    refine ok_bV m_keep (fun h1 hh => ?_)
    obtain ⟨k1, F1⟩ := hh
    have M1 : MRep h1 n m num sl mn := T'.m.fr F1 (fun k q => by omega) (fun q => by omega) (fun q => by omega) (fun q => by omega) (fun q => by omega) (fun q => by omega)
    have F1' : Fr (fun o k => Scr o k ∨ (o = 60 ∧ k < 94)) h' h1 := F1.mono (fun o k q => by unfold Scr; omega)
    by_cases c0 : n = 0
    · have eg := h0 c0
      subst c0
      subst eg
      show Ok (fX10_drawn_98_b P0 P1 P2 Q (fX10_drawn_98 P0 P1 P2 Q 3999) (nI q) (-1) (nI mi) x5 x6 x7 (nI c) 0 h1) _
      have z := hz rfl
      subst z
      have fin : Ok (fX10_drawn_204 P0 P1 P2 Q FU (nI q) (-1) (nI mi) x5 x6 0 (nI c) 0 0 h1) (fun r => r.1 = (if (0 : Nat) = 0 then 0 else (drT Λ 0 m sl num mn (-1) x5 mi sd tr).1) ∧ Fr Scr h r.2) := by
        show Ok (fX10_drawn_204_b P0 P1 P2 Q (fX10_drawn_204 P0 P1 P2 Q 3999) (nI q) (-1) (nI mi) x5 x6 0 (nI c) 0 0 h1) _
        unfold fX10_drawn_204_b
        rw [M1.1]
        refine ok_t (by decide) (ok_t rfl ?_)
        unfold fX10_drawn_256
        refine ok_let (ok_bV (m_wake (h := h') (P := fun h5 => Fr Scr h' h5) (fun o k q => q) k1 F1' (fun h5 F5 _ => F5)) (fun h5 F5 => ?_))
        rw [nI_1]
        exact hQ (r - 1) _ _ _ _ _ _ _ _ (by omega) ⟨c + 1, by omega, rfl, rfl, rfl, rfl, fun _ => rfl, fun z => by omega, rfl, F'.tr F5⟩
      unfold fX10_drawn_98_b
      refine ok_if (fun d2 => fin) (fun d2 => ?_)
      rw [M1.1]
      exact ok_t (by decide) fin
    · have hn0 : 0 < n := by omega
      have hp := hp hn0
      refine m_eve T' O' hn0 hmi M1 k1 F1' (fun h2 F2 => ?_)
      rw [nI_1]
      refine hQ (r - 1) _ _ _ _ _ _ _ _ (by omega) ⟨c + 1, by omega, rfl, rfl, rfl, rfl, fun z => absurd z c0, fun _ => ?_, rfl, F'.tr F2⟩
      show _ = ((drT Λ n m sl num mn x3 x5 mi sd c).1 + drR Λ n x3 (drS n m sl x5 mi (num, mn, (drT Λ n m sl num mn x3 x5 mi sd c).2)), (drS n m sl x5 mi (num, mn, (drT Λ n m sl num mn x3 x5 mi sd c).2)).2.2)
      rw [← hp]
abbrev drOK (p : Int32) : Prop := 0 ≤ p.toInt ∧ 1 ≤ p.toInt.toNat / 10000 ∧ p.toInt.toNat / 10000 ≤ 30 ∧ 1 ≤ p.toInt.toNat / 100 % 100 ∧ p.toInt.toNat / 100 % 100 ≤ 60 ∧ p.toInt.toNat % 100 ≤ 12
theorem op_drawn (sd p g : Int32) : Sim (fX9_drawn sd p g) (fX10_drawn sd p g) := by
  have e0 : (0 : Int32).toInt = 0 := by decide
  have e1 : (1 : Int32).toInt = 1 := by decide
  have em : (-1 : Int32).toInt = -1 := by decide
  have e12 : (12 : Int32).toInt = 12 := by decide
  have e30 : (30 : Int32).toInt = 30 := by decide
  have e60 : (60 : Int32).toInt = 60 := by decide
  have hdv := div_toInt (p := p) (D := 10000) (d := 10000) rfl (by decide) (by decide)
  refine sim_think (fun n m num sl mn Λ => if drOK p then if -1 ≤ g.toInt ∧ g.toInt < n then if n = 0 then 0 else (drT Λ n m sl num mn g (nI (p.toInt.toNat % 100)) (p.toInt.toNat / 100 % 100) sd (p.toInt.toNat / 10000)).1 else -1 else -1) (fun n m B num sl mn Λ h T O => ?_) (fun n m B num sl mn Λ h T O => ?_)
  · unfold fX9_drawn
    have hn9 := T.n9
    refine ok_let (ok_let (ok_let ?_))
    have no : ∀ (a b c d e : Int32), Ok (fX9_drawn_59 sd p g a b c d e h) (fun q => q.1 = -1 ∧ Fr Scr h q.2) := by
      intro a b c d e
      unfold fX9_drawn_59 fX9_drawn_60
      exact ok_t rfl (ok_some ⟨rfl, Fr.rf⟩)
    by_cases p0 : 0 ≤ p.toInt
    · have hd1 := hdv.1 p0
      have hpl : p.toInt < 2 ^ 31 := by have := p.toInt_lt; omega
      obtain ⟨q, eq⟩ : ∃ q, q = p.toInt.toNat := ⟨_, rfl⟩
      have ep : p = nI q := i_eq.mpr (by rw [nI_toInt (by omega)]; omega)
      refine ok_if (fun c1 => ?_) (fun c1 => ?_)
      · rw [i_lt, e1] at c1
        rw [if_neg (show ¬ drOK p by unfold drOK; omega)]
        exact no _ _ _ _ _
      · rw [i_lt, e1] at c1
        refine ok_if (fun c2 => ?_) (fun c2 => ?_)
        · rw [i_lt, e30] at c2
          rw [if_neg (show ¬ drOK p by unfold drOK; omega)]
          exact no _ _ _ _ _
        · rw [i_lt, e30] at c2
          have hq : q < 310000 := by omega
          have d1 : p / 10000 = nI (q / 10000) := by rw [ep]; exact div_nI rfl (by decide) (by decide) (by omega)
          have d2 : jrem (p / 100) 100 = nI (q / 100 % 100) := by rw [ep, div_nI (D := 100) (d := 100) rfl (by decide) (by decide) (by omega)]; exact rem_nI rfl (by decide) (by decide) (by omega)
          have d3 : jrem p 100 = nI (q % 100) := by rw [ep]; exact rem_nI rfl (by decide) (by decide) (by omega)
          rw [d1, d2, d3]
          refine ok_if (fun c3 => ?_) (fun c3 => ?_)
          · rw [show (1 : Int32) = nI 1 from rfl, nI_ltI (by omega) (by omega)] at c3
            rw [if_neg (show ¬ drOK p by unfold drOK; omega)]
            exact no _ _ _ _ _
          · rw [show (1 : Int32) = nI 1 from rfl, nI_ltI (by omega) (by omega)] at c3
            refine ok_if (fun c4 => ?_) (fun c4 => ?_)
            · rw [show (60 : Int32) = nI 60 from rfl, nI_ltI (by omega) (by omega)] at c4
              rw [if_neg (show ¬ drOK p by unfold drOK; omega)]
              exact no _ _ _ _ _
            · rw [show (60 : Int32) = nI 60 from rfl, nI_ltI (by omega) (by omega)] at c4
              refine ok_if (fun c5 => ?_) (fun c5 => ?_)
              · rw [show (12 : Int32) = nI 12 from rfl, nI_ltI (by omega) (by omega)] at c5
                rw [if_neg (show ¬ drOK p by unfold drOK; omega)]
                exact no _ _ _ _ _
              · rw [show (12 : Int32) = nI 12 from rfl, nI_ltI (by omega) (by omega)] at c5
                rw [if_pos (show drOK p by unfold drOK; omega), ← eq]
                unfold fX9_drawn_60
                refine ok_f (by decide) ?_
                by_cases cg : g = -1
                · refine ok_t cg ?_
                  rw [if_pos (show -1 ≤ g.toInt ∧ g.toInt < n by rw [cg, em]; omega)]
                  by_cases c0 : n = 0
                  · rw [if_pos c0]
                    subst c0
                    rw [cg]
                    exact c_drawn0 T O (by omega) (by omega)
                  · rw [if_neg c0]
                    exact c_drawn T O (by omega) (by omega) (by omega)
                · refine ok_f cg ?_
                  rw [i_eq, em] at cg
                  rw [c_hasGuest T.c.1 hn9, b2_some]
                  by_cases c6 : 0 ≤ g.toInt ∧ g.toInt < n
                  · rw [if_pos c6, if_pos (show -1 ≤ g.toInt ∧ g.toInt < n by omega), if_neg (show ¬ n = 0 by omega)]
                    refine ok_f (by decide) ?_
                    exact c_drawn T O (by omega) (by omega) (by omega)
                  · rw [if_neg c6, if_neg (show ¬ (-1 ≤ g.toInt ∧ g.toInt < n) by omega)]
                    exact ok_t rfl (ok_some ⟨rfl, Fr.rf⟩)
    · have := hdv.2 (by omega)
      rw [if_neg (show ¬ drOK p by unfold drOK; omega)]
      refine ok_t ?_ (no _ _ _ _ _)
      rw [i_lt, e1]; omega
  · unfold fX10_drawn
    have hn9 := T.n9
    refine ok_let (ok_let ?_)
    refine ok_if (fun c0 => ?_) (fun c0 => ?_)
    · rw [i_lt, e0] at c0
      rw [if_neg (show ¬ drOK p by unfold drOK; omega)]
      exact ok_some ⟨rfl, Fr.rf⟩
    · rw [i_lt, e0] at c0
      have hd1 := hdv.1 (by omega)
      have hpl : p.toInt < 2 ^ 31 := by have := p.toInt_lt; omega
      obtain ⟨q, eq⟩ : ∃ q, q = p.toInt.toNat := ⟨_, rfl⟩
      have ep : p = nI q := i_eq.mpr (by rw [nI_toInt (by omega)]; omega)
      rw [m_isIn, b2_some, e1, e30]
      by_cases c1 : 1 ≤ (p / 10000).toInt ∧ (p / 10000).toInt ≤ 30
      · rw [if_pos c1]
        refine ok_f (by decide) ?_
        have hq : q < 310000 := by omega
        have d2 : jrem (p / 100) 100 = nI (q / 100 % 100) := by rw [ep, div_nI (D := 100) (d := 100) rfl (by decide) (by decide) (by omega)]; exact rem_nI rfl (by decide) (by decide) (by omega)
        have d3 : jrem p 100 = nI (q % 100) := by rw [ep]; exact rem_nI rfl (by decide) (by decide) (by omega)
        rw [m_isIn, b2_some, e1, e60, d2, d3, nI_toInt (by omega)]
        by_cases c2 : 1 ≤ ((q / 100 % 100 : Nat) : Int) ∧ ((q / 100 % 100 : Nat) : Int) ≤ 60
        · rw [if_pos c2]
          refine ok_f (by decide) ?_
          rw [m_isIn, b2_some, e0, e12, nI_toInt (by omega)]
          by_cases c3 : 0 ≤ ((q % 100 : Nat) : Int) ∧ ((q % 100 : Nat) : Int) ≤ 12
          · rw [if_pos c3, if_pos (show drOK p by unfold drOK; omega), ← eq]
            refine ok_f (by decide) ?_
            rw [m_isIn, b2_some, em, T.m.1, show (1 : Int32) = nI 1 from rfl, pk_sub_toInt (by omega) (by omega)]
            by_cases c4 : -1 ≤ g.toInt ∧ g.toInt < n
            · rw [if_pos (show -1 ≤ g.toInt ∧ g.toInt ≤ (n : Int) - ((1 : Nat) : Int) by omega), if_pos c4]
              refine ok_f (by decide) ?_
              rw [ep]
              exact m_drawn T O (by omega) (by omega) (by omega) rfl (fun z => i_eq.mpr (by rw [em]; omega))
            · rw [if_neg (show ¬ (-1 ≤ g.toInt ∧ g.toInt ≤ (n : Int) - ((1 : Nat) : Int)) by omega), if_neg c4]
              exact ok_t rfl (ok_some ⟨rfl, Fr.rf⟩)
          · rw [if_neg c3, if_neg (show ¬ drOK p by unfold drOK; omega)]
            exact ok_t rfl (ok_some ⟨rfl, Fr.rf⟩)
        · rw [if_neg c2, if_neg (show ¬ drOK p by unfold drOK; omega)]
          exact ok_t rfl (ok_some ⟨rfl, Fr.rf⟩)
      · rw [if_neg c1, if_neg (show ¬ drOK p by unfold drOK; omega)]
        exact ok_t rfl (ok_some ⟨rfl, Fr.rf⟩)
