def GO (p : Int32) (E : Nat → Int32) (z n c : Nat) : Prop := 0 ≤ p.toInt ∧ gOk E p.toInt.toNat z n c
theorem GO_WF {n m : Nat} {num sl : Nat → Nat → Int32} {mn p : Int32} {E : Nat → Int32} {z c : Nat} (W : WF n m num sl mn) (h : ∀ d, d < c → GO p E z n d) : WF (n + c) m (gN num E p.toInt.toNat n c) sl mn := WF_gN W c (fun d hd => (h d hd).2)
theorem c_guests {n m s z g A : Nat} {num sl : Nat → Nat → Int32} {mn p P0 P1 P2 : Int32} {E : Nat → Int32} {h : AH} (hs : s < 6) (W : WF n m num sl mn) (hg : g ≤ 9) (hz : z ≤ 60) (ez : h.1 (47 + 2 * s) 3 = nI z) (hE : ∀ k, k < 60 → (h.2 (48 + 2 * s) k).toInt32 = E k) (C : CT h n m num sl mn) (hA : cntL (GO p E z n) g 0 A) : Ok (fX9_guests_56 P0 P1 P2 FU p (nI g) (47 + 2 * s) 0 0 h) (fun q => q.1 = nI A ∧ CT q.2 (n + A) m (gN num E p.toInt.toNat n A) sl mn ∧ Fr (fun o k => 1 ≤ o ∧ o ≤ 10) h q.2) := by
  refine L5n (f := fX9_guests_56 P0 P1 P2) (b := fX9_guests_56_b P0 P1 P2) (fun _ => rfl) (fun r x y o w v h' => ∃ c, c + r = g ∧ x = p ∧ y = nI g ∧ o = 47 + 2 * s ∧ w = nI c ∧ v = nI c ∧ (∀ d, d < c → GO p E z n d) ∧ cntL (GO p E z n) r c A ∧ CT h' (n + c) m (gN num E p.toInt.toNat n c) sl mn ∧ Fr (fun o k => 1 ≤ o ∧ o ≤ 10) h h') ?_ g FU p (nI g) (47 + 2 * s) 0 0 h (by unfold FU; omega) ⟨0, by omega, rfl, rfl, rfl, rfl, rfl, fun d hd => by omega, hA, C, Fr.rf⟩
  rintro r x y o w v h' ⟨c, hc, rfl, rfl, rfl, rfl, rfl, hd, hA, C', F'⟩ Q hQ
  unfold fX9_guests_56_b
  refine ok_if (fun d1 => ?_) (fun d1 => ?_)
  · rw [nI_leI (by omega) (by omega)] at d1
    have r0 : r = 0 := by omega
    subst r0
    have e : A = c := hA
    subst e
    exact ok_some ⟨rfl, C', F'⟩
  · rw [nI_leI (by omega) (by omega)] at d1
    obtain ⟨r, rfl⟩ : ∃ r', r = r' + 1 := ⟨r - 1, by omega⟩
    have Wc := GO_WF W hd
    have ez' : h'.1 (47 + 2 * s) 3 = nI z := by rw [F'.1 _ _ (by omega)]; exact ez
    have hE' : ∀ k, k < 60 → (h'.2 (48 + 2 * s) k).toInt32 = E k := by rw [F'.2]; exact hE
    have hm := W.2.1
    rw [show x.toInt64 + 4 * (nI c).toInt64 = adr64 x (nI c) from rfl]
    by_cases p0 : 0 ≤ x.toInt
    · refine ok_b2 (c_comes hs hm (by omega) Wc.1 hz ez' hE' p0 C') (fun v h2 hh => ?_)
      rcases hh with ⟨g1, g2, g3, g4⟩ | ⟨g1, g2, g3⟩
      · have g2 : v = 1 := g2
        subst g2
        refine ok_f (by decide) ?_
        rw [nI_1]
        refine hQ r _ _ _ _ _ _ (by omega) ⟨c + 1, by omega, rfl, rfl, rfl, rfl, rfl, fun d hd' => ?_, ?_, g3, F'.tr g4⟩
        · by_cases e : d = c
          · rw [e]; exact ⟨p0, g1⟩
          · exact hd d (by omega)
        · rcases hA with ⟨_, q⟩ | ⟨q, _⟩
          · exact q
          · exact absurd ⟨p0, g1⟩ q
      · have g2 : v = 0 := g2
        have g3 : h2 = h' := g3
        subst g2
        subst g3
        refine ok_t rfl ?_
        rcases hA with ⟨q, _⟩ | ⟨_, q⟩
        · exact absurd q.2 g1
        · subst q
          exact ok_some ⟨rfl, C', F'⟩
    · have c0 : c = 0 := by
        apply Classical.byContradiction
        intro z
        exact p0 (hd 0 (by omega)).1
      subst c0
      have t1 := (adr_toInt (p := x) (c := 0) (by omega)).1
      have e0 : (0 : Int64).toInt = 0 := by decide
      have red : fX9_guestComes (47 + 2 * s) (adr64 x (nI 0)) h' = some (0, h') := by
        unfold fX9_guestComes
        rw [if_pos (by rw [lg_lt, t1, e0]; omega)]
      rw [red, b2_some]
      refine ok_t rfl ?_
      rcases hA with ⟨q, _⟩ | ⟨_, q⟩
      · exact absurd q.1 p0
      · subst q
        exact ok_some ⟨rfl, C', F'⟩
theorem m_guests {n m s z g A : Nat} {num sl : Nat → Nat → Int32} {mn p P0 P1 P2 : Int32} {E : Nat → Int32} {h : AH} (hs : s < 6) (W : WF n m num sl mn) (hg : g ≤ 9) (hz : z ≤ 60) (e75 : h.1 75 s = 0) (ez : h.1 76 s = nI z) (hE : ∀ k, k < 60 → (h.2 77 (60 * s + k)).toInt32 = E k) (M : MT h n m num sl mn) (hA : cntL (GO p E z n) g 0 A) : Ok (fX10_guests_37 P0 P1 P2 FU (nI s) p (nI g) 0 0 h) (fun q => q.1 = nI A ∧ MT q.2 (n + A) m (gN num E p.toInt.toNat n A) sl mn ∧ Fr (fun o k => (o = 59 ∧ k = 2) ∨ o = 60) h q.2) := by
  have e0 : (0 : Int32).toInt = 0 := by decide
  have e1 : (1 : Int32).toInt = 1 := by decide
  have e9 : (9 : Int32).toInt = 9 := by decide
  have e99 : (99 : Int32).toInt = 99 := by decide
  have s10 : (ST 200 1).toInt = 0 := by decide +kernel
  have s11 : (ST 201 1).toInt = 9 := by decide +kernel
  have s20 : (ST 200 2).toInt = 0 := by decide +kernel
  have s21 : (ST 201 2).toInt = 9 := by decide +kernel
  have s30 : (ST 200 3).toInt = 0 := by decide +kernel
  have s31 : (ST 201 3).toInt = 1 := by decide +kernel
  refine L5 (f := fX10_guests_37 P0 P1 P2) (b := fX10_guests_37_b P0 P1 P2) (fun _ => rfl) (fun r x1 x2 x3 x4 x5 h' => x1 = nI s ∧ x2 = p ∧ x3 = nI g ∧ ((∃ c r0, r = r0 + 1 ∧ c + r0 = g ∧ x4 = nI c ∧ x5 = nI c ∧ (∀ d, d < c → GO p E z n d) ∧ cntL (GO p E z n) r0 c A ∧ MT h' (n + c) m (gN num E p.toInt.toNat n c) sl mn) ∨ (r = 0 ∧ A ≤ 9 ∧ x4 = nI A ∧ x5 = nI (A + 1) ∧ MT h' (n + A) m (gN num E p.toInt.toNat n A) sl mn)) ∧ Fr (fun o k => (o = 59 ∧ k = 2) ∨ o = 60) h h') ?_ (g + 1) FU (nI s) p (nI g) 0 0 h (by unfold FU; omega) ⟨rfl, rfl, rfl, Or.inl ⟨0, g, rfl, by omega, rfl, rfl, fun d hd => by omega, hA, M⟩, Fr.rf⟩
  rintro r x1 x2 x3 x4 x5 h' ⟨rfl, rfl, rfl, hst, F'⟩ Q hQ
  unfold fX10_guests_37_b
  rcases hst with ⟨c, r0, rfl, hc, rfl, rfl, hd, hA, M'⟩ | ⟨rfl, hA9, rfl, rfl, M'⟩
  · refine ok_if (fun d1 => ?_) (fun d1 => ?_)
    · rw [nI_leI (by omega) (by omega)] at d1
      have r00 : r0 = 0 := by omega
      subst r00
      have e : A = c := hA
      subst e
      exact ok_some ⟨rfl, M', F'⟩
    · rw [nI_leI (by omega) (by omega)] at d1
      obtain ⟨r0, rfl⟩ : ∃ r', r0 = r' + 1 := ⟨r0 - 1, by omega⟩
      have Wc := GO_WF W hd
      have w9 := Wc.1
      have stop : ¬ GO x2 E z n c → A = c := fun ng => by
        rcases hA with ⟨q, _⟩ | ⟨_, q⟩
        · exact absurd q ng
        · exact q
      have halt : ∀ h2, h2 = h' → ¬ GO x2 E z n c → Ok (Q (nI s) x2 (nI g) (nI c) (nI c + 1) h2) (fun q => q.1 = nI A ∧ MT q.2 (n + A) m (gN num E x2.toInt.toNat n A) sl mn ∧ Fr (fun o k => (o = 59 ∧ k = 2) ∨ o = 60) h q.2) := by
        intro h2 e ng
        have := stop ng
        subst this
        subst e
        rw [nI_1]
        exact hQ 0 _ _ _ _ _ _ (by omega) ⟨rfl, rfl, rfl, Or.inr ⟨rfl, by omega, rfl, rfl, M'⟩, F'⟩
      refine ok_t rfl ?_
      rw [M'.1]
      refine ok_if (fun d2 => ?_) (fun d2 => ?_)
      · rw [show (9 : Int32) = nI 9 from rfl, nI_leI (by omega) (by omega)] at d2
        have := stop (fun q => by have := q.2.2.1; omega)
        subst this
        exact ok_some ⟨rfl, M', F'⟩
      · rw [show (9 : Int32) = nI 9 from rfl, nI_leI (by omega) (by omega)] at d2
        have f75 : h'.1 75 s = 0 := by rw [F'.1 _ _ (by omega)]; exact e75
        have f76 : h'.1 76 s = nI z := by rw [F'.1 _ _ (by omega)]; exact ez
        have hE' : ∀ k, k < 60 → (h'.2 77 (60 * s + k)).toInt32 = E k := by rw [F'.2]; exact hE
        refine ok_let (ok_t (inb_nI (by omega) (by decide)) ?_)
        rw [ix_nI (by omega), f75, f76]
        refine ok_t rfl ?_
        rw [show x2.toInt64 + 4 * (nI c).toInt64 = adr64 x2 (nI c) from rfl]
        refine ok_if (fun d3 => halt h' rfl (fun q => by rw [i_lt, e0] at d3; have := q.1; omega)) (fun d3 => ?_)
        rw [i_lt, e0] at d3
        have t2 := (adr_toInt (p := x2) (c := c) (by omega)).2
        have ezz : ((nI z).toInt64).toInt = z := by rw [Int32.toInt_toInt64, nI_toInt (by omega)]
        refine ok_if (fun d4 => halt h' rfl (fun q => by rw [lg_ge, t2, ezz] at d4; have := q.2.1; omega)) (fun d4 => ?_)
        rw [lg_ge, t2, ezz] at d4
        refine ok_let ?_
        rw [adr_32 (by omega) (by omega) (by omega)]
        obtain ⟨a, ea⟩ : ∃ a, a = x2.toInt.toNat + 4 * c := ⟨_, rfl⟩
        rw [← ea]
        have ha3 : a + 3 < z := by omega
        have y2 : nI a + 2 = nI (a + 2) := by rw [show (2 : Int32) = nI 2 from rfl, nI_add]
        have y3 : nI a + 3 = nI (a + 3) := by rw [show (3 : Int32) = nI 3 from rfl, nI_add]
        rw [nI_1 (a := a), y2, y3, m_byteAt hs hz f76 (show a < z by omega), b2_some, m_byteAt hs hz f76 (show a + 1 < z by omega), b2_some, m_byteAt hs hz f76 (show a + 2 < z by omega), b2_some, m_byteAt hs hz f76 (show a + 3 < z by omega), b2_some, hE' a (by omega), hE' (a + 1) (by omega), hE' (a + 2) (by omega), hE' (a + 3) (by omega)]
        rw [m_isIn, b2_some, e0, e99]
        by_cases q0 : 0 ≤ (E a).toInt ∧ (E a).toInt ≤ 99
        · rw [if_pos q0]
          refine ok_f (by decide) ?_
          rw [m_isIn, b2_some, e0, e9]
          by_cases q1 : 0 ≤ (E (a + 1)).toInt ∧ (E (a + 1)).toInt ≤ 9
          · rw [if_pos q1]
            refine ok_f (by decide) ?_
            rw [m_isIn, b2_some, e0, e9]
            by_cases q2 : 0 ≤ (E (a + 2)).toInt ∧ (E (a + 2)).toInt ≤ 9
            · rw [if_pos q2]
              refine ok_f (by decide) ?_
              rw [m_isIn, b2_some, e0, e1]
              by_cases q3 : 0 ≤ (E (a + 3)).toInt ∧ (E (a + 3)).toInt ≤ 1
              · rw [if_pos q3]
                refine ok_f (by decide) ?_
                have gok : GO x2 E z n c := by
                  refine ⟨by omega, ?_⟩
                  unfold gOk
                  rw [← ea]
                  exact ⟨ha3, by omega, rg0'.mpr q0, (rgN 0 9 s10 s11).mpr q1, (rgN 0 9 s20 s21).mpr q2, (rgN 0 1 s30 s31).mpr q3⟩
                refine ok_b2 (m_add5 (v0 := E a) (v1 := E (a + 1)) (v2 := E (a + 2)) (v3 := E (a + 3)) (v4 := 7) (show n + c < 9 by omega) M') (fun v h2 hh => ?_)
                obtain ⟨_, M2, F2⟩ := hh
                rw [nI_1 (a := c)]
                refine hQ (r0 + 1) _ _ _ _ _ _ (by omega) ⟨rfl, rfl, rfl, Or.inl ⟨c + 1, r0, rfl, by omega, rfl, rfl, fun d hd' => ?_, ?_, ?_⟩, F'.tr F2⟩
                · by_cases e : d = c
                  · rw [e]; exact gok
                  · exact hd d (by omega)
                · rcases hA with ⟨_, q⟩ | ⟨q, _⟩
                  · exact q
                  · exact absurd gok q
                · rw [ea] at M2; exact M2
              · rw [if_neg q3]
                refine ok_t rfl (halt h' rfl (fun q => q3 ?_))
                have := q.2.2.2.2.2.2
                rw [← ea] at this
                exact (rgN 0 1 s30 s31).mp this
            · rw [if_neg q2]
              refine ok_t rfl (halt h' rfl (fun q => q2 ?_))
              have := q.2.2.2.2.2.1
              rw [← ea] at this
              exact (rgN 0 9 s20 s21).mp this
          · rw [if_neg q1]
            refine ok_t rfl (halt h' rfl (fun q => q1 ?_))
            have := q.2.2.2.2.1
            rw [← ea] at this
            exact (rgN 0 9 s10 s11).mp this
        · rw [if_neg q0]
          refine ok_t rfl (halt h' rfl (fun q => q0 ?_))
          have := q.2.2.2.1
          rw [← ea] at this
          exact rg0'.mp this
  · refine ok_if (fun d1 => ok_some ⟨rfl, M', F'⟩) (fun d1 => ?_)
    refine ok_f (fun z => by have := nI_inj (by omega) (by omega) z; omega) (ok_some ⟨rfl, M', F'⟩)
