theorem op_shift (p p1 r p3 p4 : Int32) : Sim (fX9_shift p p1 r p3 p4) (fX10_shift p p1 r p3 p4) := by
  have e0 : (0 : Int32).toInt = 0 := by decide
  have e4 : (4 : Int32).toInt = 4 := by decide
  refine sim_of (fun n m B num sl mn Λ h T O => ?_)
  have hB := O.b50
  by_cases c1 : 0 ≤ p.toInt ∧ p.toInt < 6
  · by_cases c2 : 0 ≤ r.toInt ∧ r.toInt < 6
    · obtain ⟨ep, hp⟩ := nI_of_rg (p := p) (a := 5) (by omega) (by omega) (by decide)
      obtain ⟨a, ea⟩ : ∃ a, a = p.toInt.toNat := ⟨_, rfl⟩
      rw [← ea] at ep hp
      have ha : a < 6 := by omega
      clear ea
      subst ep
      obtain ⟨er, hr⟩ := nI_of_rg (p := r) (a := 5) (by omega) (by omega) (by decide)
      obtain ⟨b, eb⟩ : ∃ b, b = r.toInt.toNat := ⟨_, rfl⟩
      rw [← eb] at er hr
      have hb : b < 6 := by omega
      clear eb
      subst er
      have ra := rfS a ha
      have rb := rfS b hb
      obtain ⟨Sa, ⟨za, za1, za2, za3⟩, Ea⟩ := O.sh a ha
      obtain ⟨Sb, ⟨zb, zb1, zb2, zb3⟩, Eb⟩ := O.sh b hb
      have ia : inb (nI a) 6 = true := inb_nI (by omega) (by decide)
      have ib : inb (nI b) 6 = true := inb_nI (by omega) (by decide)
      have xa : ix (nI a) = a := ix_nI (by omega)
      have xb : ix (nI b) = b := ix_nI (by omega)
      have cf : fX9_shift (nI a) p1 (nI b) p3 p4 h = if h.1 (47 + 2 * a) 0 = 0 then some (-11, h) else if h.1 (47 + 2 * b) 0 = 0 then some (-11, h) else if h.1 (47 + 2 * a) 0 = 2 then bind2 (fX5_isRowOf (47 + 2 * b) (h.1 (47 + 2 * a) 2) h) (fun r20_ h21_ => if r20_ = 0 then some ((-12), h21_) else bind2 (fX5_hasPlaces (47 + 2 * a) p1 p4 h21_) fun r24_ h25_ => if r24_ = 0 then some ((-13), h25_) else bind2 (fX5_hasPlaces (47 + 2 * b) p3 p4 h25_) fun r28_ h29_ => if r28_ = 0 then some ((-13), h29_) else if cpOK p1 p3 p4 60 60 = true then letV (cpL h29_ (48 + 2 * a) (ix p1) (48 + 2 * b) (ix p3) (ix p4)) fun h33_ => some (p4, h33_) else none) else some (-12, h) := by
        unfold fX9_shift
        rw [c_isShelf, b2_some, if_pos c1, if_neg (by decide), c_isShelf, b2_some, if_pos c2, if_neg (by decide), if_pos ia, xa, let_eq, if_pos ib, xb, let_eq, ra.1, rb.1, ra.2, rb.2]
      have mf : ∀ h1 : AH, h1.1 = h.1 → fX10_shift (nI a) p1 (nI b) p3 p4 h1 = if h.1 75 a = -1 then some (-11, h1) else if h.1 75 b = -1 then some (-11, h1) else if 4 < h.1 75 a then some (-12, h1) else if h.1 75 a = h.1 75 b then (if p4 < 0 then some (-13, h1) else if p1 < 0 then some (-13, h1) else if p3 < 0 then some (-13, h1) else if nI za - p1 < p4 then some (-13, h1) else if p4 ≤ nI zb - p3 then fX10_shift_114 (nI a) p1 (nI b) p3 p4 FU (nI a) p1 (nI b) p3 p4 0 h1 else some (-13, h1)) else some (-12, h1) := by
        intro h1 e1
        unfold fX10_shift
        rw [m_isShelf, b2_some, if_pos c1, if_neg (by decide), m_isShelf, b2_some, if_pos c2, if_neg (by decide), if_pos ia, if_pos ib, xa, xb, e1, za3, zb3]
      have n1 : ∀ q, q < 100 → ¬ nI q = -1 := fun q hq z => nI_nm1 (show q < 2 ^ 31 by omega) z.symm
      rcases Sa with ⟨a1, a2⟩ | ⟨a1, x, hx, a2, a3⟩ | ⟨a1, q, hq, a2, a3, a4⟩
      · refine deed_no (v := -11) T O ?_ ?_
        · rw [cf, a1, if_pos rfl]
        · rw [mf h rfl, a2, if_pos rfl]
      · rcases Sb with ⟨b1, b2⟩ | ⟨b1, y, hy, b2, b3⟩ | ⟨b1, q', hq', b2, b3, b4⟩
        · refine deed_no (v := -11) T O ?_ ?_
          · rw [cf, a1, if_neg (by decide), b1, if_pos rfl]
          · rw [mf h rfl, a3, if_neg (n1 _ (by omega)), b2, if_pos rfl]
        · refine deed_no (v := -12) T O ?_ ?_
          · rw [cf, a1, if_neg (by decide), b1, if_neg (by decide), if_neg (by decide)]
          · rw [mf h rfl, a3, if_neg (n1 _ (by omega)), b3, if_neg (n1 _ (by omega)), if_pos (by rw [i_lt, e4, nI_toInt (by omega)]; omega)]
        · refine deed_no (v := -12) T O ?_ ?_
          · rw [cf, a1, if_neg (by decide), b1, if_neg (by decide), if_neg (by decide)]
          · rw [mf h rfl, a3, if_neg (n1 _ (by omega)), b3, if_neg (n1 _ (by omega)), if_pos (by rw [i_lt, e4, nI_toInt (by omega)]; omega)]
      · have na : ¬ 4 < nI q := by rw [i_lt, e4, nI_toInt (by omega)]; omega
        rcases Sb with ⟨b1, b2⟩ | ⟨b1, y, hy, b2, b3⟩ | ⟨b1, q', hq', b2, b3, b4⟩
        · refine deed_no (v := -11) T O ?_ ?_
          · rw [cf, a1, if_neg (by decide), b1, if_pos rfl]
          · rw [mf h rfl, a3, if_neg (n1 _ (by omega)), b2, if_pos rfl]
        · refine deed_no (v := -12) T O ?_ ?_
          · rw [cf, a1, if_neg (by decide), b1, if_neg (by decide), if_pos rfl]
            unfold fX5_isRowOf
            rw [b1, if_neg (by decide), b2_some, if_pos rfl]
          · rw [mf h rfl, a3, if_neg (n1 _ (by omega)), b3, if_neg (n1 _ (by omega)), if_neg na, if_neg (by rw [nI_eq (by omega) (by omega)]; omega)]
        · by_cases eq : q' = q
          · subst eq
            have isR : fX5_isRowOf (47 + 2 * b) (nI q') h = some (1, h) := by
              unfold fX5_isRowOf
              rw [b1, if_pos rfl, b2, if_pos rfl]
            by_cases cA : 0 ≤ p1.toInt ∧ 0 ≤ p4.toInt ∧ p1.toInt + p4.toInt ≤ za
            · by_cases cB : 0 ≤ p3.toInt ∧ 0 ≤ p4.toInt ∧ p3.toInt + p4.toInt ≤ zb
              · -- the shift
                obtain ⟨f1, g1⟩ := nI_of_rg (p := p1) (a := 60) (by omega) (by omega) (by decide)
                obtain ⟨f3, g3⟩ := nI_of_rg (p := p3) (a := 60) (by omega) (by omega) (by decide)
                obtain ⟨f4, g4⟩ := nI_of_rg (p := p4) (a := 60) (by omega) (by omega) (by decide)
                obtain ⟨i, hi⟩ : ∃ i, i = p1.toInt.toNat := ⟨_, rfl⟩
                obtain ⟨j, hj⟩ : ∃ j, j = p3.toInt.toNat := ⟨_, rfl⟩
                obtain ⟨l, hl⟩ : ∃ l, l = p4.toInt.toNat := ⟨_, rfl⟩
                rw [← hi] at f1
                rw [← hj] at f3
                rw [← hl] at f4
                have hil : i + l ≤ za := by omega
                have hjl : j + l ≤ zb := by omega
                clear hi hj hl g1 g3 g4
                subst f1
                subst f3
                subst f4
                have ck : cpOK (nI i) (nI j) (nI l) 60 60 = true := by
                  unfold cpOK
                  rw [ix_nI (by omega), ix_nI (by omega), ix_nI (by omega), nI_toInt (by omega), nI_toInt (by omega), nI_toInt (by omega)]
                  simp
                  omega
                have cf2 : fX9_shift (nI a) (nI i) (nI b) (nI j) (nI l) h = some (nI l, cpL h (48 + 2 * a) i (48 + 2 * b) j l) := by
                  rw [cf, a1, if_neg (by decide), b1, if_neg (by decide), if_pos rfl, a2, isR, b2_some, if_neg (by decide), c_places za1 za2, b2_some, if_pos cA, if_neg (by decide), c_places zb1 zb2, b2_some, if_pos cB, if_neg (by decide), if_pos ck, ix_nI (by omega), ix_nI (by omega), ix_nI (by omega)]
                  rfl
                rw [cf2]
                refine ok_some ?_
                obtain ⟨h1, eh⟩ : ∃ h1, h1 = cpL h (48 + 2 * a) i (48 + 2 * b) j l := ⟨_, rfl⟩
                rw [← eh]
                have k1 : h1.1 = h.1 := by rw [eh]; exact cpL_1 _ _ _ _ _ _
                have k2 : ∀ o k, h1.2 o k = if o = 48 + 2 * b ∧ j ≤ k ∧ k < j + l then h.2 (48 + 2 * a) (i + (k - j)) else h.2 o k := by rw [eh]; intro o k; exact cpL_rd _ _ _ _ _ _ _ _
                show Ok (fX10_shift (nI a) (nI i) (nI b) (nI j) (nI l) h1) _
                have s1 : (nI za - nI i).toInt = (za : Int) - i := pk_sub_toInt (by omega) (by omega)
                have s2 : (nI zb - nI j).toInt = (zb : Int) - j := pk_sub_toInt (by omega) (by omega)
                rw [mf h1 k1, a3, if_neg (n1 _ (by omega)), b3, if_neg (n1 _ (by omega)), if_neg na, if_pos rfl, if_neg (by rw [i_lt, e0, nI_toInt (by omega)]; omega), if_neg (by rw [i_lt, e0, nI_toInt (by omega)]; omega), if_neg (by rw [i_lt, e0, nI_toInt (by omega)]; omega), if_neg (by rw [i_lt, s1, nI_toInt (by omega)]; omega), if_pos (by rw [i_le, s2, nI_toInt (by omega)]; omega)]
                refine ok_mono (m_shift ha hb (by omega) (by omega)) (fun w hw => ?_)
                obtain ⟨w0, w1, w2⟩ := hw
                refine ⟨w0.symm, ?_⟩
                have v1 : w.2.1 = h.1 := w1.trans k1
                have e77 : ∀ k, h1.2 77 k = h.2 77 k := fun k => by rw [k2, if_neg (by omega)]
                refine inv_sh T O (fun o k z => by rw [v1]) (fun s' hs' => ?_)
                by_cases e : s' = b
                · subst e
                  refine ⟨Or.inr (Or.inr ⟨by rw [v1]; exact b1, q', hq', by rw [v1]; exact b2, by rw [v1]; exact b3, fun q0 k hk => ?_⟩), ⟨zb, zb1, by rw [v1]; exact zb2, by rw [v1]; exact zb3⟩, fun k hk => ?_⟩
                  · rw [w2 _ _ (by omega), if_neg (by omega), k2]
                    by_cases c : 48 + 2 * s' = 48 + 2 * s' ∧ j ≤ k ∧ k < j + l
                    · rw [if_pos c]; exact a4 q0 _ (by omega)
                    · rw [if_neg c]; exact b4 q0 k hk
                  · rw [w2 _ _ (by decide), w2 _ _ (by omega), if_neg (show ¬ (48 + 2 * s' = 77 ∧ 60 * s' + j ≤ k ∧ k < 60 * s' + j + l) by omega), k2 (48 + 2 * s')]
                    by_cases c : j ≤ k ∧ k < j + l
                    · rw [if_pos ⟨rfl, by omega, by omega⟩, if_pos ⟨rfl, c.1, c.2⟩, e77, show 60 * a + i + (60 * s' + k - (60 * s' + j)) = 60 * a + (i + (k - j)) by omega]
                      exact Ea _ (by omega)
                    · rw [if_neg (by omega), if_neg (by omega), e77]
                      exact Eb k hk
                · refine Shl_eq (fun k => by rw [v1]) (by rw [v1]) (by rw [v1]) (fun k hk => ?_) (fun k hk => ?_) (O.sh s' hs')
                  · rw [w2 _ _ (by omega), if_neg (by omega), k2, if_neg (by omega)]
                  · rw [w2 _ _ (by decide), if_neg (by omega), e77]
              · refine deed_no (v := -13) T O ?_ ?_
                · rw [cf, a1, if_neg (by decide), b1, if_neg (by decide), if_pos rfl, a2, isR, b2_some, if_neg (by decide), c_places za1 za2, b2_some, if_pos cA, if_neg (by decide), c_places zb1 zb2, b2_some, if_neg cB, if_pos rfl]
                · rw [mf h rfl, a3, if_neg (n1 _ (by omega)), b3, if_neg (n1 _ (by omega)), if_neg na, if_pos rfl]
                  by_cases y1 : p4 < 0
                  · rw [if_pos y1]
                  · rw [if_neg y1]
                    by_cases y2 : p1 < 0
                    · rw [if_pos y2]
                    · rw [if_neg y2]
                      by_cases y3 : p3 < 0
                      · rw [if_pos y3]
                      · rw [if_neg y3]
                        by_cases y4 : nI za - p1 < p4
                        · rw [if_pos y4]
                        · rw [i_lt, e0] at y1 y2 y3
                          rw [if_neg y4, if_neg]
                          have s2 := sub_big (z := zb) (x := p3) zb1 (by omega)
                          rw [i_le, s2]
                          omega
            · refine deed_no (v := -13) T O ?_ ?_
              · rw [cf, a1, if_neg (by decide), b1, if_neg (by decide), if_pos rfl, a2, isR, b2_some, if_neg (by decide), c_places za1 za2, b2_some, if_neg cA, if_pos rfl]
              · rw [mf h rfl, a3, if_neg (n1 _ (by omega)), b3, if_neg (n1 _ (by omega)), if_neg na, if_pos rfl]
                by_cases y1 : p4 < 0
                · rw [if_pos y1]
                · rw [if_neg y1]
                  by_cases y2 : p1 < 0
                  · rw [if_pos y2]
                  · rw [if_neg y2]
                    by_cases y3 : p3 < 0
                    · rw [if_pos y3]
                    · rw [i_lt, e0] at y1 y2 y3
                      rw [if_neg (by rw [i_lt, e0]; exact y3), if_pos]
                      have s2 := sub_big (z := za) (x := p1) za1 (by omega)
                      rw [i_lt, s2]
                      omega
          · refine deed_no (v := -12) T O ?_ ?_
            · rw [cf, a1, if_neg (by decide), b1, if_neg (by decide), if_pos rfl, a2]
              unfold fX5_isRowOf
              rw [b1, if_pos rfl, b2, if_neg (by rw [nI_eq (by omega) (by omega)]; exact eq), b2_some, if_pos rfl]
            · rw [mf h rfl, a3, if_neg (n1 _ (by omega)), b3, if_neg (n1 _ (by omega)), if_neg na, if_neg (by rw [nI_eq (by omega) (by omega)]; omega)]
    · refine deed_no (v := -1) T O ?_ ?_
      · unfold fX9_shift
        rw [c_isShelf, b2_some, if_pos c1, if_neg (by decide), c_isShelf, b2_some, if_neg c2, if_pos rfl]
      · unfold fX10_shift
        rw [m_isShelf, b2_some, if_pos c1, if_neg (by decide), m_isShelf, b2_some, if_neg c2, if_pos rfl]
  · refine deed_no (v := -1) T O ?_ ?_
    · unfold fX9_shift
      rw [c_isShelf, b2_some, if_neg c1, if_pos rfl]
    · unfold fX10_shift
      rw [m_isShelf, b2_some, if_neg c1, if_pos rfl]
