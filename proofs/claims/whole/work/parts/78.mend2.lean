theorem op_mend (p w v : Int32) : Sim (fX9_mend p w v) (fX10_mend p w v) := by
  have e8 : (8 : Int32).toInt = 8 := by decide
  refine sim_of (fun n m B num sl mn Λ h T O => ?_)
  have hn9 := T.n9
  have hm12 := T.m12
  obtain ⟨d, kn, c1, c2, c3, c4, c5, c6, c7⟩ := O.2.2.2.1
  obtain ⟨k1, k2, k3, k4⟩ := O.2.2.2.2.2.2.1
  by_cases ch : hasN n m p w ∧ ¬ w.toInt = 9
  · obtain ⟨a, k, ea, ek, hv9, la, lk⟩ := hasN_nI hn9 (by omega) ch.1
    subst ea
    subst ek
    have c9 := ch.2
    rw [nI_toInt (by omega)] at c9
    have hv : vld n m a k := by rcases hv9 with q | q; exact q; omega
    have hk : k < 9 := by unfold vld at hv; omega
    have hl := plc_lt hn9 hm12 hv
    have cfront : fX9_mend (nI a) (nI k) v h = if (ST 200 k).toInt ≤ v.toInt ∧ v.toInt ≤ (ST 201 k).toInt then (if valN num sl mn a k = v then some (valN num sl mn a k, h) else bindV (fX0_add (nI a) (nI k) (valN num sl mn a k) v (cput h a k v)) fun h18_ => some (valN num sl mn a k, h18_)) else some (-1, h) := by
      unfold fX9_mend
      rw [if_neg (by rw [i_lt, e8, nI_toInt (by omega)]; omega), c_hasNumber T.c.1 T.c.2.1 hn9 (by omega), b2_some, if_pos ch.1, if_neg (by decide), c_isWithin (K := nI k) (k := k) rfl hk, b2_some]
      by_cases q : rgK k v
      · rw [if_pos (show (ST 200 k).toInt ≤ v.toInt ∧ v.toInt ≤ (ST 201 k).toInt from q), if_pos (show (ST 200 k).toInt ≤ v.toInt ∧ v.toInt ≤ (ST 201 k).toInt from q), if_neg (by decide), c_numberOf T hv9, b2_some, c_setN hn9 hm12 T.ct hv, bV_some]
      · rw [if_neg (show ¬ ((ST 200 k).toInt ≤ v.toInt ∧ v.toInt ≤ (ST 201 k).toInt) from q), if_neg (show ¬ ((ST 200 k).toInt ≤ v.toInt ∧ v.toInt ≤ (ST 201 k).toInt) from q), if_pos rfl]
    have mfront : ∀ h1 : AH, MT h1 n m num sl mn → (∀ o i, o = 65 ∨ o = 66 → h1.1 o i = h.1 o i) → fX10_mend (nI a) (nI k) v h1 = if (ST 200 k).toInt ≤ v.toInt ∧ v.toInt ≤ (ST 201 k).toInt then (if valN num sl mn a k = v then some (valN num sl mn a k, h1) else (if (wI h1 60 (plc a k) v).1 59 7 = 40 then fX10_mend_70 (nI a) (nI k) v FU v (nI (plc a k)) (valN num sl mn a k) 1 (wI h1 60 (plc a k) v) else fX10_mend_141 (nI a) (nI k) v v (nI (plc a k)) (valN num sl mn a k) (wI h1 60 (plc a k) v))) else some (-1, h1) := by
      intro h1 M1 hb
      have hp : h1.1 60 (plc a k) = valN num sl mn a k := by
        unfold plc valN
        unfold vld at hv
        by_cases c8 : k = 8
        · rw [if_pos c8, if_pos c8]; exact M1.2.2.1
        · rw [if_neg c8, if_neg c8]
          by_cases c6 : k = 6 ∨ k = 7
          · rw [if_pos c6, if_neg (by omega), if_neg (by omega)]
            exact M1.2.2.2.2.2 a (by omega) (k - 6) (by omega)
          · rw [if_neg c6, if_pos (by omega)]
            exact M1.2.1 a (by omega) k (by omega)
      unfold fX10_mend
      rw [m_place M1.1 M1.2.2.2.2.1 hn9 hm12, b2_some, if_pos ch, nI_toInt (by omega), nI_toInt (by omega), Int.toNat_natCast, Int.toNat_natCast, if_neg (fun z => nI_nm1 (show plc a k < 2 ^ 31 by omega) z.symm), if_pos (inb_nI hk (by decide)), ix_nI (by omega), m_isIn, b2_some, hb 65 k (by omega), hb 66 k (by omega), (k1 k hk).1, (k1 k hk).2]
      by_cases q : rgK k v
      · rw [if_pos (show (ST 200 k).toInt ≤ v.toInt ∧ v.toInt ≤ (ST 201 k).toInt from q), if_pos (show (ST 200 k).toInt ≤ v.toInt ∧ v.toInt ≤ (ST 201 k).toInt from q), if_neg (by decide), if_pos (inb_nI hl (by decide)), ix_nI (show plc a k < 2 ^ 31 by omega), hp]
        rfl
      · rw [if_neg (show ¬ ((ST 200 k).toInt ≤ v.toInt ∧ v.toInt ≤ (ST 201 k).toInt) from q), if_neg (show ¬ ((ST 200 k).toInt ≤ v.toInt ∧ v.toInt ≤ (ST 201 k).toInt) from q), if_pos rfl]
    by_cases q1 : rgK k v
    · by_cases q2 : valN num sl mn a k = v
      · refine deed_no (v := valN num sl mn a k) T O ?_ ?_
        · rw [cfront, if_pos (show (ST 200 k).toInt ≤ v.toInt ∧ v.toInt ≤ (ST 201 k).toInt from q1), if_pos q2]
        · rw [mfront h T.mt (fun _ _ _ => rfl), if_pos (show (ST 200 k).toInt ≤ v.toInt ∧ v.toInt ≤ (ST 201 k).toInt from q1), if_pos q2]
      · rw [cfront, if_pos (show (ST 200 k).toInt ≤ v.toInt ∧ v.toInt ≤ (ST 201 k).toInt from q1), if_neg q2]
        obtain ⟨e, sf, hes⟩ : ∃ e sf, (d < 40 ∧ e = d ∧ sf = 0) ∨ (d = 40 ∧ e = 39 ∧ sf = 1) := by
          by_cases z : d < 40
          · exact ⟨d, 0, Or.inl ⟨z, rfl, rfl⟩⟩
          · exact ⟨39, 1, Or.inr ⟨by omega, rfl, rfl⟩⟩
        have C1 := CT_put (v := v) T.ct hv
        have F1 : Fr (fun o k => 1 ≤ o ∧ o ≤ 10) h (cput h a k v) := cput_fr Fr.rf (fun o k q => q) hk
        have d1 : (cput h a k v).1 38 5 = nI d := by rw [cput_rd hk (by omega)]; exact c3
        revert C1 F1 d1
        generalize cput h a k v = h1
        intro C1 F1 d1
        refine ok_bV (c_addC d1 hes) (fun h2 hh => ok_some ?_)
        obtain ⟨a1, a2, a3, a4, a5, a6, F2⟩ := hh
        show Ok (fX10_mend (nI a) (nI k) v h2) _
        have F12 : Fr (fun o q => (1 ≤ o ∧ o ≤ 10) ∨ SA o q) h h2 := (F1.mono (fun o k q => Or.inl q)).tr (F2.mono (fun o k q => Or.inr q))
        have C2 : CT h2 n m (nuP num a k v) (slP sl a k v) (mnP mn k v) := C1.fr F2 (fun o k q z => by unfold SA at z; omega)
        have M2 : MT h2 n m num sl mn := T.mt.fr F12 (fun o k q z => by unfold SA at z; omega)
        rw [mfront h2 M2 (fun o i q => F12.1 o i (by unfold SA; omega)), if_pos (show (ST 200 k).toInt ≤ v.toInt ∧ v.toInt ≤ (ST 201 k).toInt from q1), if_neg q2]
        have M3 := MT_put (v := v) hn9 hm12 M2 hv
        have F3 : Fr (fun o k => o = 60) h2 (wI h2 60 (plc a k) v) := Fr.rf.w rfl
        have d3 : (wI h2 60 (plc a k) v).1 59 7 = nI d := by rw [wI_rd, if_neg (by omega), F12.1 59 7 (by unfold SA; omega)]; exact c5
        revert M3 F3 d3
        generalize wI h2 60 (plc a k) v = h3
        intro M3 F3 d3
        refine ok_mono (m_addC d3 hes) (fun q hq => ?_)
        obtain ⟨b0, b1, b2, b3, b4, b5, F4⟩ := hq
        refine ⟨b0.symm, ?_⟩
        have M4 : MT q.2 n m (nuP num a k v) (slP sl a k v) (mnP mn k v) := M3.fr F4 (fun o k q z => by unfold SB at z; omega)
        have F34 : Fr (fun o k => o = 60 ∨ SB o k) h2 q.2 := (F3.mono (fun o k q => Or.inl q)).tr (F4.mono (fun o k q => Or.inr q))
        have C4 := C2.fr F34 (fun o k q z => by unfold SB at z; omega)
        have F : Fr SU h q.2 := (F12.mono (fun o k q => by unfold SU; unfold SA at q; omega)).tr (F34.mono (fun o k q => by unfold SU; unfold SB at q; omega))
        refine inv_chg O (TI_of (WF_put T.1 hv q1) C4 M4) F ⟨e + 1, e + 1, Nat.le_refl _, by omega, ?_, ?_, b1, b2, fun i hi => ?_⟩
        · rw [F34.1 38 5 (by unfold SB; omega)]; exact a1
        · rw [F34.1 38 4 (by unfold SB; omega)]; exact a2
        · have s39 : q.2.1 39 i = if i = e then nI a else h.1 39 (i + sf) := by rw [F34.1 39 i (by unfold SB; omega), a3 i hi, F1.1 39 _ (by omega)]
          have s40 : q.2.1 40 i = if i = e then nI k else h.1 40 (i + sf) := by rw [F34.1 40 i (by unfold SB; omega), a4 i hi, F1.1 40 _ (by omega)]
          have s41 : q.2.1 41 i = if i = e then valN num sl mn a k else h.1 41 (i + sf) := by rw [F34.1 41 i (by unfold SB; omega), a5 i hi, F1.1 41 _ (by omega)]
          have s42 : q.2.1 42 i = if i = e then v else h.1 42 (i + sf) := by rw [F34.1 42 i (by unfold SB; omega), a6 i hi, F1.1 42 _ (by omega)]
          have s62 : q.2.1 62 i = if i = e then nI (plc a k) else h.1 62 (i + sf) := by rw [b3 i hi, F3.1 62 _ (by omega), F12.1 62 _ (by unfold SA; omega)]
          have s63 : q.2.1 63 i = if i = e then valN num sl mn a k else h.1 63 (i + sf) := by rw [b4 i hi, F3.1 63 _ (by omega), F12.1 63 _ (by unfold SA; omega)]
          have s64 : q.2.1 64 i = if i = e then v else h.1 64 (i + sf) := by rw [b5 i hi, F3.1 64 _ (by omega), F12.1 64 _ (by unfold SA; omega)]
          by_cases ie : i = e
          · rw [if_pos ie] at s39 s40 s41 s42 s62 s63 s64
            refine ⟨a, k, s39, s40, hv, s62, by rw [s63, s41], by rw [s64, s42], ?_, by rw [s42]; exact q1⟩
            rw [s41]
            -- the old value keeps its range
            unfold valN
            unfold vld at hv
            obtain ⟨w1, w2, w3, w4, w5⟩ := T.1
            by_cases c8 : k = 8
            · rw [if_pos c8, c8]; exact w5
            · rw [if_neg c8]
              by_cases c6' : k < 6
              · rw [if_pos c6']; exact w3 a (by omega) k c6'
              · rw [if_neg c6', if_neg (by omega)]
                have := w4 a (by omega)
                have kc : k = 6 ∨ k = 7 := by omega
                rcases kc with rfl | rfl
                · exact this.1
                · exact this.2.1
          · rw [if_neg ie] at s39 s40 s41 s42 s62 s63 s64
            obtain ⟨x, y, g1, g2, g3, g4, g5, g6, g7, g8⟩ := c7 (i + sf) (by omega)
            exact ⟨x, y, by rw [s39]; exact g1, by rw [s40]; exact g2, g3, by rw [s62]; exact g4, by rw [s63, s41]; exact g5, by rw [s64, s42]; exact g6, by rw [s41]; exact g7, by rw [s42]; exact g8⟩
    · refine deed_no (v := -1) T O ?_ ?_
      · rw [cfront, if_neg (show ¬ ((ST 200 k).toInt ≤ v.toInt ∧ v.toInt ≤ (ST 201 k).toInt) from q1)]
      · rw [mfront h T.mt (fun _ _ _ => rfl), if_neg (show ¬ ((ST 200 k).toInt ≤ v.toInt ∧ v.toInt ≤ (ST 201 k).toInt) from q1)]
  · refine deed_no (v := -1) T O ?_ ?_
    · unfold fX9_mend
      by_cases q : 8 < w
      · rw [if_pos q]
      · rw [if_neg q, c_hasNumber T.c.1 T.c.2.1 hn9 (by omega), b2_some, if_neg (show ¬ hasN n m p w from fun z => ch ⟨z, by rw [i_lt, e8] at q; omega⟩), if_pos rfl]
    · unfold fX10_mend
      rw [m_place T.m.1 T.2.2.2.2.2.2.2.1 hn9 hm12, b2_some, if_neg ch, if_pos rfl]
