theorem c_sup0 {m mi : Nat} {sl : Nat → Nat → Int32} {mn ch : Int32} {num : Nat → Nat → Int32} {h : AH} (hm : m ≤ 12) (hby : ∀ s, s < m → ∃ j, j < 0 ∧ sl s 2 = nI j) (hmi : mi ≤ 100) (C : CRep 1 h 0 m num sl mn) : Ok (fX6_sup (nI mi) ch h) (fun h' => (∃ num' mn', CRep 19 h' 0 m num' sl mn') ∧ Fr Scr h h') := by
  unfold fX6_sup
  refine ok_bV (c_become (by omega) hm C) (fun h1 hh => ?_)
  obtain ⟨C1, F1⟩ := hh
  refine L3 (f := fX6_sup_13 (nI mi) ch) (b := fX6_sup_13_b (nI mi) ch) (fun _ => rfl) (fun r x y z h' => ∃ c, c + r = mi ∧ x = nI mi ∧ y = ch ∧ z = nI c ∧ (∃ num' mn', CRep 19 h' 0 m num' sl mn') ∧ Fr Scr h h') ?_ mi FU (nI mi) ch 0 h1 (by unfold FU; omega) ⟨0, by omega, rfl, rfl, rfl, ⟨_, _, C1⟩, F1.mono St_scr⟩
  rintro r x y z h' ⟨c, hc, rfl, rfl, rfl, ⟨nu, mi', C'⟩, F'⟩ Q hQ
  unfold fX6_sup_13_b
  refine ok_if (fun d1 => ?_) (fun d1 => ?_)
  · exact ok_some ⟨⟨_, _, C'⟩, F'⟩
  · rw [nI_leI (by omega) (by omega)] at d1
    refine ok_let ?_
    have F2 : Fr (fun o k => o = 18) h' (wI h' 18 6 (h'.1 18 6 * 1103515245 + 12345)) := Fr.rf.w rfl
    revert F2
    generalize wI h' 18 6 (h'.1 18 6 * 1103515245 + 12345) = h2
    intro F2
    have C2 : CRep 19 h2 0 m nu sl mi' := C'.fr F2 (fun o k q1 q2 => by omega)
    have F2 : Fr Scr h h2 := F'.tr (F2.mono (fun o k q => by unfold Scr; omega))
    have fin : Ok (fX6_sup_128 (nI mi) y Q (nI mi) y (nI c) h2) (fun h' => (∃ num' mn', CRep 19 h' 0 m num' sl mn') ∧ Fr Scr h h') := by
      unfold fX6_sup_128
      refine ok_bV (c_pass (Or.inr rfl) (by omega) (by omega) hby C2) (fun h4 hh => ?_)
      obtain ⟨C4, F4⟩ := hh
      rw [nI_1]
      exact hQ (r - 1) _ _ _ _ (by omega) ⟨c + 1, by omega, rfl, rfl, rfl, ⟨_, _, C4⟩, F2.tr (F4.mono (fun o k q => by unfold Scr; omega))⟩
    refine ok_if (fun d2 => fin) (fun d2 => ?_)
    refine ok_t (by rw [C2.1]; decide) fin
theorem c_drawn0 {m B tr mi : Nat} {num sl : Nat → Nat → Int32} {mn ch sd P0 P1 P2 : Int32} {Λ : LawF} {h : AH} (T : TI h 0 m num sl mn) (O : Oth h 0 m B Λ) (htr : tr ≤ 100) (hmi : mi ≤ 100) : Ok (fX9_drawn_85 P0 P1 P2 sd (-1) (nI tr) (nI mi) ch h) (fun q => q.1 = 0 ∧ Fr Scr h q.2) := by
  have hm12 := T.m12
  unfold fX9_drawn_85
  refine ok_let ?_
  refine L6 (f := fX9_drawn_99 P0 P1 P2) (b := fX9_drawn_99_b P0 P1 P2) (fun _ => rfl) (fun r x3 x4 x5 x6 x8 x9 h' => ∃ c, c + r = tr ∧ x3 = -1 ∧ x4 = nI tr ∧ x5 = nI mi ∧ x6 = ch ∧ x8 = 0 ∧ x9 = nI c ∧ Fr Scr h h') ?_ tr FU (-1) (nI tr) (nI mi) ch 0 0 _ (by unfold FU; omega) ⟨0, by omega, rfl, rfl, rfl, rfl, rfl, rfl, Fr.rf.w (by unfold Scr; omega)⟩
  rintro r x3 x4 x5 x6 x8 x9 h' ⟨c, hc, rfl, rfl, rfl, rfl, rfl, rfl, F'⟩ Q hQ
  obtain ⟨T', O'⟩ := scr_t T O F'
  unfold fX9_drawn_99_b
  refine ok_if (fun d1 => ?_) (fun d1 => ?_)
  · exact ok_some ⟨rfl, F'⟩
  · rw [nI_leI (by omega) (by omega)] at d1
    refine ok_bV (c_sup0 hm12 T'.by hmi T'.c) (fun h2 hh => ?_)
    obtain ⟨⟨nu, mi', C2⟩, F2⟩ := hh
    refine ok_t rfl ?_
    rw [c_regAll (by omega) C2, b2_some, nI_1]
    exact ok_let (hQ (r - 1) _ _ _ _ _ _ _ (by omega) ⟨c + 1, by omega, rfl, rfl, rfl, rfl, rfl, rfl, F'.tr F2⟩)
/-- the model's evening -/
theorem m_eve {n m B mi : Nat} {num sl : Nat → Nat → Int32} {mn g ch sd P0 P1 P2 x2 x7 x8 : Int32} {Λ : LawF} {h h1 : AH} {P : Int32 × AH → Prop} {Q80 : Int32 → Int32 → Int32 → Int32 → Int32 → Int32 → Int32 → AH → Option (Int32 × AH)} (T : TI h n m num sl mn) (O : Oth h n m B Λ) (hn0 : 0 < n) (hmi : mi ≤ 100) (M1 : MRep h1 n m num sl mn) (k1 : ∀ k, k < 94 → h1.1 61 k = h.1 60 k) (F1 : Fr (fun o k => Scr o k ∨ (o = 60 ∧ k < 94)) h h1)
    (hP : ∀ h2, Fr Scr h h2 → Ok (Q80 x2 g (nI mi) ch (drS n m sl ch mi (num, mn, sd)).2.2 (x7 + drR Λ n g (drS n m sl ch mi (num, mn, sd))) (x8 + 1) h2) P) : Ok (fX10_drawn_98 P0 P1 P2 Q80 FU x2 g (nI mi) ch sd x7 x8 0 h1) P := by
  have hn9 := T.n9
  have hm12 := T.m12
  refine L8 (f := fX10_drawn_98 P0 P1 P2 Q80) (b := fX10_drawn_98_b P0 P1 P2 Q80) (fun _ => rfl) (fun r y2 y3 y4 y5 y6 y7 y8 y9 h' => ∃ c, c + r = mi ∧ y2 = x2 ∧ y3 = g ∧ y4 = nI mi ∧ y5 = ch ∧ y6 = (drS n m sl ch c (num, mn, sd)).2.2 ∧ y7 = x7 ∧ y8 = x8 ∧ y9 = nI c ∧ MRep h' n m (drS n m sl ch c (num, mn, sd)).1 sl (drS n m sl ch c (num, mn, sd)).2.1 ∧ (∀ k, k < 94 → h'.1 61 k = h.1 60 k) ∧ Fr (fun o k => Scr o k ∨ (o = 60 ∧ k < 94)) h h') ?_ mi FU x2 g (nI mi) ch sd x7 x8 0 h1 (by unfold FU; omega) ⟨0, by omega, rfl, rfl, rfl, rfl, rfl, rfl, rfl, rfl, M1, k1, F1⟩
  rintro r y2 y3 y4 y5 y6 y7 y8 y9 h' ⟨c, hc, rfl, rfl, rfl, rfl, rfl, rfl, rfl, rfl, M', k', F'⟩ Q hQ
  unfold fX10_drawn_98_b
  obtain ⟨D, eD⟩ : ∃ D, D = drS n m sl y5 c (num, mn, sd) := ⟨_, rfl⟩
  have eS : drS n m sl y5 (c + 1) (num, mn, sd) = (pmN n m sl D.2.1 (drN n y5 D.1 (drX D.2.2)), pmM D.2.1, drX D.2.2) := by rw [eD]; rfl
  rw [← eD] at M'
  rw [← eD]
  refine ok_if (fun d1 => ?_) (fun d1 => ?_)
  · rw [nI_leI (by omega) (by omega)] at d1
    have e : c = mi := by omega
    subst e
    rw [← eD] at hP
    have fin : ∀ (v : Int32) (h2 : AH), v = drR Λ n y3 D → (∀ k, k < 94 → h2.1 61 k = h.1 60 k) → Fr (fun o k => Scr o k ∨ (o = 60 ∧ k < 94)) h h2 → Ok (fX10_drawn_256 P0 P1 P2 Q80 y2 y3 (nI c) y5 D.2.2 y8 v y7 h2) P := by
      intro v h2 ev k2 F2
      unfold fX10_drawn_256
      refine ok_let (ok_bV (m_wake (h := h) (P := fun h5 => Fr Scr h h5) (fun o k q => q) k2 F2 (fun h5 F5 _ => F5)) (fun h5 F5 => ?_))
      rw [ev]
      exact hP h5 F5
    refine L9 (f := fX10_drawn_204 P0 P1 P2 Q80) (b := fX10_drawn_204_b P0 P1 P2 Q80) (fun _ => rfl) (fun r z2 z3 z4 z5 z6 z7 z8 z9 z10 h2 => ∃ i, i + r = n ∧ z2 = y2 ∧ z3 = y3 ∧ z4 = nI c ∧ z5 = y5 ∧ z6 = D.2.2 ∧ z7 = y7 ∧ z8 = y8 ∧ z9 = alR D.1 i ∧ z10 = nI i ∧ h2 = h') ?_ n FU _ _ _ _ _ _ _ 0 0 h' (by unfold FU; omega) ⟨0, by omega, rfl, rfl, rfl, rfl, rfl, rfl, rfl, rfl, rfl, rfl⟩
    rintro r z2 z3 z4 z5 z6 z7 z8 z9 z10 h2 ⟨i, hi, rfl, rfl, rfl, rfl, rfl, rfl, rfl, rfl, rfl, rfl⟩ Q2 hQ2
    unfold fX10_drawn_204_b
    rw [M'.1]
    refine ok_if (fun d2 => ?_) (fun d2 => ?_)
    · rw [nI_leI (by omega) (by omega)] at d2
      have e : i = n := by omega
      subst e
      by_cases d3 : z3 = -1
      · refine ok_t d3 (fin _ _ ?_ k' F')
        unfold drR
        rw [if_pos d3]
      · refine ok_f d3 ?_
        refine ok_bv (m_firstNow hn9 O.ir M' (O.ml.scr F' (fun o k q => q))) (fun h3 F3 => ?_)
        have k3 : ∀ k, k < 94 → h3.1 61 k = h.1 60 k := fun k hk => by rw [F3.1 61 k (fun q => by unfold Sl Sg at q; omega)]; exact k' k hk
        have F03 : Fr (fun o k => Scr o k ∨ (o = 60 ∧ k < 94)) h h3 := F'.tr (F3.mono (fun o k q => Or.inl (Sq_scr o k (Or.inl q))))
        refine ok_if (fun d4 => fin _ _ ?_ k3 F03) (fun d4 => fin _ _ ?_ k3 F03)
        · unfold drR
          rw [if_neg d3, if_pos d4]
        · unfold drR
          rw [if_neg d3, if_neg d4]
    · rw [nI_leI (by omega) (by omega)] at d2
      rw [m_number (K := 0) (k := 0) rfl (show i < 9 by omega) (by decide), b2_some, M'.2.1 i (by omega) 0 (by decide), nI_1]
      exact ok_let (hQ2 (r - 1) _ _ _ _ _ _ _ _ _ _ (by omega) ⟨i + 1, by omega, rfl, rfl, rfl, rfl, rfl, rfl, rfl, rfl, rfl, rfl⟩)
  · rw [nI_leI (by omega) (by omega)] at d1
    have ex : D.2.2 * 1103515245 + 12345 = drX D.2.2 := rfl
    rw [M'.1, ex]
    refine ok_f (by rw [show (0 : Int32) = nI 0 from rfl, nI_leI (by omega) (by omega)]; omega) (ok_let (ok_f (nI_ne0 hn0 (by omega)) (ok_let ?_)))
    have hm' : ∀ h'' : AH, mOK h'' m := fun _ => Or.inl hm12
    have fin : ∀ h2, MRep h2 n m (drN n y5 D.1 (drX D.2.2)) sl D.2.1 → (∀ k, k < 94 → h2.1 61 k = h.1 60 k) → Fr (fun o k => Scr o k ∨ (o = 60 ∧ k < 94)) h h2 → Ok (fX10_drawn_188 P0 P1 P2 Q80 Q y2 y3 (nI mi) y5 (drX D.2.2) y7 y8 (nI c) h2) P := by
      intro h2 M2 k2 F2
      unfold fX10_drawn_188
      refine ok_bV (m_pass hn9 (hm' h2) M2) (fun h3 hh => ?_)
      obtain ⟨M3, F3⟩ := hh
      rw [nI_1]
      refine hQ (r - 1) _ _ _ _ _ _ _ _ _ (by omega) ⟨c + 1, by omega, rfl, rfl, rfl, rfl, ?_, rfl, rfl, rfl, ?_, fun k hk => by rw [F3.1 61 k (by omega)]; exact k2 k hk, F2.tr (F3.mono (fun o k q => Or.inr q))⟩
      · rw [eS]
      · rw [eS]; exact M3
    obtain ⟨j, hj, ej⟩ := drG (drX D.2.2) hn0 hn9
    have ejt : (jrem (jushr (drX D.2.2) 8) (nI n)).toInt.toNat = j := by rw [ej, nI_toInt (by omega)]; rfl
    refine ok_if (fun d2 => ?_) (fun d2 => ?_)
    · have e : drN n y5 D.1 (drX D.2.2) = D.1 := by unfold drN; rw [if_pos d2]
      exact fin h' (by rw [e]; exact M') k' F'
    · rw [ej, m_isHere (by omega), b2_some, M'.2.1 j hj 5 (by decide)]
      by_cases c5 : D.1 j 5 = 0
      · rw [if_pos c5]
        refine ok_f (by decide) ?_
        rw [m_number (K := 0) (k := 0) rfl (show j < 9 by omega) (by decide), b2_some, M'.2.1 j hj 0 (by decide), m_change (K := 0) (k := 0) rfl (show j < 9 by omega) (by decide), bV_some]
        have e : drN n y5 D.1 (drX D.2.2) = setN D.1 j 0 (jmin 99 (D.1 j 0 + 1 + jrem (jushr (drX D.2.2) 16) 20)) := by
          unfold drN
          rw [if_neg d2, ejt, if_pos c5, Int32.add_assoc]
        refine fin _ ?_ (fun k hk => by rw [wI_rd, if_neg (by omega)]; exact k' k hk) (F'.w (Or.inr ⟨rfl, by omega⟩))
        rw [e]
        exact m_setIn hn9 hj (by decide) (hm' h') M'
      · rw [if_neg c5]
        refine ok_t rfl ?_
        have e : drN n y5 D.1 (drX D.2.2) = D.1 := by unfold drN; rw [if_neg d2, ejt, if_neg c5]
        exact fin h' (by rw [e]; exact M') k' F'
