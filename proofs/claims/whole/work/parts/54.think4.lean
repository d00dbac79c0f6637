/-! peak -/
def pkP (f : Nat → Int32) : Nat → Int32 × Int32
  | 0 => (0, f 0)
  | c + 1 => if f (c + 1) ≤ (pkP f c).2 then pkP f c else (nI (c + 1), f (c + 1))
theorem op_peak (g w : Int32) : Sim (fX9_peak g w) (fX10_peak g w) := by
  have e0 : (0 : Int32).toInt = 0 := by decide
  have e1 : (1 : Int32).toInt = 1 := by decide
  refine sim_think (fun n m num sl mn Λ => if 0 ≤ g.toInt ∧ g.toInt < n then if 0 ≤ w.toInt ∧ w.toInt ≤ 1 then if w = 0 then (pkP (fun c => (itP n m sl c (num, mn)).1 g.toInt.toNat 0) 60).1 else (pkP (fun c => (itP n m sl c (num, mn)).1 g.toInt.toNat 0) 60).2 else -1 else -1) (fun n m B num sl mn Λ h T O => ?_) (fun n m B num sl mn Λ h T O => ?_)
  · unfold fX9_peak
    rw [c_hasGuest T.c.1 T.n9, b2_some]
    by_cases c2 : 0 ≤ g.toInt ∧ g.toInt < n
    · rw [if_pos c2, if_pos c2]
      refine ok_f (by decide) ?_
      have hn9 := T.n9
      obtain ⟨eg, hg⟩ := nI_of_rg (a := 9) c2.1 (by omega) (by decide)
      obtain ⟨j, ej⟩ : ∃ j, j = g.toInt.toNat := ⟨_, rfl⟩
      rw [← ej] at eg hg ⊢
      have hj : j < n := by omega
      rw [c_choice, b2_some]
      by_cases c3 : 0 ≤ w.toInt ∧ w.toInt ≤ 1
      · rw [if_pos c3, if_pos c3]
        refine ok_f (by decide) ?_
        rw [eg]
        refine ok_bV (c_start (k := 0) hn9 T.m12 T.by (by omega) T.c) (fun h1 hh => ?_)
        obtain ⟨C1, F1⟩ := hh
        have F1 := F1.mono St_scr
        refine ok_t (inb_nI (by omega) (by decide)) (ok_let ?_)
        rw [ix_nI (show j < 2 ^ 31 by omega), (C1.2.2.2.1 j hj).1]
        refine L5 (f := fX9_peak_47 (nI j) w) (b := fX9_peak_47_b (nI j) w) (fun _ => rfl) (fun r x y z u v h' => ∃ c, c + r = 60 ∧ x = nI j ∧ y = w ∧ (z, u) = pkP (fun c => (itP n m sl c (num, mn)).1 j 0) c ∧ v = nI (c + 1) ∧ CRep 19 h' n m (itP n m sl c (num, mn)).1 sl (itP n m sl c (num, mn)).2 ∧ Fr Scr h h') ?_ 60 FU (nI j) w 0 _ 1 h1 (by unfold FU; omega) ⟨0, by omega, rfl, rfl, rfl, rfl, C1, F1⟩
        rintro r x y z u v h' ⟨c, hc, rfl, rfl, hzu, rfl, C', F'⟩ Q hQ
        unfold fX9_peak_47_b
        refine ok_if (fun d1 => ?_) (fun d1 => ?_)
        · rw [show (60 : Int32) = nI 60 from rfl, nI_ltI (by omega) (by omega)] at d1
          have e9 : c = 60 := by omega
          subst e9
          rw [← hzu]
          by_cases d2 : y = 0
          · rw [if_pos d2, if_pos d2]; exact ok_some ⟨rfl, F'⟩
          · rw [if_neg d2, if_neg d2]; exact ok_some ⟨rfl, F'⟩
        · rw [show (60 : Int32) = nI 60 from rfl, nI_ltI (by omega) (by omega)] at d1
          refine ok_bV (c_pass (Or.inr rfl) hn9 (by have := T.m12; omega) T.by C') (fun h2 hh => ?_)
          obtain ⟨C2, F2⟩ := hh
          have F2 : Fr Scr h h2 := F'.tr (F2.mono (fun o k q => by unfold Scr; omega))
          have C2 : CRep 19 h2 n m (itP n m sl (c + 1) (num, mn)).1 sl (itP n m sl (c + 1) (num, mn)).2 := by rw [it_snoc]; exact C2
          refine ok_t (inb_nI (by omega) (by decide)) ?_
          rw [ix_nI (show j < 2 ^ 31 by omega), (C2.2.2.2.1 j hj).1, nI_1]
          have es : pkP (fun c => (itP n m sl c (num, mn)).1 j 0) (c + 1) = if (itP n m sl (c + 1) (num, mn)).1 j 0 ≤ (pkP (fun c => (itP n m sl c (num, mn)).1 j 0) c).2 then pkP (fun c => (itP n m sl c (num, mn)).1 j 0) c else (nI (c + 1), (itP n m sl (c + 1) (num, mn)).1 j 0) := rfl
          rw [← hzu] at es
          refine ok_if (fun d3 => ?_) (fun d3 => ?_)
          · exact hQ (r - 1) _ _ _ _ _ _ (by omega) ⟨c + 1, by omega, rfl, rfl, by rw [es, if_pos d3], rfl, C2, F2⟩
          · exact ok_let (hQ (r - 1) _ _ _ _ _ _ (by omega) ⟨c + 1, by omega, rfl, rfl, by rw [es, if_neg d3], rfl, C2, F2⟩)
      · rw [if_neg c3, if_neg c3]
        exact ok_t rfl (ok_some ⟨rfl, Fr.rf⟩)
    · rw [if_neg c2, if_neg c2]
      exact ok_t rfl (ok_some ⟨rfl, Fr.rf⟩)
  · unfold fX10_peak
    rw [m_isGuest T.m.1 T.n9, b2_some]
    by_cases c2 : 0 ≤ g.toInt ∧ g.toInt < n
    · rw [if_pos c2, if_pos c2]
      refine ok_f (by decide) ?_
      have hn9 := T.n9
      obtain ⟨eg, hg⟩ := nI_of_rg (a := 9) c2.1 (by omega) (by decide)
      obtain ⟨j, ej⟩ : ∃ j, j = g.toInt.toNat := ⟨_, rfl⟩
      rw [← ej] at eg hg ⊢
      have hj : j < n := by omega
      rw [m_isIn, b2_some, e0, e1]
      by_cases c3 : 0 ≤ w.toInt ∧ w.toInt ≤ 1
      · rw [if_pos c3, if_pos c3]
        refine ok_f (by decide) ?_
        rw [eg]
        refine ok_bV m_keep (fun h1 hh => ?_)
        obtain ⟨k1, F1⟩ := hh
        have M1 : MRep h1 n m num sl mn := T.m.fr F1 (fun k q => by omega) (fun q => by omega) (fun q => by omega) (fun q => by omega) (fun q => by omega) (fun q => by omega)
        have F1 : Fr (fun o k => Scr o k ∨ (o = 60 ∧ k < 94)) h h1 := F1.mono (fun o k q => by unfold Scr; omega)
        have hr0 : ∀ c, 0 ≤ ((itP n m sl c (num, mn)).1 j 0).toInt := by
          intro c
          cases c with
          | zero =>
            have := (T.1.2.2.1 j hj 0 (by decide)).1
            have e : (ST 200 0).toInt = 0 := by decide +kernel
            rw [e] at this
            exact this
          | succ c =>
            rw [it_snoc]
            show 0 ≤ (pmN n m sl (itP n m sl c (num, mn)).2 (itP n m sl c (num, mn)).1 j 0).toInt
            unfold pmN
            split
            · unfold jmax
              split
              · rename_i q; rw [i_lt] at q; have : (0 : Int32).toInt = 0 := by decide
                omega
              · decide
            · rename_i q
              have h5 : ¬ num j 5 = 0 := fun z => q ⟨rfl, hj, by rw [it_5 c _ j 5 (by decide)]; exact z⟩
              clear q
              have key : ∀ c, (itP n m sl c (num, mn)).1 j 0 = num j 0 := by
                intro c
                induction c with
                | zero => rfl
                | succ c ih =>
                  rw [it_snoc]
                  show pmN n m sl (itP n m sl c (num, mn)).2 (itP n m sl c (num, mn)).1 j 0 = _
                  unfold pmN
                  rw [if_neg (fun z => h5 (by have := z.2.2; rw [it_5 c _ j 5 (by decide)] at this; exact this)), ih]
              rw [key]
              have := (T.1.2.2.1 j hj 0 (by decide)).1
              have e : (ST 200 0).toInt = 0 := by decide +kernel
              rw [e] at this
              exact this
        refine L5 (f := fX10_peak_32 (nI j) w) (b := fX10_peak_32_b (nI j) w) (fun _ => rfl) (fun r x y z u v h' => ∃ c, c + r = 61 ∧ x = nI j ∧ y = w ∧ (c = 0 ∧ z = 0 ∧ u = -1 ∨ 0 < c ∧ (z, u) = pkP (fun c => (itP n m sl c (num, mn)).1 j 0) (c - 1)) ∧ v = nI c ∧ MRep h' n m (itP n m sl c (num, mn)).1 sl (itP n m sl c (num, mn)).2 ∧ (∀ k, k < 94 → h'.1 61 k = h.1 60 k) ∧ Fr (fun o k => Scr o k ∨ (o = 60 ∧ k < 94)) h h') ?_ 61 FU (nI j) w 0 _ 0 h1 (by unfold FU; omega) ⟨0, by omega, rfl, rfl, Or.inl ⟨rfl, rfl, rfl⟩, rfl, M1, k1, F1⟩
        rintro r x y z u v h' ⟨c, hc, rfl, rfl, hzu, rfl, M', k', F'⟩ Q hQ
        unfold fX10_peak_32_b
        refine ok_if (fun d1 => ?_) (fun d1 => ?_)
        · rw [show (60 : Int32) = nI 60 from rfl, nI_ltI (by omega) (by omega)] at d1
          have e9 : c = 61 := by omega
          subst e9
          rcases hzu with ⟨q, _⟩ | ⟨_, hzu⟩
          · omega
          refine ok_bV (m_wake (h := h) (P := fun h5 => Fr Scr h h5) (fun o k q => q) k' F' (fun h5 F5 _ => F5)) (fun h5 F5 => ?_)
          have hzu : (z, u) = pkP (fun c => (itP n m sl c (num, mn)).1 j 0) 60 := hzu
          rw [← hzu]
          by_cases d2 : y = 0
          · rw [if_pos d2, if_pos d2]; exact ok_some ⟨rfl, F5⟩
          · rw [if_neg d2, if_neg d2]; exact ok_some ⟨rfl, F5⟩
        · rw [show (60 : Int32) = nI 60 from rfl, nI_ltI (by omega) (by omega)] at d1
          rw [m_number (K := 0) (k := 0) rfl (show j < 9 by omega) (by decide), b2_some, M'.2.1 j hj 0 (by decide)]
          have hm' : mOK h' m := Or.inl T.m12
          have step : ∀ (s0 : Int32), (s0, jmax ((itP n m sl c (num, mn)).1 j 0) u) = pkP (fun c => (itP n m sl c (num, mn)).1 j 0) c → Ok (fX10_peak_56 (nI j) y Q (nI j) y u (nI c) s0 h') (fun q => q.1 = (if y = 0 then (pkP (fun c => (itP n m sl c (num, mn)).1 j 0) 60).1 else (pkP (fun c => (itP n m sl c (num, mn)).1 j 0) 60).2) ∧ Fr Scr h q.2) := by
            intro s0 hs0
            unfold fX10_peak_56
            rw [m_number (K := 0) (k := 0) rfl (show j < 9 by omega) (by decide), b2_some, M'.2.1 j hj 0 (by decide)]
            refine ok_let (ok_bV (m_pass hn9 hm' M') (fun h2 hh => ?_))
            obtain ⟨M2, F2⟩ := hh
            rw [nI_1]
            refine hQ (r - 1) _ _ _ _ _ _ (by omega) ⟨c + 1, by omega, rfl, rfl, Or.inr ⟨by omega, hs0⟩, rfl, by rw [it_snoc]; exact M2, fun k hk => by rw [F2.1 61 k (by omega)]; exact k' k hk, F'.tr (F2.mono (fun o k q => Or.inr q))⟩
          rcases hzu with ⟨q1, q2, q3⟩ | ⟨q1, hzu⟩
          · subst q1
            have hn : ¬ (itP n m sl 0 (num, mn)).1 j 0 ≤ u := by
              rw [q3, i_le]
              have := hr0 0
              have : (-1 : Int32).toInt = -1 := by decide
              omega
            refine ok_f hn (step _ ?_)
            unfold jmax
            rw [if_neg (by rw [i_lt]; rw [i_le] at hn; omega)]
            rfl
          · obtain ⟨c, rfl⟩ : ∃ c', c = c' + 1 := ⟨c - 1, by omega⟩
            have hzu : (z, u) = pkP (fun c => (itP n m sl c (num, mn)).1 j 0) c := hzu
            have es : pkP (fun c => (itP n m sl c (num, mn)).1 j 0) (c + 1) = if (itP n m sl (c + 1) (num, mn)).1 j 0 ≤ (pkP (fun c => (itP n m sl c (num, mn)).1 j 0) c).2 then pkP (fun c => (itP n m sl c (num, mn)).1 j 0) c else (nI (c + 1), (itP n m sl (c + 1) (num, mn)).1 j 0) := rfl
            rw [← hzu] at es
            refine ok_if (fun d3 => step _ ?_) (fun d3 => step _ ?_)
            · rw [es, if_pos d3]
              unfold jmax
              by_cases d4 : (itP n m sl (c + 1) (num, mn)).1 j 0 < u
              · rw [if_pos d4]
              · rw [if_neg d4]
                rw [i_le] at d3
                rw [i_lt] at d4
                rw [i_eq.mpr (show ((itP n m sl (c + 1) (num, mn)).1 j 0).toInt = u.toInt by omega)]
            · rw [es, if_neg d3]
              unfold jmax
              rw [if_neg (by rw [i_lt]; rw [i_le] at d3; omega)]
      · rw [if_neg c3, if_neg c3]
        exact ok_t rfl (ok_some ⟨rfl, Fr.rf⟩)
    · rw [if_neg c2, if_neg c2]
      exact ok_t rfl (ok_some ⟨rfl, Fr.rf⟩)
