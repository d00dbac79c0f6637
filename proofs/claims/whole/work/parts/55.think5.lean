/-! how one must look to go as told -/
def fndL (p : Nat → Prop) (v : Nat → Int32) : Nat → Nat → Int32 → Prop
  | 0, _, a => a = -2
  | r + 1, c, a => (p c ∧ a = v c) ∨ (¬ p c ∧ fndL p v r (c + 1) a)
theorem fndL_ex (p : Nat → Prop) (v : Nat → Int32) : ∀ r c, ∃ a, fndL p v r c a
  | 0, _ => ⟨_, rfl⟩
  | r + 1, c => by
    by_cases h : p c
    · exact ⟨v c, Or.inl ⟨h, rfl⟩⟩
    · obtain ⟨a, ha⟩ := fndL_ex p v r (c + 1)
      exact ⟨a, Or.inr ⟨h, ha⟩⟩
theorem fndL_un {p : Nat → Prop} {v : Nat → Int32} : ∀ {r c : Nat} {a b : Int32}, fndL p v r c a → fndL p v r c b → a = b
  | 0, _, _, _, h1, h2 => h1.trans h2.symm
  | r + 1, c, a, b, h1, h2 => by
    rcases h1 with ⟨p1, rfl⟩ | ⟨p1, h1⟩ <;> rcases h2 with ⟨p2, rfl⟩ | ⟨p2, h2⟩
    · rfl
    · exact absurd p1 p2
    · exact absurd p2 p1
    · exact fndL_un h1 h2
noncomputable def fndV (p : Nat → Prop) (v : Nat → Int32) (r c : Nat) : Int32 := Classical.choose (fndL_ex p v r c)
theorem fndV_s (p : Nat → Prop) (v : Nat → Int32) (r c : Nat) : fndL p v r c (fndV p v r c) := Classical.choose_spec (fndL_ex p v r c)
theorem setN_ne {num : Nat → Nat → Int32} {w q i k : Nat} {v : Int32} (h : ¬ (i = w ∧ k = q)) : setN num w q v i k = num i k := by unfold setN; rw [if_neg h]
theorem setN_eq {num : Nat → Nat → Int32} {w q : Nat} {v : Int32} : setN num w q v w q = v := by unfold setN; rw [if_pos ⟨rfl, rfl⟩]
theorem setN_gone {n w q : Nat} {num : Nat → Nat → Int32} {v : Int32} (hq : q ≠ 5) (h : goneOK n num) : goneOK n (setN num w q v) := fun i hi => by rw [setN_ne (by omega)]; exact h i hi
/-- in thought one number of one guest is another -/
theorem c_setIn {n m g k : Nat} {sl : Nat → Nat → Int32} {mn v : Int32} {num : Nat → Nat → Int32} {h : AH} (hg : g < n) (hk : k = 0 ∨ k = 1 ∨ k = 2) (C : CRep 19 h n m num sl mn) : CRep 19 (wI h (20 + k) g v) n m (setN num g k v) sl mn := by
  obtain ⟨a, b, cc, dd, ee⟩ := C
  refine ⟨?_, ?_, ?_, fun i hi => ?_, fun s hs => ?_⟩
  · rw [wI_rd, if_neg (by omega)]; exact a
  · rw [wI_rd, if_neg (by omega)]; exact b
  · rw [wI_rd, if_neg (by omega)]; exact cc
  · obtain ⟨d0, d1, d2, d3, d5⟩ := dd i hi
    have key : ∀ j (w : Int32), (j = 0 ∨ j = 1 ∨ j = 2 ∨ j = 3 ∨ j = 5) → h.1 (20 + j) i = num i j → (wI h (20 + k) g v).1 (20 + j) i = setN num g k v i j := by
      intro j w hj hh
      rw [wI_rd]
      unfold setN
      by_cases e : i = g ∧ j = k
      · rw [if_pos (by omega), if_pos e]
      · rw [if_neg (by omega), if_neg e]; exact hh
    exact ⟨key 0 0 (by omega) d0, key 1 0 (by omega) d1, key 2 0 (by omega) d2, key 3 0 (by omega) d3, key 5 0 (by omega) d5⟩
  · rw [wI_rd, if_neg (by omega), wI_rd, if_neg (by omega), wI_rd, if_neg (by omega)]
    exact ee s hs
theorem m_setIn {n m g k : Nat} {sl : Nat → Nat → Int32} {mn v : Int32} {num : Nat → Nat → Int32} {h : AH} (hn9 : n ≤ 9) (hg : g < n) (hk : k < 6) (hm : mOK h m) (M : MRep h n m num sl mn) : MRep (wI h 60 (6 * g + k) v) n m (setN num g k v) sl mn := by
  obtain ⟨a, b, c, d⟩ := M
  refine ⟨?_, fun i hi j hj => ?_, ?_, ?_⟩
  · rw [wI_rd, if_neg (by omega)]; exact a
  · rw [wI_rd]
    unfold setN
    by_cases e : i = g ∧ j = k
    · rw [if_pos (by omega), if_pos e]
    · rw [if_neg (by omega), if_neg e]; exact b i hi j hj
  · rw [wI_rd, if_neg (by omega)]; exact c
  · exact d.fr (by rw [wI_rd, if_neg (by omega)]) (by rw [wI_rd, if_neg (by omega)]) (by rw [wI_rd, if_neg (by omega)]) (by rw [wI_rd, if_neg (by omega)]) (fun k q1 q2 => by rw [wI_rd, if_neg (by omega)]) hm
theorem op_sorry (g w : Int32) : Sim (fX9_sorry g w) (fX10_sorry g w) := by
  have e0 : (0 : Int32).toInt = 0 := by decide
  have e8 : (8 : Int32).toInt = 8 := by decide
  have e9 : (9 : Int32).toInt = 9 := by decide
  refine sim_think (fun n m num sl mn Λ => if 0 ≤ g.toInt ∧ g.toInt < n then if 0 ≤ w.toInt ∧ w.toInt ≤ 8 then if num g.toInt.toNat 5 = 0 then fndV (fun v => ¬ w < nI (posG g.toInt.toNat (GL Λ n m sl (setN num g.toInt.toNat 2 (nI v), mn)))) nI 10 0 else -2 else -1 else -1) (fun n m B num sl mn Λ h T O => ?_) (fun n m B num sl mn Λ h T O => ?_)
  · unfold fX9_sorry
    rw [c_hasGuest T.c.1 T.n9, b2_some]
    by_cases c2 : 0 ≤ g.toInt ∧ g.toInt < n
    · rw [if_pos c2, if_pos c2]
      refine ok_f (by decide) ?_
      have hn9 := T.n9
      obtain ⟨eg, hg⟩ := nI_of_rg (a := 9) c2.1 (by omega) (by decide)
      obtain ⟨j, ej⟩ : ∃ j, j = g.toInt.toNat := ⟨_, rfl⟩
      rw [← ej] at eg hg ⊢
      have hj : j < n := by omega
      by_cases c3 : 0 ≤ w.toInt ∧ w.toInt ≤ 8
      · rw [if_pos c3]
        refine ok_f (by rw [i_lt, e0]; omega) (ok_t (by rw [i_lt, e9]; omega) ?_)
        rw [eg, c_isLeft (Or.inl rfl) hn9 T.c hj, b2_some]
        by_cases c4 : num j 5 = 0
        · rw [if_pos c4, if_pos c4]
          refine ok_f (by decide) ?_
          have haA := fndV_s (fun v => ¬ w < nI (posG j (GL Λ n m sl (setN num j 2 (nI v), mn)))) nI 10 0
          revert haA
          generalize fndV (fun v => ¬ w < nI (posG j (GL Λ n m sl (setN num j 2 (nI v), mn)))) nI 10 0 = aA
          intro haA
          refine L3 (f := fX9_sorry_39 (nI j) w) (b := fX9_sorry_39_b (nI j) w) (fun _ => rfl) (fun r x y z h' => ∃ c, c + r = 10 ∧ x = nI j ∧ y = w ∧ z = nI c ∧ fndL (fun v => ¬ w < nI (posG j (GL Λ n m sl (setN num j 2 (nI v), mn)))) nI r c aA ∧ Fr Scr h h') ?_ 10 FU (nI j) w 0 h (by unfold FU; omega) ⟨0, by omega, rfl, rfl, rfl, haA, Fr.rf⟩
          rintro r x y z h' ⟨c, hc, rfl, rfl, rfl, hA, F'⟩ Q hQ
          obtain ⟨T', O'⟩ := scr_t T O F'
          unfold fX9_sorry_39_b
          refine ok_if (fun d1 => ?_) (fun d1 => ?_)
          · rw [show (9 : Int32) = nI 9 from rfl, nI_ltI (by omega) (by omega)] at d1
            have r0 : r = 0 := by omega
            subst r0
            exact ok_some ⟨Eq.symm hA, F'⟩
          · rw [show (9 : Int32) = nI 9 from rfl, nI_ltI (by omega) (by omega)] at d1
            refine ok_bV (c_start (k := 0) hn9 T.m12 T.by (by omega) T'.c) (fun h1 hh => ?_)
            obtain ⟨C1, F1⟩ := hh
            have F1 : Fr Scr h h1 := F'.tr (F1.mono St_scr)
            refine ok_t (inb_nI (by omega) (by decide)) (ok_let ?_)
            rw [ix_nI (show j < 2 ^ 31 by omega)]
            have C2 : CRep 19 (wI h1 22 j (nI c)) n m (setN num j 2 (nI c)) sl mn := c_setIn (k := 2) hj (by omega) C1
            have F2 : Fr Scr h (wI h1 22 j (nI c)) := F1.w (by unfold Scr; omega)
            refine ok_bV (c_allGo (ov := 9) hn9 (by have := T.m12; omega) T.by (setN_gone (by decide) T.gone) O.ir C2 (O.cl.scr F2)) (fun h3 hh => ?_)
            obtain ⟨G3, F3⟩ := hh
            have F3 : Fr Scr h h3 := F2.tr (F3.mono St_scr)
            have G3 : GoA h3 (GL Λ n m sl (setN num j 2 (nI c), mn)) := G3
            have hl : (GL Λ n m sl (setN num j 2 (nI c), mn)).length ≤ 9 := by rw [GL_len]; show lftN (setN num j 2 (nI c)) n ≤ 9; have := lftN_le (setN num j 2 (nI c)) n; omega
            rw [c_place (by omega) hl (GL_b hn9) G3, b2_some, if_pos (GL_pos.mpr ⟨hj, by show setN num j 2 (nI c) j 5 = 0; rw [setN_ne (by omega)]; exact c4⟩), nI_1]
            obtain ⟨r, rfl⟩ : ∃ r', r = r' + 1 := ⟨r - 1, by omega⟩
            refine ok_if (fun d2 => ?_) (fun d2 => ?_)
            · refine hQ r _ _ _ _ (by omega) ⟨c + 1, by omega, rfl, rfl, rfl, ?_, F3⟩
              rcases hA with ⟨q, _⟩ | ⟨_, q⟩
              · exact absurd d2 q
              · exact q
            · refine ok_some ⟨?_, F3⟩
              rcases hA with ⟨_, q⟩ | ⟨q, _⟩
              · exact q.symm
              · exact absurd d2 q
        · rw [if_neg c4, if_neg c4]
          exact ok_t rfl (ok_some ⟨rfl, Fr.rf⟩)
      · rw [if_neg c3]
        refine ok_if (fun c4 => ok_some ⟨rfl, Fr.rf⟩) (fun c4 => ?_)
        rw [i_lt, e0] at c4
        exact ok_f (by rw [i_lt, e9]; omega) (ok_some ⟨rfl, Fr.rf⟩)
    · rw [if_neg c2, if_neg c2]
      exact ok_t rfl (ok_some ⟨rfl, Fr.rf⟩)
  · unfold fX10_sorry
    rw [m_isGuest T.m.1 T.n9, b2_some]
    by_cases c2 : 0 ≤ g.toInt ∧ g.toInt < n
    · rw [if_pos c2, if_pos c2]
      refine ok_f (by decide) ?_
      have hn9 := T.n9
      obtain ⟨eg, hg⟩ := nI_of_rg (a := 9) c2.1 (by omega) (by decide)
      obtain ⟨j, ej⟩ : ∃ j, j = g.toInt.toNat := ⟨_, rfl⟩
      rw [← ej] at eg hg ⊢
      have hj : j < n := by omega
      rw [m_isIn, b2_some, e0, e8]
      by_cases c3 : 0 ≤ w.toInt ∧ w.toInt ≤ 8
      · rw [if_pos c3, if_pos c3]
        refine ok_f (by decide) ?_
        rw [eg, m_number (K := 2) (k := 2) rfl (show j < 9 by omega) (by decide), b2_some, T.m.2.1 j hj 2 (by decide)]
        -- the end: looks are laid back
        have fin : ∀ (a : Int32) (h' : AH), Fr (fun o k => Scr o k ∨ (o = 60 ∧ k = 6 * j + 2)) h h' → Ok (fX10_sorry_94 (nI j) w (nI j) (num j 2) a h') (fun q => q.1 = a ∧ Fr Scr h q.2) := by
          intro a h' F'
          unfold fX10_sorry_94
          rw [m_change (K := 2) (k := 2) rfl (show j < 9 by omega) (by decide), bV_some]
          refine ok_some ⟨rfl, fun o k hs => ?_, F'.2⟩
          rw [wI_rd]
          by_cases e : o = 60 ∧ k = 6 * j + 2
          · rw [if_pos e, e.1, e.2]; exact (T.m.2.1 j hj 2 (by decide)).symm
          · rw [if_neg e]; exact F'.1 o k (fun q => q.elim hs e)
        by_cases c4 : num j 5 = 0
        · rw [if_pos c4]
          have haA := fndV_s (fun v => ¬ w < nI (posG j (GL Λ n m sl (setN num j 2 (nI v), mn)))) nI 10 0
          revert haA
          generalize fndV (fun v => ¬ w < nI (posG j (GL Λ n m sl (setN num j 2 (nI v), mn)))) nI 10 0 = aA
          intro haA
          refine L5 (f := fX10_sorry_34 (nI j) w) (b := fX10_sorry_34_b (nI j) w) (fun _ => rfl) (fun r x y z u v h' => x = nI j ∧ y = w ∧ z = num j 2 ∧ Fr (fun o k => Scr o k ∨ (o = 60 ∧ k = 6 * j + 2)) h h' ∧ (∃ v0 : Int32, MRep h' n m (setN num j 2 v0) sl mn) ∧ ∃ c, c + r = 11 ∧ v = nI c ∧ ((u = -2 ∧ c ≤ 10 ∧ fndL (fun v => ¬ w < nI (posG j (GL Λ n m sl (setN num j 2 (nI v), mn)))) nI (10 - c) c aA) ∨ (u = aA ∧ ¬ u = -2))) ?_ 11 FU (nI j) w (num j 2) (-2) 0 h (by unfold FU; omega) ⟨rfl, rfl, rfl, Fr.rf, ⟨num j 2, ?_⟩, 0, by omega, rfl, Or.inl ⟨rfl, by omega, haA⟩⟩
          · rintro r x y z u v h' ⟨rfl, rfl, rfl, F', ⟨v0, M'⟩, c, hc, rfl, hu⟩ Q hQ
            unfold fX10_sorry_34_b
            refine ok_if (fun d1 => ?_) (fun d1 => ?_)
            · rw [show (10 : Int32) = nI 10 from rfl, nI_leI (by omega) (by omega)] at d1
              refine ok_mono (fin u h' F') (fun q hq => ⟨hq.1.trans ?_, hq.2⟩)
              rcases hu with ⟨q1, q2, q3⟩ | ⟨q1, _⟩
              · have : 10 - c = 0 := by omega
                rw [this] at q3
                exact q1.trans (Eq.symm q3)
              · exact q1
            · rw [show (10 : Int32) = nI 10 from rfl, nI_leI (by omega) (by omega)] at d1
              rcases hu with ⟨q1, q2, q3⟩ | ⟨q1, q2⟩
              · refine ok_t q1 ?_
                have m5 : h'.1 60 (6 * j + 5) = 0 := by
                  rw [M'.2.1 j hj 5 (by decide), setN_ne (by omega)]; exact c4
                rw [m_isHere (by omega), b2_some, m5, if_pos rfl]
                refine ok_f (by decide) ?_
                rw [m_change (K := 2) (k := 2) rfl (show j < 9 by omega) (by decide), bV_some]
                have hm' : mOK h' m := Or.inl T.m12
                have M2 : MRep (wI h' 60 (6 * j + 2) (nI c)) n m (setN num j 2 (nI c)) sl mn := by
                  have := m_setIn (v := nI c) hn9 hj (show 2 < 6 by decide) hm' M'
                  have e : setN (setN num j 2 v0) j 2 (nI c) = setN num j 2 (nI c) := by
                    funext i k
                    unfold setN
                    by_cases e : i = j ∧ k = 2
                    · rw [if_pos e, if_pos e]
                    · rw [if_neg e, if_neg e, if_neg e]
                  rw [e] at this
                  exact this
                have F2 : Fr (fun o k => Scr o k ∨ (o = 60 ∧ k = 6 * j + 2)) h (wI h' 60 (6 * j + 2) (nI c)) := F'.w (Or.inr ⟨rfl, rfl⟩)
                have hL2 : ML (wI h' 60 (6 * j + 2) (nI c)) Λ := O.ml.fr F2 (fun o k q z => by unfold Scr at z; omega)
                refine ok_b2 (m_goAll (k := 0) (ov := -1) hn9 (Or.inl T.m12) (by omega) M2 hL2) (fun v3 h3 hv => ?_)
                obtain ⟨ev, G3, F3⟩ := hv
                have ev : v3 = nI (goS Λ n m sl (-1) n (setN num j 2 (nI c)) mn).length := ev
                rw [goS_m1 hn9] at ev
                have G3 : GoM h3 (goS Λ n m sl (-1) n (setN num j 2 (nI c)) mn) := G3
                rw [goS_m1 hn9] at G3
                have G3 : GoM h3 (GL Λ n m sl (setN num j 2 (nI c), mn)) := G3
                have F3 : Fr Sq (wI h' 60 (6 * j + 2) (nI c)) h3 := F3
                have F03 : Fr (fun o k => Scr o k ∨ (o = 60 ∧ k = 6 * j + 2)) h h3 := F2.tr (F3.mono (fun o k q => Or.inl (Sq_scr o k q)))
                have M3 : MRep h3 n m (setN num j 2 (nI c)) sl mn := M2.fr F3 (fun k q => by unfold Sq Sl Sg at q; omega) (fun q => by unfold Sq Sl Sg at q; omega) (fun q => by unfold Sq Sl Sg at q; omega) (fun q => by unfold Sq Sl Sg at q; omega) (fun q => by unfold Sq Sl Sg at q; omega) (fun q => by unfold Sq Sl Sg at q; omega)
                have hl : (GL Λ n m sl (setN num j 2 (nI c), mn)).length ≤ 9 := by rw [GL_len]; show lftN (setN num j 2 (nI c)) n ≤ 9; have := lftN_le (setN num j 2 (nI c)) n; omega
                have ev : v3 = nI (GL Λ n m sl (setN num j 2 (nI c), mn)).length := ev
                rw [ev, m_went (by omega) hl (GL_b hn9) G3, b2_some, if_pos (GL_pos.mpr ⟨hj, by show setN num j 2 (nI c) j 5 = 0; rw [setN_ne (by omega)]; exact c4⟩), nI_1]
                obtain ⟨t, et⟩ : ∃ t, 10 - c = t + 1 := ⟨10 - c - 1, by omega⟩
                rw [et] at q3
                refine ok_if (fun d2 => ?_) (fun d2 => ?_)
                · refine hQ (r - 1) _ _ _ _ _ _ (by omega) ⟨rfl, rfl, rfl, F03, ⟨_, M3⟩, c + 1, by omega, rfl, Or.inl ⟨rfl, by omega, ?_⟩⟩
                  rcases q3 with ⟨q, _⟩ | ⟨_, q⟩
                  · exact absurd d2 q
                  · rw [show 10 - (c + 1) = t by omega]; exact q
                · refine hQ (r - 1) _ _ _ _ _ _ (by omega) ⟨rfl, rfl, rfl, F03, ⟨_, M3⟩, c + 1, by omega, rfl, Or.inr ⟨?_, ?_⟩⟩
                  · rcases q3 with ⟨_, q⟩ | ⟨q, _⟩
                    · exact q.symm
                    · exact absurd d2 q
                  · rw [i_eq, nI_toInt (by omega)]
                    have : (-2 : Int32).toInt = -2 := by decide
                    omega
              · refine ok_f q2 (ok_mono (fin u h' F') (fun q hq => ⟨hq.1.trans q1, hq.2⟩))
          · have e : setN num j 2 (num j 2) = num := by
              funext i k
              unfold setN
              by_cases e : i = j ∧ k = 2
              · rw [if_pos e, e.1, e.2]
              · rw [if_neg e]
            rw [e]
            exact T.m
        · rw [if_neg c4]
          show Ok (fX10_sorry_34_b (nI j) w (fX10_sorry_34 (nI j) w 3999) (nI j) w (num j 2) (-2) 0 h) _
          unfold fX10_sorry_34_b
          refine ok_f (by decide) (ok_t rfl ?_)
          rw [m_isHere (by omega), b2_some, T.m.2.1 j hj 5 (by decide), if_neg c4]
          refine ok_t rfl (fin (-2) h Fr.rf)
      · rw [if_neg c3, if_neg c3]
        exact ok_t rfl (ok_some ⟨rfl, Fr.rf⟩)
    · rw [if_neg c2, if_neg c2]
      exact ok_t rfl (ok_some ⟨rfl, Fr.rf⟩)
