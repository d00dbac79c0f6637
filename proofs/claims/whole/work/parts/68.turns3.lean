theorem c_begin {i j : Nat} {E : Nat → Nat → Int} {h : AH} : Ok (fX8_begin (nI i) (nI j) h) (fun h' => Mem E i j h' ∧ Fr (fun o k => o = 30 ∨ o = 31) h h') := by
  unfold fX8_begin
  refine ok_let (ok_let ?_)
  refine L1 (f := fX8_begin_12 (nI i) (nI j)) (b := fX8_begin_12_b (nI i) (nI j)) (fun _ => rfl) (fun r x h' => ∃ c, c + r = 100 ∧ x = nI c ∧ h'.1 30 1 = nI i ∧ h'.1 30 2 = nI j ∧ (∀ k, k < c → h'.1 31 k = -2000000000) ∧ Fr (fun o k => o = 30 ∨ o = 31) h h') ?_ 100 FU 0 _ (by unfold FU; omega) ⟨0, by omega, rfl, by simp [wI_rd], by simp [wI_rd], fun k hk => by omega, (Fr.rf.w (Or.inl rfl)).w (Or.inl rfl)⟩
  rintro r x h' ⟨c, hc, rfl, h1, h2, h3, F'⟩ Q hQ
  unfold fX8_begin_12_b
  refine ok_if (fun d1 => ?_) (fun d1 => ?_)
  · rw [show (100 : Int32) = nI 100 from rfl, nI_leI (by omega) (by omega)] at d1
    exact ok_some ⟨⟨h1, h2, fun a b ha hb => Or.inl (h3 _ (by omega))⟩, F'⟩
  · rw [show (100 : Int32) = nI 100 from rfl, nI_leI (by omega) (by omega)] at d1
    refine ok_t (inb_nI (by omega) (by decide)) (ok_let ?_)
    rw [ix_nI (by omega), nI_1]
    refine hQ (r - 1) _ _ (by omega) ⟨c + 1, by omega, rfl, by rw [wI_rd, if_neg (by omega)]; exact h1, by rw [wI_rd, if_neg (by omega)]; exact h2, fun k hk => ?_, F'.w (Or.inr rfl)⟩
    rw [wI_rd]
    by_cases e : 31 = 31 ∧ k = c
    · rw [if_pos e]
    · rw [if_neg e]; exact h3 k (by omega)
theorem div_neg {p : Int32} (h : p.toInt < 0) : (p / 10).toInt = -((-p.toInt) / 10) := by
  have hne : (10 : Int32) ≠ -1 := by decide
  have eD : (10 : Int32).toInt = 10 := by decide
  rw [Int32.toInt_div_of_ne_right p 10 hne, eD]
  have e : p.toInt = -(-p.toInt) := by omega
  rw [e, Int.neg_tdiv, Int.tdiv_eq_ediv_of_nonneg (by omega)]
  omega
theorem rg2 {v : Int32} (h : rgK 2 v) : 0 ≤ v.toInt ∧ v.toInt ≤ 9 := by
  unfold rgK at h
  have e1 : (ST 200 2).toInt = 0 := by decide +kernel
  have e2 : (ST 201 2).toInt = 9 := by decide +kernel
  rw [e1, e2] at h
  exact h
def vI (x : Int) : Int32 := nI (x + 9).toNat - nI 9
theorem vI_eq {v : Int32} {x : Int} (h : v.toInt = x) (hx : -9 ≤ x ∧ x ≤ 9) : v = vI x := by
  unfold vI
  rw [i_eq, pk_sub_toInt (by omega) (by decide)]
  omega
abbrev okG (p : Int32) (n : Nat) : Prop := 0 ≤ p.toInt ∧ p.toInt.toNat / 10 < n ∧ p.toInt.toNat % 10 < n ∧ p.toInt.toNat / 10 ≠ p.toInt.toNat % 10
abbrev okT (p t w : Int32) (n : Nat) (num : Nat → Nat → Int32) : Prop := okG p n ∧ num (p.toInt.toNat / 10) 5 = 0 ∧ num (p.toInt.toNat % 10) 5 = 0 ∧ (1 ≤ t.toInt ∧ t.toInt ≤ 5) ∧ 0 ≤ w.toInt ∧ w.toInt ≤ 1
def btA (Λ : LawF) (n m : Nat) (sl num : Nat → Nat → Int32) (mn : Int32) (i j t : Nat) (w : Int32) : Int32 := if w = 0 then vI (mmI (EdV Λ n m sl num mn i j) t true (num i 2).toInt.toNat (num j 2).toInt.toNat) else nI (pmx (tv (EdV Λ n m sl num mn i j) (t - 1) true (num i 2).toInt.toNat (num j 2).toInt.toNat) true 3).2
theorem c_byT {n m B i j t : Nat} {num sl : Nat → Nat → Int32} {mn P0 P1 w : Int32} {Λ : LawF} {h : AH} (T : TI h n m num sl mn) (O : Oth h n m B Λ) (hi : i < n) (hj : j < n) (hij : i ≠ j) (hi5 : num i 5 = 0) (hj5 : num j 5 = 0) (ht : 1 ≤ t ∧ t ≤ 5) : Ok (bindV (fX8_begin (nI i) (nI j) h) fun h21_ => if inb (nI i) 9 = true then if inb (nI j) 9 = true then bind2 (RGB 8 0 [(h21_.1 4 (ix (nI i))), (h21_.1 4 (ix (nI j))), (nI t - 1), 0] h21_) fun r25_ h26_ => fX9_byTurns_113 P0 P1 w FU (nI t) w (nI i) (nI j) 2 r25_ 0 h26_ else none else none) (fun q => q.1 = btA Λ n m sl num mn i j t w ∧ Fr Scr h q.2) := by
  have hn9 := T.n9
  obtain ⟨E, eE⟩ : ∃ E, E = EdV Λ n m sl num mn i j := ⟨_, rfl⟩
  have hE : ∀ a b, -9 ≤ E a b ∧ E a b ≤ 9 := by rw [eE]; exact EdV_rg hn9
  obtain ⟨a, ea⟩ : ∃ a, a = (num i 2).toInt.toNat := ⟨_, rfl⟩
  obtain ⟨b, eb⟩ : ∃ b, b = (num j 2).toInt.toNat := ⟨_, rfl⟩
  have ga := rg2 (T.1.2.2.1 i hi 2 (by decide))
  have gb := rg2 (T.1.2.2.1 j hj 2 (by decide))
  have na : num i 2 = nI a := by rw [ea]; exact (nI_of_rg (a := 9) ga.1 ga.2 (by decide)).1
  have nb : num j 2 = nI b := by rw [eb]; exact (nI_of_rg (a := 9) gb.1 gb.2 (by decide)).1
  have ha : a ≤ 9 := by omega
  have hb : b ≤ 9 := by omega
  unfold btA
  rw [← ea, ← eb, ← eE]
  refine ok_bV (c_begin (E := E)) (fun h1 hh => ?_)
  obtain ⟨M1, F1⟩ := hh
  have F1 : Fr Scr h h1 := F1.mono (fun o k q => by unfold Scr; omega)
  obtain ⟨T1, O1⟩ := scr_t T O F1
  refine ok_t (inb_nI (by omega) (by decide)) (ok_t (inb_nI (by omega) (by decide)) ?_)
  have l1 : ∀ h2, Fr Scr h h2 → h2.1 4 i = nI a ∧ h2.1 4 j = nI b := by
    intro h2 F2
    obtain ⟨T2, O2⟩ := scr_t T O F2
    exact ⟨(T2.c.2.2.2.1 i hi).2.2.1.trans na, (T2.c.2.2.2.1 j hj).2.2.1.trans nb⟩
  have ei : ix (nI i) = i := ix_nI (by omega)
  have ej : ix (nI j) = j := ix_nI (by omega)
  obtain ⟨d, rfl⟩ : ∃ d, t = d + 1 := ⟨t - 1, by omega⟩
  have ed : nI (d + 1) - 1 = nI d := by rw [← nI_m1 (show d + 1 < 2 ^ 30 by omega), Int32.sub_eq_add_neg]
  rw [ei, ej, (l1 h1 F1).1, (l1 h1 F1).2, ed]
  have cb := c_best T O hi hj hij hi5 hj5 d 8 false
  rw [← eE] at cb
  refine ok_b2 (cb a b h1 (by omega) (by omega) ha hb F1 M1) (fun v h2 hh => ?_)
  obtain ⟨ev, M2, F2⟩ := hh
  have ev : v.toInt = mmI E d false a b := ev
  show Ok _ (fun q : Int32 × AH => q.1 = (if w = 0 then vI (mmI E (d + 1) true a b) else nI (pmx (tv E d true a b) true 3).2) ∧ Fr Scr h q.2)
  have p0 : (pmx (tv E d true a b) true 0).1 = -2147483648 := rfl
  have t0 : tv E d true a b 0 = mmI E d false a b := rfl
  have p1 : pmx (tv E d true a b) true 1 = (mmI E d false a b, 2) := by
    have := mm_rg hE d false a b
    rw [pmx_t, p0, t0, if_neg (by omega)]
    rfl
  refine L7 (f := fX9_byTurns_113 P0 P1 w) (b := fX9_byTurns_113_b P0 P1 w) (fun _ => rfl) (fun r x2 x3 x4 x5 x6 x7 x8 h' => ∃ c, c + r = 2 ∧ x2 = nI (d + 1) ∧ x3 = w ∧ x4 = nI i ∧ x5 = nI j ∧ x6 = nI (pmx (tv E d true a b) true (c + 1)).2 ∧ x7.toInt = (pmx (tv E d true a b) true (c + 1)).1 ∧ x8 = nI c ∧ Mem E i j h' ∧ Fr Scr h h') ?_ 2 FU (nI (d + 1)) w (nI i) (nI j) 2 v 0 h2 (by unfold FU; omega) ⟨0, by omega, rfl, rfl, rfl, rfl, by rw [p1]; rfl, by rw [p1]; exact ev, rfl, M2, F2⟩
  rintro r x2 x3 x4 x5 x6 x7 x8 h' ⟨c, hc, rfl, rfl, rfl, rfl, rfl, h7, rfl, M', F'⟩ Q hQ
  unfold fX9_byTurns_113_b
  refine ok_if (fun d1 => ?_) (fun d1 => ?_)
  · rw [show (2 : Int32) = nI 2 from rfl, nI_leI (by omega) (by omega)] at d1
    have e : c = 2 := by omega
    subst e
    have h7 : x7.toInt = (pmx (tv E d true a b) true 3).1 := h7
    rw [pmx_mm hE] at h7
    by_cases w0 : x3 = 0
    · rw [if_pos w0, if_pos w0]
      exact ok_some ⟨vI_eq h7 (mm_rg hE _ _ _ _), F'⟩
    · rw [if_neg w0, if_neg w0]
      exact ok_some ⟨rfl, F'⟩
  · rw [show (2 : Int32) = nI 2 from rfl, nI_leI (by omega) (by omega)] at d1
    refine ok_t (inb_nI (by omega) (by decide)) ?_
    rw [ei, (l1 h' F').1, c_after ha (by omega), b2_some]
    refine ok_t (inb_nI (by omega) (by decide)) ?_
    rw [ej, (l1 h' F').2, ed]
    refine ok_b2 (cb (aft a c) b h' (by omega) (by omega) (aft_le ha) hb F' M') (fun v2 h3 hh => ?_)
    obtain ⟨ev2, M3, F3⟩ := hh
    have ev2 : v2.toInt = mmI E d false (aft a c) b := ev2
    have tc : tv E d true a b (c + 1) = mmI E d false (aft a c) b := rfl
    rw [nI_1]
    refine ok_if (fun q => ?_) (fun q => ?_)
    · rw [i_le, ev2, h7, ← tc] at q
      have e := pmx_t (v := tv E d true a b) (c := c + 1)
      rw [if_pos q] at e
      exact hQ (r - 1) _ _ _ _ _ _ _ _ (by omega) ⟨c + 1, by omega, rfl, rfl, rfl, rfl, by rw [e], by rw [e]; exact h7, rfl, M3, F3⟩
    · rw [i_le, ev2, h7, ← tc] at q
      have e := pmx_t (v := tv E d true a b) (c := c + 1)
      rw [if_neg q] at e
      exact hQ (r - 1) _ _ _ _ _ _ _ _ (by omega) ⟨c + 1, by omega, rfl, rfl, rfl, rfl, by rw [e]; rfl, by rw [e, ← tc] at *; exact ev2, rfl, M3, F3⟩
theorem m_byT {n m B i j t : Nat} {num sl : Nat → Nat → Int32} {mn w : Int32} {Λ : LawF} {h : AH} (T : TI h n m num sl mn) (O : Oth h n m B Λ) (hi : i < n) (hj : j < n) (hij : i ≠ j) (hi5 : num i 5 = 0) (hj5 : num j 5 = 0) (ht : 1 ≤ t ∧ t ≤ 5) : Ok (bind2 (RGT 8 0 [nI i, nI j, 0, nI t] h) fun r27_ h28_ => if w = 0 then some (r27_, h28_) else some ((h28_.1 59 34), h28_)) (fun q => q.1 = btA Λ n m sl num mn i j t w ∧ Fr Scr h q.2) := by
  have hn9 := T.n9
  obtain ⟨a, ea⟩ : ∃ a, a = (num i 2).toInt.toNat := ⟨_, rfl⟩
  obtain ⟨b, eb⟩ : ∃ b, b = (num j 2).toInt.toNat := ⟨_, rfl⟩
  have ga := rg2 (T.1.2.2.1 i hi 2 (by decide))
  have gb := rg2 (T.1.2.2.1 j hj 2 (by decide))
  have na : num i 2 = nI a := by rw [ea]; exact (nI_of_rg (a := 9) ga.1 ga.2 (by decide)).1
  have nb : num j 2 = nI b := by rw [eb]; exact (nI_of_rg (a := 9) gb.1 gb.2 (by decide)).1
  have ec : cfg num i j a b = num := by
    unfold cfg
    rw [← na, setN_self, ← nb, setN_self]
  unfold btA
  rw [← ea, ← eb]
  have mt := m_turns (p := t) T O hi hj hij hi5 hj5 (by omega) t 8 0 a b h (by omega) (by omega) (by omega) (by omega) Fr.rf (by rw [ec]; exact T.m)
  rw [ec] at mt
  refine ok_b2 mt (fun v h2 hh => ?_)
  obtain ⟨ev, M2, F2, k2⟩ := hh
  have ev : v.toInt = mmI (EdV Λ n m sl num mn i j) t true a b := ev
  have M2 : MRep h2 n m num sl mn := M2
  have F2 : Fr (TS i j) h h2 := F2
  have F3 : Fr Scr h h2 := ⟨fun o k hs => by
    by_cases e : o = 60 ∧ (k = 6 * i + 2 ∨ k = 6 * j + 2)
    · obtain ⟨e1, e2⟩ := e
      rw [e1]
      rcases e2 with e2 | e2
      · rw [e2, M2.2.1 i hi 2 (by decide), T.m.2.1 i hi 2 (by decide)]
      · rw [e2, M2.2.1 j hj 2 (by decide), T.m.2.1 j hj 2 (by decide)]
    · exact F2.1 o k (fun z => z.elim hs e), F2.2⟩
  by_cases w0 : w = 0
  · rw [if_pos w0, if_pos w0]
    exact ok_some ⟨vI_eq ev (mm_rg (EdV_rg hn9) _ _ _ _), F3⟩
  · rw [if_neg w0, if_neg w0]
    refine ok_some ⟨?_, F3⟩
    exact k2 (t - 1) (by omega)
theorem op_byTurns (p t w : Int32) : Sim (fX9_byTurns p t w) (fX10_byTurns p t w) := by
  have e0 : (0 : Int32).toInt = 0 := by decide
  have e1 : (1 : Int32).toInt = 1 := by decide
  have e5 : (5 : Int32).toInt = 5 := by decide
  have hdv := div_toInt (p := p) (D := 10) (d := 10) rfl (by decide) (by decide)
  refine sim_think (fun n m num sl mn Λ => if okT p t w n num then btA Λ n m sl num mn (p.toInt.toNat / 10) (p.toInt.toNat % 10) t.toInt.toNat w else -2000000000) (fun n m B num sl mn Λ h T O => ?_) (fun n m B num sl mn Λ h T O => ?_)
  · have hn9 := T.n9
    unfold fX9_byTurns
    refine ok_let (ok_let ?_)
    by_cases p0 : 0 ≤ p.toInt ∧ p.toInt.toNat / 10 < n
    · obtain ⟨p0, p1⟩ := p0
      obtain ⟨q, eq⟩ : ∃ q, q = p.toInt.toNat := ⟨_, rfl⟩
      have hq : q < 100 := by omega
      have ep : p = nI q := i_eq.mpr (by rw [nI_toInt (by omega)]; omega)
      have d1 : p / 10 = nI (q / 10) := by rw [ep]; exact div_nI rfl (by decide) (by decide) (by omega)
      have d2 : jrem p 10 = nI (q % 10) := by rw [ep]; exact rem_nI rfl (by decide) (by decide) (by omega)
      have hi : q / 10 < n := by omega
      rw [d1, d2, c_isLeft (Or.inl rfl) hn9 T.c hi, b2_some]
      by_cases c1 : num (q / 10) 5 = 0
      · rw [if_pos c1]
        refine ok_f (by decide) ?_
        by_cases hj : q % 10 < n
        · rw [c_isLeft (Or.inl rfl) hn9 T.c hj, b2_some]
          by_cases c2 : num (q % 10) 5 = 0
          · rw [if_pos c2]
            refine ok_f (by decide) ?_
            by_cases c3 : q / 10 = q % 10
            · refine ok_t (by rw [c3]) ?_
              rw [if_neg (show ¬ okT p t w n num from fun z => by have := z.1; unfold okG at this; omega)]
              exact ok_some ⟨rfl, Fr.rf⟩
            · refine ok_f (fun z => c3 (nI_inj (by omega) (by omega) z)) ?_
              by_cases c4 : 1 ≤ t.toInt ∧ t.toInt ≤ 5
              · refine ok_f (by rw [i_lt, e1]; omega) (ok_f (by rw [i_lt, e5]; omega) ?_)
                rw [c_choice, b2_some]
                by_cases c5 : 0 ≤ w.toInt ∧ w.toInt ≤ 1
                · rw [if_pos c5]
                  refine ok_f (by decide) ?_
                  rw [if_pos (show okT p t w n num from ⟨⟨p0, by omega, by omega, by omega⟩, by rw [← eq]; exact c1, by rw [← eq]; exact c2, c4, c5⟩), ← eq]
                  obtain ⟨et, ht⟩ := nI_of_rg (p := t) (a := 5) (by omega) (by omega) (by decide)
                  have := c_byT (P0 := p) (P1 := t) (w := w) T O hi hj c3 c1 c2 (t := t.toInt.toNat) (by omega)
                  rw [← et] at this
                  exact this
                · rw [if_neg c5, if_neg (show ¬ okT p t w n num from fun z => c5 z.2.2.2.2)]
                  exact ok_t rfl (ok_some ⟨rfl, Fr.rf⟩)
              · rw [if_neg (show ¬ okT p t w n num from fun z => c4 z.2.2.2.1)]
                refine ok_if (fun _ => ok_some ⟨rfl, Fr.rf⟩) (fun c5 => ok_t ?_ (ok_some ⟨rfl, Fr.rf⟩))
                rw [i_lt, e1] at c5
                rw [i_lt, e5]
                omega
          · rw [if_neg c2, if_neg (show ¬ okT p t w n num from fun z => c2 (by rw [eq]; exact z.2.2.1))]
            exact ok_t rfl (ok_some ⟨rfl, Fr.rf⟩)
        · rw [c_isLeftN T.c.1 hn9 (by rw [nI_toInt (by omega)]; omega), b2_some, if_neg (show ¬ okT p t w n num from fun z => by have := z.1; unfold okG at this; omega)]
          exact ok_t rfl (ok_some ⟨rfl, Fr.rf⟩)
      · rw [if_neg c1, if_neg (show ¬ okT p t w n num from fun z => c1 (by rw [eq]; exact z.2.1))]
        exact ok_t rfl (ok_some ⟨rfl, Fr.rf⟩)
    · rw [if_neg (show ¬ okT p t w n num from fun z => p0 ⟨z.1.1, z.1.2.1⟩)]
      by_cases c0 : 0 ≤ (p / 10).toInt ∧ (p / 10).toInt < n
      · -- then p is from -9 to -1
        have pn : p.toInt < 0 := by
          apply Classical.byContradiction
          intro z
          have := hdv.1 (by omega)
          omega
        have dv := div_neg pn
        have dz : p / 10 = 0 := i_eq.mpr (by rw [e0]; omega)
        have jz : jrem p 10 = p := by
          unfold jrem
          rw [dz]
          simp
        have hi : 0 < n := by omega
        rw [dz, jz, show (0 : Int32) = nI 0 from rfl, c_isLeft (Or.inl rfl) hn9 T.c hi, b2_some]
        by_cases c1 : num 0 5 = 0
        · rw [if_pos c1]
          refine ok_f (by decide) ?_
          rw [c_isLeftN T.c.1 hn9 (by omega), b2_some]
          exact ok_t rfl (ok_some ⟨rfl, Fr.rf⟩)
        · rw [if_neg c1]
          exact ok_t rfl (ok_some ⟨rfl, Fr.rf⟩)
      · rw [c_isLeftN T.c.1 hn9 c0, b2_some]
        exact ok_t rfl (ok_some ⟨rfl, Fr.rf⟩)
  · have hn9 := T.n9
    unfold fX10_byTurns
    refine ok_if (fun c0 => ?_) (fun c0 => ?_)
    · rw [i_lt, e0] at c0
      rw [if_neg (show ¬ okT p t w n num from fun z => by have := z.1.1; omega)]
      exact ok_some ⟨rfl, Fr.rf⟩
    · rw [i_lt, e0] at c0
      have p0 : 0 ≤ p.toInt := by omega
      have hd := hdv.1 p0
      obtain ⟨q, eq⟩ : ∃ q, q = p.toInt.toNat := ⟨_, rfl⟩
      rw [m_isGuest T.m.1 hn9, b2_some]
      by_cases c1 : 0 ≤ (p / 10).toInt ∧ (p / 10).toInt < n
      · rw [if_pos c1]
        refine ok_f (by decide) ?_
        have hq : q < 100 := by omega
        have ep : p = nI q := i_eq.mpr (by rw [nI_toInt (by omega)]; omega)
        have d1 : p / 10 = nI (q / 10) := by rw [ep]; exact div_nI rfl (by decide) (by decide) (by omega)
        have d2 : jrem p 10 = nI (q % 10) := by rw [ep]; exact rem_nI rfl (by decide) (by decide) (by omega)
        have hi : q / 10 < n := by omega
        rw [d1, d2, m_isGuest T.m.1 hn9, b2_some, nI_toInt (by omega)]
        by_cases c2 : 0 ≤ ((q % 10 : Nat) : Int) ∧ ((q % 10 : Nat) : Int) < n
        · rw [if_pos c2]
          refine ok_f (by decide) ?_
          have hj : q % 10 < n := by omega
          by_cases c3 : q / 10 = q % 10
          · refine ok_t (by rw [c3]) ?_
            rw [if_neg (show ¬ okT p t w n num from fun z => by have := z.1; unfold okG at this; omega)]
            exact ok_some ⟨rfl, Fr.rf⟩
          · refine ok_f (fun z => c3 (nI_inj (by omega) (by omega) z)) ?_
            rw [m_isHere (by omega), b2_some, T.m.2.1 _ hi 5 (by decide)]
            by_cases c4 : num (q / 10) 5 = 0
            · rw [if_pos c4]
              refine ok_f (by decide) ?_
              rw [m_isHere (by omega), b2_some, T.m.2.1 _ hj 5 (by decide)]
              by_cases c5 : num (q % 10) 5 = 0
              · rw [if_pos c5]
                refine ok_f (by decide) ?_
                rw [m_isIn, b2_some, e1, e5]
                by_cases c6 : 1 ≤ t.toInt ∧ t.toInt ≤ 5
                · rw [if_pos c6]
                  refine ok_f (by decide) ?_
                  rw [m_isIn, b2_some, e0, e1]
                  by_cases c7 : 0 ≤ w.toInt ∧ w.toInt ≤ 1
                  · rw [if_pos c7]
                    refine ok_f (by decide) ?_
                    rw [if_pos (show okT p t w n num from ⟨⟨p0, by omega, by omega, by omega⟩, by rw [← eq]; exact c4, by rw [← eq]; exact c5, c6, c7⟩), ← eq]
                    obtain ⟨et, ht⟩ := nI_of_rg (p := t) (a := 5) (by omega) (by omega) (by decide)
                    have := m_byT (w := w) T O hi hj c3 c4 c5 (t := t.toInt.toNat) (by omega)
                    rw [← et] at this
                    exact this
                  · rw [if_neg c7, if_neg (show ¬ okT p t w n num from fun z => c7 z.2.2.2.2)]
                    exact ok_t rfl (ok_some ⟨rfl, Fr.rf⟩)
                · rw [if_neg c6, if_neg (show ¬ okT p t w n num from fun z => c6 z.2.2.2.1)]
                  exact ok_t rfl (ok_some ⟨rfl, Fr.rf⟩)
              · rw [if_neg c5, if_neg (show ¬ okT p t w n num from fun z => c5 (by rw [eq]; exact z.2.2.1))]
                exact ok_t rfl (ok_some ⟨rfl, Fr.rf⟩)
            · rw [if_neg c4, if_neg (show ¬ okT p t w n num from fun z => c4 (by rw [eq]; exact z.2.1))]
              exact ok_t rfl (ok_some ⟨rfl, Fr.rf⟩)
        · rw [if_neg c2, if_neg (show ¬ okT p t w n num from fun z => by have := z.1; unfold okG at this; omega)]
          exact ok_t rfl (ok_some ⟨rfl, Fr.rf⟩)
      · rw [if_neg c1, if_neg (show ¬ okT p t w n num from fun z => by have := z.1; unfold okG at this; omega)]
        exact ok_t rfl (ok_some ⟨rfl, Fr.rf⟩)
