theorem drop_getD {L : List Nat} {a : Nat} (h : a < L.length) : L.drop a = L.getD a 0 :: L.drop (a + 1) := by
  rw [List.drop_eq_getElem_cons h, List.getD_eq_getElem?_getD, List.getElem?_eq_getElem h]
  rfl
theorem m_upside {n m B : Nat} {num sl : Nat → Nat → Int32} {mn w : Int32} {Λ : LawF} {h h1 : AH} (T : TI h n m num sl mn) (O : Oth h n m B Λ) (F1 : Fr Sl h h1) (hO : OrdA h1 (ordL (rd Λ n num mn) num n)) (hr : ∀ i, i < n → h1.1 73 i = rd Λ n num mn i) : Ok (fX10_upside_21 w FU w (nI (lftN num n)) 0 0 h1) (fun q => q.1 = nI (prs (if w = 0 then uU num else uT (rd Λ n num mn)) (ordL (rd Λ n num mn) num n)) ∧ Fr Scr h q.2) := by
  have hn9 := T.n9
  have hl := lftN_le num n
  have z0 : ∀ v : Int32, v + 0 = v := fun v => by simp
  have F1' : Fr Scr h h1 := F1.mono (fun o k q => Sq_scr o k (Or.inl q))
  have hlen := ordL_len (rd Λ n num mn) num n
  have hmem : ∀ k, k < (ordL (rd Λ n num mn) num n).length → (ordL (rd Λ n num mn) num n).getD k 0 < n := fun k hk => ((ordL_mem _ num n _).mp (getD_mem hk)).1
  revert hO hr hlen hmem
  generalize ordL (rd Λ n num mn) num n = L
  generalize rd Λ n num mn = f
  intro hO hr hlen hmem
  obtain ⟨u, eu⟩ : ∃ u, u = (if w = 0 then uU num else uT f) := ⟨_, rfl⟩
  rw [← eu]
  obtain ⟨T1, O1⟩ := scr_t T O F1'
  refine L4 (f := fX10_upside_21 w) (b := fX10_upside_21_b w) (fun _ => rfl) (fun r x y z v h' => ∃ a e, a + r = L.length ∧ x = w ∧ y = nI L.length ∧ z = nI e ∧ e + prs u (L.drop a) = prs u L ∧ v = nI a ∧ h' = h1) ?_ L.length FU w (nI (lftN num n)) 0 0 h1 (by unfold FU; omega) ⟨0, 0, by omega, rfl, by rw [hlen], rfl, by rw [List.drop_zero]; omega, rfl, rfl⟩
  rintro r x y z v h' ⟨a, e, ha, rfl, rfl, rfl, he, rfl, rfl⟩ Q hQ
  unfold fX10_upside_21_b
  refine ok_if (fun d1 => ?_) (fun d1 => ?_)
  · rw [nI_leI (by omega) (by omega)] at d1
    rw [List.drop_eq_nil_of_le d1] at he
    have he : e + 0 = prs u L := he
    exact ok_some ⟨by show nI e = _; rw [← he]; rfl, F1'⟩
  · rw [nI_leI (by omega) (by omega)] at d1
    have haL : a < L.length := by omega
    refine ok_let ?_
    rw [nI_1]
    rw [drop_getD haL] at he
    have he : e + ((L.drop (a + 1)).countP (u (L.getD a 0)) + prs u (L.drop (a + 1))) = prs u L := he
    refine L5 (f := fX10_upside_33 x Q) (b := fX10_upside_33_b x Q) (fun _ => rfl) (fun r2 x1 x2 x3 x4 x5 h2 => ∃ b e2, b + r2 = L.length ∧ x1 = x ∧ x2 = nI L.length ∧ x3 = nI e2 ∧ e2 + ((L.drop b).countP (u (L.getD a 0)) + prs u (L.drop (a + 1))) = prs u L ∧ x4 = nI a ∧ x5 = nI b ∧ h2 = h') ?_ (L.length - (a + 1)) FU x (nI L.length) (nI e) (nI a) (nI (a + 1)) h' (by unfold FU; omega) ⟨a + 1, e, by omega, rfl, rfl, rfl, he, rfl, rfl, rfl⟩
    rintro r2 x1 x2 x3 x4 x5 h2 ⟨b, e2, hb, rfl, rfl, rfl, he2, rfl, rfl, rfl⟩ Q2 hQ2
    unfold fX10_upside_33_b
    refine ok_if (fun d2 => ?_) (fun d2 => ?_)
    · rw [nI_leI (by omega) (by omega)] at d2
      rw [List.drop_eq_nil_of_le d2] at he2
      have he2 : e2 + (0 + prs u (L.drop (a + 1))) = prs u L := he2
      rw [nI_1]
      exact hQ (r - 1) _ _ _ _ _ (by omega) ⟨a + 1, e2, by omega, rfl, rfl, rfl, by omega, rfl, rfl⟩
    · rw [nI_leI (by omega) (by omega)] at d2
      have hbL : b < L.length := by omega
      rw [drop_getD hbL, List.countP_cons] at he2
      have fin : ∀ s : Int32, (s = 0 → u (L.getD a 0) (L.getD b 0) = false) → (¬ s = 0 → u (L.getD a 0) (L.getD b 0) = true) → Ok (fX10_upside_110 x1 Q Q2 x1 (nI L.length) (nI e2) (nI a) (nI b) s h2) (fun q => q.1 = nI (prs u L) ∧ Fr Scr h q.2) := by
        intro s hs1 hs2
        unfold fX10_upside_110
        rw [nI_1, nI_1]
        refine ok_if (fun k => ok_let ?_) (fun k => ok_let ?_)
        · rw [z0]
          refine hQ2 (r2 - 1) _ _ _ _ _ _ (by omega) ⟨b + 1, e2, by omega, rfl, rfl, rfl, ?_, rfl, rfl, rfl⟩
          rw [hs1 k, if_neg (by decide)] at he2
          omega
        · refine hQ2 (r2 - 1) _ _ _ _ _ _ (by omega) ⟨b + 1, e2 + 1, by omega, rfl, rfl, rfl, ?_, rfl, rfl, rfl⟩
          rw [hs2 k, if_pos rfl] at he2
          omega
      have ea : ix (nI a) = a := ix_nI (by omega)
      have eb : ix (nI b) = b := ix_nI (by omega)
      have ma := hmem a haL
      have mb := hmem b hbL
      by_cases w0 : x1 = 0
      · refine ok_t w0 (ok_t (inb_nI (by omega) (by decide)) ?_)
        rw [eb, hO b hbL, m_number (K := 0) (k := 0) rfl (by omega) (by decide), b2_some]
        refine ok_t (inb_nI (by omega) (by decide)) ?_
        rw [ea, hO a haL, m_number (K := 0) (k := 0) rfl (by omega) (by decide), b2_some, T1.m.2.1 _ ma 0 (by decide), T1.m.2.1 _ mb 0 (by decide)]
        rw [if_pos w0] at eu
        refine ok_if (fun k => fin 0 (fun _ => ?_) (fun z => absurd rfl z)) (fun k => fin 1 (fun z => absurd z (by decide)) (fun _ => ?_))
        · rw [i_le] at k
          rw [eu]
          exact decide_eq_false (by omega)
        · rw [i_le] at k
          rw [eu]
          exact decide_eq_true (by omega)
      · refine ok_f w0 (ok_t (inb_nI (by omega) (by decide)) ?_)
        rw [ea, eb, hO a haL, hO b hbL]
        refine ok_t (inb_nI (by omega) (by decide)) (ok_t (inb_nI (by omega) (by decide)) (ok_t (inb_nI (by omega) (by decide)) ?_))
        rw [ix_nI (by omega), ix_nI (by omega), hr _ ma, hr _ mb]
        rw [if_neg w0] at eu
        refine ok_if (fun k => fin 1 (fun z => absurd z (by decide)) (fun _ => ?_)) (fun k => fin 0 (fun _ => ?_) (fun z => absurd rfl z))
        · rw [eu]
          exact decide_eq_true k
        · rw [eu]
          exact decide_eq_false k
theorem op_upside (w : Int32) : Sim (fX9_upside w) (fX10_upside w) := by
  have e0 : (0 : Int32).toInt = 0 := by decide
  have e1 : (1 : Int32).toInt = 1 := by decide
  refine sim_think (fun n m num sl mn Λ => if 0 ≤ w.toInt ∧ w.toInt ≤ 1 then nI (prs (if w = 0 then uU num else uT (rd Λ n num mn)) (ordL (rd Λ n num mn) num n)) else -1) (fun n m B num sl mn Λ h T O => ?_) (fun n m B num sl mn Λ h T O => ?_)
  · unfold fX9_upside
    rw [c_choice, b2_some]
    by_cases c3 : 0 ≤ w.toInt ∧ w.toInt ≤ 1
    · rw [if_pos c3, if_pos c3]
      refine ok_f (by decide) (ok_mono (c_upside T O) (fun q hq => ⟨hq.1.trans ?_, hq.2⟩))
      by_cases w0 : w = 0
      · rw [if_pos w0, if_pos w0, prs_ord]
      · rw [if_neg w0, if_neg w0, prs_ord]
    · rw [if_neg c3, if_neg c3]
      exact ok_t rfl (ok_some ⟨rfl, Fr.rf⟩)
  · unfold fX10_upside
    rw [m_isIn, b2_some, e0, e1]
    by_cases c3 : 0 ≤ w.toInt ∧ w.toInt ≤ 1
    · rw [if_pos c3, if_pos c3]
      refine ok_f (by decide) (ok_b2 (m_lay T.n9 T.m O.ml) (fun v h2 hv => ?_))
      obtain ⟨ev, hO, hr, F⟩ := hv
      have ev : v = nI (lftN num n) := ev
      rw [ev]
      exact m_upside T O F hO hr
    · rw [if_neg c3, if_neg c3]
      exact ok_t rfl (ok_some ⟨rfl, Fr.rf⟩)
