def St (o k : Nat) : Prop := Sr o k ∨ o = 18 ∨ (19 ≤ o ∧ o ≤ 29)
theorem sumR_app : ∀ (l : List (Nat × Int32)) (x : Nat × Int32) (a : Int32), sumR (l ++ [x]) a = sumR l a + x.2
  | [], x, a => rfl
  | y :: l, x, a => sumR_app l x (a + y.2)
def GoA (h : AH) (g : List (Nat × Int32)) : Prop := h.1 18 4 = nI g.length ∧ (∀ k, k < g.length → h.1 29 k = nI (g.getD k (0, 0)).1) ∧ h.1 18 5 = sumR g 0
theorem app_getD {g : List (Nat × Int32)} {x : Nat × Int32} {k : Nat} : (g ++ [x]).getD k (0, 0) = if k < g.length then g.getD k (0, 0) else if k = g.length then x else (0, 0) := by
  rw [List.getD_eq_getElem?_getD]
  by_cases h : k < g.length
  · rw [if_pos h, List.getElem?_append_left h, List.getD_eq_getElem?_getD]
  · rw [if_neg h, List.getElem?_append_right (by omega)]
    by_cases e : k = g.length
    · subst e; rw [if_pos rfl, Nat.sub_self]; rfl
    · rw [if_neg e]
      have : k - g.length = (k - g.length - 1) + 1 := by omega
      rw [this]; rfl
theorem nI_neg {n : Nat} (hn : n < 2 ^ 31) : 0 ≤ nI n := nI_pos' hn
/-- ONE GOES each minute, till all are gone, in thought -/
theorem c_allGo {n m : Nat} {sl : Nat → Nat → Int32} {mn ov : Int32} {num : Nat → Nat → Int32} {h : AH} {Λ : LawF} (hn9 : n ≤ 9) (hm : m ≤ 13) (hby : ∀ s, s < m → ∃ j, j < n ∧ sl s 2 = nI j) (hg : goneOK n num) (hΛ : inR Λ) (C : CRep 19 h n m num sl mn) (hL : CL h Λ) : Ok (fX6_allGo ov h) (fun h' => GoA h' (goS Λ n m sl ov n num mn) ∧ Fr St h h') := by
  have ht : isT 19 := Or.inr rfl
  unfold fX6_allGo
  refine ok_let (ok_let ?_)
  refine L2 (f := fX6_allGo_12 ov) (b := fX6_allGo_12_b ov) (fun _ => rfl) (fun r x y h' => ∃ (pre : List (Nat × Int32)) (num' : Nat → Nat → Int32) (mn' : Int32), lftN num' n ≤ r ∧ pre.length + r ≤ 9 ∧ pre ++ goS Λ n m sl ov r num' mn' = goS Λ n m sl ov n num mn ∧ x = ov ∧ y = nI pre.length ∧ goneOK n num' ∧ CRep 19 h' n m num' sl mn' ∧ GoA h' pre ∧ Fr St h h') ?_ n FU ov 0 _ (by unfold FU; omega) ⟨[], num, mn, lftN_le num n, by simp; omega, rfl, rfl, rfl, hg, ?_, ?_, ?_⟩
  · rintro r x y h' ⟨pre, num', mn', hr, hpl, hpre, rfl, rfl, hg', C', hGo, hF⟩ Q hQ
    have hL' : CL h' Λ := fun t n m num sl mn h2 a1 a2 a3 a4 a5 a6 => hL t n m num sl mn h2 a1 a2 a3 a4 (a5.trans (hF.1 15 1 (by unfold St Sr; omega))) (a6.trans (by funext k; exact hF.1 16 k (by unfold St Sr; omega)))
    have hf : ∀ i, 0 ≤ (rd Λ n num' mn' i).toInt := fun i => (hΛ _ _ _ _ _ _).1
    unfold fX6_allGo_12_b
    -- one who goes
    have go : ∀ h2 : AH, Fr Sr h' h2 → ordL (rd Λ n num' mn') num' n ≠ [] → Ok (fX6_allGo_48 x Q x (nI pre.length) (nI (nxt (ordL (rd Λ n num' mn') num' n) x)) h2) (fun h' => GoA h' (goS Λ n m sl x n num mn) ∧ Fr St h h') := by
      intro h2 F2 hne
      have hm2 := (ordL_mem _ num' n _).mp (nxt_mem (ov := x) hne)
      obtain ⟨w, ew⟩ : ∃ w, w = nxt (ordL (rd Λ n num' mn') num' n) x := ⟨_, rfl⟩
      rw [← ew] at hm2 ⊢
      have e1 := lftN_set n hm2.1 hm2.2
      obtain ⟨r, rfl⟩ : ∃ r', r = r' + 1 := ⟨r - 1, by omega⟩
      have C2 : CRep 19 h2 n m num' sl mn' := C'.fr F2 (fun o k h1 h2 q => by unfold Sr at q; omega)
      unfold fX6_allGo_48
      rw [c_isLeft ht hn9 C2 hm2.1, b2_some, if_pos hm2.2]
      refine ok_f (by decide) ?_
      have g4 : h2.1 18 4 = nI pre.length := (F2.1 18 4 (by unfold Sr; omega)).trans hGo.1
      have g5 : h2.1 18 5 = sumR pre 0 := (F2.1 18 5 (by unfold Sr; omega)).trans hGo.2.2
      rw [g4]
      refine ok_t (inb_nI (by omega) (by decide)) (ok_let (ok_let (ok_t (inb_nI (by omega) (by decide)) (ok_let (ok_let ?_)))))
      rw [ix_nI (show pre.length < 2 ^ 31 by omega), ix_nI (show w < 2 ^ 31 by omega)]
      have e20 : h2.1 20 w = num' w 0 := (C2.2.2.2.1 w hm2.1).1
      simp only [wI_rd]
      rw [if_neg (by omega), g4, nI_1, if_neg (by omega), if_neg (by omega), if_neg (by omega), if_neg (by omega), g5, e20]
      have CC : CRep 19 (wI (wI (wI (wI h2 29 pre.length (nI w)) 18 4 (nI (pre.length + 1))) 18 5 (sumR pre 0 + num' w 0)) 25 w 1) n m (setN num' w 5 1) sl mn' := by
        obtain ⟨a, b, cc, dd, ee⟩ := C2
        refine ⟨?_, ?_, ?_, fun i hi => ?_, fun z hz => ?_⟩
        · simp only [wI_rd]; rw [if_neg (by omega), if_neg (by omega), if_neg (by omega), if_neg (by omega)]; exact a
        · simp only [wI_rd]; rw [if_neg (by omega), if_neg (by omega), if_neg (by omega), if_neg (by omega)]; exact b
        · simp only [wI_rd]; rw [if_neg (by omega), if_neg (by omega), if_neg (by omega), if_neg (by omega)]; exact cc
        · obtain ⟨d0, d1, d2, d3, d5⟩ := dd i hi
          have en : ∀ k, k ≠ 5 → setN num' w 5 1 i k = num' i k := fun k hk => by unfold setN; rw [if_neg (by omega)]
          rw [en 0 (by decide), en 1 (by decide), en 2 (by decide), en 3 (by decide)]
          simp only [wI_rd]
          refine ⟨?_, ?_, ?_, ?_, ?_⟩
          · rw [if_neg (by omega), if_neg (by omega), if_neg (by omega), if_neg (by omega)]; exact d0
          · rw [if_neg (by omega), if_neg (by omega), if_neg (by omega), if_neg (by omega)]; exact d1
          · rw [if_neg (by omega), if_neg (by omega), if_neg (by omega), if_neg (by omega)]; exact d2
          · rw [if_neg (by omega), if_neg (by omega), if_neg (by omega), if_neg (by omega)]; exact d3
          · unfold setN
            by_cases e : i = w
            · rw [if_pos ⟨trivial, e⟩, if_pos ⟨e, rfl⟩]
            · rw [if_neg (by omega), if_neg (by omega), if_neg (by omega), if_neg (by omega), if_neg (by omega)]; exact d5
        · simp only [wI_rd]
          rw [if_neg (by omega), if_neg (by omega), if_neg (by omega), if_neg (by omega), if_neg (by omega), if_neg (by omega), if_neg (by omega), if_neg (by omega), if_neg (by omega), if_neg (by omega), if_neg (by omega), if_neg (by omega)]
          exact ee z hz
      refine ok_bV (c_pass ht hn9 hm hby CC) (fun h3 hh => ?_)
      obtain ⟨C3, F3⟩ := hh
      have e2 := lftN_congr (num := setN num' w 5 1) (num' := pmN n m sl mn' (setN num' w 5 1)) n (fun i hi => pmN_5 (by decide))
      refine hQ r x _ h3 (by omega) ⟨pre ++ [(w, num' w 0)], pmN n m sl mn' (setN num' w 5 1), pmM mn', by omega, by simp; omega, ?_, rfl, by simp, pmN_gone (set_gone hg'), C3, ?_, ?_⟩
      · rw [← hpre, List.append_assoc]
        show _ = pre ++ (if ordL (rd Λ n num' mn') num' n = [] then [] else _)
        rw [if_neg hne, ← ew]
        rfl
      · refine ⟨?_, fun k hk => ?_, ?_⟩
        · rw [F3.1 18 4 (by omega), wI_rd, if_neg (by omega), wI_rd, if_neg (by omega), wI_rd, if_pos ⟨rfl, rfl⟩]; simp
        · rw [F3.1 29 k (by omega), app_getD]
          simp only [wI_rd]
          rw [if_neg (by omega), if_neg (by omega), if_neg (by omega)]
          have hk : k < pre.length + 1 := by simpa using hk
          by_cases e : k = pre.length
          · rw [if_pos ⟨trivial, e⟩, if_neg (by omega), if_pos e]
          · rw [if_neg (by omega), if_pos (show k < pre.length by omega), F2.1 29 k (by unfold Sr; omega)]
            exact hGo.2.1 k (by omega)
        · rw [F3.1 18 5 (by omega), sumR_app, wI_rd, if_neg (by omega), wI_rd, if_pos ⟨rfl, rfl⟩]
      · have F4 : Fr St h h2 := hF.tr (F2.mono (fun o k q => Or.inl q))
        have F5 : Fr St h (wI (wI (wI (wI h2 29 pre.length (nI w)) 18 4 (nI (pre.length + 1))) 18 5 (sumR pre 0 + num' w 0)) 25 w 1) := (((F4.w (Or.inr (Or.inr (by omega)))).w (Or.inr (Or.inl rfl))).w (Or.inr (Or.inl rfl))).w (Or.inr (Or.inr (by omega)))
        exact F5.tr (F3.mono (fun o k q => Or.inr (Or.inr (by omega))))
    -- the end
    have stop : ∀ (h2 : AH) (g : Int32), Fr Sr h' h2 → ordL (rd Λ n num' mn') num' n = [] → fX7_isLeft 19 g h2 = some (0, h2) → Ok (fX6_allGo_48 x Q x (nI pre.length) g h2) (fun h' => GoA h' (goS Λ n m sl x n num mn) ∧ Fr St h h') := by
      intro h2 g F2 hnil hgl
      unfold fX6_allGo_48
      rw [hgl, b2_some]
      refine ok_t rfl (ok_some ⟨?_, hF.tr (F2.mono (fun o k q => Or.inl q))⟩)
      have e0 : goS Λ n m sl x r num' mn' = [] := by
        cases r with
        | zero => rfl
        | succ r => unfold goS; rw [if_pos hnil]
      rw [e0, List.append_nil] at hpre
      rw [← hpre]
      refine ⟨(F2.1 18 4 (by unfold Sr; omega)).trans hGo.1, fun k hk => (F2.1 29 k (by unfold Sr; omega)).trans (hGo.2.1 k hk), (F2.1 18 5 (by unfold Sr; omega)).trans hGo.2.2⟩
    refine ok_if (fun c1 => ?_) (fun c1 => ?_)
    · -- nine have gone
      rw [show (9 : Int32) = nI 9 from rfl, nI_leI (by omega) (by omega)] at c1
      have r0 : r = 0 := by omega
      subst r0
      refine ok_some ⟨?_, hF⟩
      have e0 : goS Λ n m sl x 0 num' mn' = [] := rfl
      rw [e0, List.append_nil] at hpre
      rw [← hpre]
      exact hGo
    · refine ok_b2 (c_sorriest ht hn9 hg' C' hL') (fun v h2 hv => ?_)
      obtain ⟨ev, F2⟩ := hv
      have ev : v = (srtG (rd Λ n num' mn') num' x n).1 := ev
      have C2 : CRep 19 h2 n m num' sl mn' := C'.fr F2 (fun o k h1 h2 q => by unfold Sr at q; omega)
      by_cases hex : ∃ b, b < n ∧ num' b 5 = 0 ∧ ¬ nI b = x
      · obtain ⟨b, hb, hb2⟩ := hex
        have hne : ordL (rd Λ n num' mn') num' n ≠ [] := fun z => by
          have := (ordL_mem (rd Λ n num' mn') num' n b).mpr ⟨hb, hb2.1⟩
          rw [z] at this
          exact absurd this List.not_mem_nil
        rw [ev, srt_nxt hn9 hf hb hb2]
        have hm2 := (ordL_mem _ num' n _).mp (nxt_mem (ov := x) hne)
        exact ok_t (nI_neg (by omega)) (go h2 F2 hne)
      · have hnone : ∀ i, i < n → ¬ (num' i 5 = 0 ∧ ¬ nI i = x) := fun i hi q => hex ⟨i, hi, q.1, q.2⟩
        rw [ev, srt_none hf hnone]
        refine ok_f (by decide) ?_
        by_cases hov : ∃ g, g < n ∧ x = nI g ∧ num' g 5 = 0
        · obtain ⟨g, hgn, rfl, hg5⟩ := hov
          rw [c_isLeft ht hn9 C2 hgn, b2_some, if_pos hg5]
          refine ok_f (by decide) ?_
          have hgm : g ∈ ordL (rd Λ n num' mn') num' n := (ordL_mem _ _ _ _).mpr ⟨hgn, hg5⟩
          have hne : ordL (rd Λ n num' mn') num' n ≠ [] := fun z => by rw [z] at hgm; exact absurd hgm List.not_mem_nil
          have en : nxt (ordL (rd Λ n num' mn') num' n) (nI g) = g := by
            have hm2 := (ordL_mem _ num' n _).mp (nxt_mem (ov := nI g) hne)
            apply Classical.byContradiction
            intro z
            exact hnone _ hm2.1 ⟨hm2.2, fun w => z (nI_inj (by omega) (by omega) w)⟩
          have := go h2 F2 hne
          rw [en] at this
          exact this
        · have hnil : ordL (rd Λ n num' mn') num' n = [] := by
            apply Classical.byContradiction
            intro z
            have hm2 := (ordL_mem _ num' n _).mp (nxt_mem (ov := x) z)
            by_cases w : nI (nxt (ordL (rd Λ n num' mn') num' n) x) = x
            · exact hov ⟨_, hm2.1, w.symm, hm2.2⟩
            · exact hnone _ hm2.1 ⟨hm2.2, w⟩
          have hx0 : fX7_isLeft 19 x h2 = some (0, h2) := by
            by_cases q : 0 ≤ x.toInt ∧ x.toInt < n
            · obtain ⟨g, hgn, rfl⟩ := nI_ex q.1 q.2 (by omega)
              rw [c_isLeft ht hn9 C2 hgn, if_neg (fun w => hov ⟨g, hgn, rfl, w⟩)]
            · exact c_isLeftN C2.1 hn9 q
          rw [hx0, b2_some]
          refine ok_t rfl (stop h2 (-2) F2 hnil ?_)
          refine c_isLeftN C2.1 hn9 ?_
          have : (-2 : Int32).toInt = -2 := by decide
          rw [this]
          omega
  · refine C.fr (S := fun o k => o = 18) ?_ (fun o k h1 h2 q => by omega)
    exact Fr.w (S := fun o k => o = 18) (Fr.w (S := fun o k => o = 18) Fr.rf rfl) rfl
  · refine ⟨?_, fun k hk => by simp at hk, ?_⟩
    · rw [wI_rd, if_neg (by omega), wI_rd, if_pos ⟨rfl, rfl⟩]; rfl
    · rw [wI_rd, if_pos ⟨rfl, rfl⟩]; rfl
  · exact (Fr.rf.w (Or.inr (Or.inl rfl))).w (Or.inr (Or.inl rfl))
