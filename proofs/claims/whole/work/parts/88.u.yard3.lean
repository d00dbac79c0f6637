theorem not_dg {b : Int32} (h : b = 33 ∨ b = 45 ∨ b = 40) : ¬ isDg b ∧ ¬ isNm b := by
  rcases h with rfl | rfl | rfl <;> decide
theorem out6 {U W : List Int32} (hU : ∀ x, x ∈ U → rk x = 6) (hW : topN 6 W) : out 6 (U ++ W) = ng U ∧ rst 6 (U ++ W) = W := by
  have h := out_app (r := 6) U W (fun x hx => by rw [hU x hx]; exact Nat.le_refl 6)
  rw [(out_top hW).1, (out_top hW).2, List.append_nil] at h
  exact h
theorem nI_subN {a b : Nat} (h : b ≤ a) (ha : a < 2 ^ 29) : nI a - nI b = nI (a - b) := by
  rw [i_eq, pk_sub_toInt (by omega) (by omega), nI_toInt (by omega)]
  omega
theorem y_end {C U W : List Int32} {d k j : Nat} {κ : Bool} (hU : ∀ x, x ∈ U → rk x = 6) (hW : topN 6 W) (hd : U.length ≤ d) (hd6 : d ≤ 6) : yEnd C (U ++ W) (nI d) k j κ = (C ++ ng U, W, nI (d - U.length), k, j, false, κ) := by
  obtain ⟨o1, o2⟩ := out6 hU hW
  unfold yEnd
  rw [o1, o2, ng_len, nI_subN hd (by omega)]
theorem a_oneB {t : Nat → Int32} {L : Nat} (hL : L ≤ 120) (g : Nat) (o : Option (Nat → PR)) (ho : (o = none ∧ g = 0) ∨ ∃ g', g = g' + 1 ∧ o = some (one t L g') ∧ AOne t L g') (a : Nat) (C U W : List Int32) (d k j : Nat) (κ : Bool) (ha : a ≤ L) (hU : ∀ x, x ∈ U → rk x = 6) (hW : topN 6 W) (hd : d + g = 6) (hUd : U.length ≤ d) :
  (∀ c v a2, oneB t L o a = (some (c, v), a2) → ∃ k' j', RY t L a (C, U ++ W, nI d, k, j, true, κ) = RY t L a2 (C ++ (c ++ ng U), W, nI (d - U.length), k', j', false, κ) ∧ (a2 < L → isDg (t a2) → k' = 0)) ∧
  (∀ a2, oneB t L o a = (none, a2) → RY t L a (C, U ++ W, nI d, k, j, true, κ) = (none, a2)) := by
  unfold oneB
  by_cases c0 : a < L
  · rw [if_pos c0]
    have ey : yStep (t a) (C, U ++ W, nI d, k, j, true, κ) = yOpd (t a) C (U ++ W) (nI d) k j κ := rfl
    unfold yOpd at ey
    by_cases c1 : isDg (t a)
    · rw [if_pos c1]
      rw [if_pos c1, y_end hU hW hUd (by omega)] at ey
      refine ⟨fun c v a2 e => ?_, fun a2 e => by cases e⟩
      cases e
      have e4 : numb t L 4 a 0 = numb t L 3 (a + 1) (t a - 48) := by
        show (if a < L ∧ isDg (t a) then numb t L 3 (a + 1) (10 * 0 + t a - 48) else (0, a)) = _
        rw [if_pos ⟨c0, c1⟩, show (10 : Int32) * 0 = 0 from rfl, Int32.zero_add]
      obtain ⟨k', s1, s2⟩ := numb_go (t := t) (L := L) (W := W) (V := ng U) (d := nI (d - U.length)) (κ := κ) C 3 (a + 1) (t a - 48) (by omega)
      refine ⟨k', C.length, ?_, ?_⟩
      · rw [RY_some c0 ey, List.append_assoc]
        show RY t L (a + 1) (C ++ ((t a - 48) :: ng U), W, nI (d - U.length), 3, C.length, false, κ) = _
        rw [s1, e4]
        rfl
      · rw [e4]
        exact s2
    · rw [if_neg c1]
      rw [if_neg c1] at ey
      by_cases c2 : t a = 33 ∨ t a = 45
      · rw [if_pos c2]
        rw [if_neg (not_dg (b := t a) (by rcases c2 with q | q <;> simp [q])).2, if_pos (by rcases c2 with q | q <;> simp [q])] at ey
        rcases ho with ⟨rfl, rfl⟩ | ⟨g', rfl, rfl, H⟩
        · have d6 : d = 6 := by omega
          subst d6
          rw [if_neg (by decide)] at ey
          refine ⟨fun c v a2 e => (by cases e), fun a2 e => ?_⟩
          cases e
          exact RY_none c0 ey
        · rw [if_pos (by rw [show (6 : Int32) = nI 6 from rfl, nI_ltI (by omega) (by omega)]; omega), nI_1] at ey
          have hr : rk (unc (t a)) = 6 := by rcases c2 with q | q <;> rw [q] <;> decide
          obtain ⟨i1, i2⟩ := H (a + 1) C (unc (t a) :: U) W (d + 1) k j κ (by omega) (fun x hx => by
            rcases List.mem_cons.1 hx with q | q
            · rw [q]; exact hr
            · exact hU x q) hW (by omega) (by show U.length + 1 ≤ d + 1; omega)
          have ey' := RY_some c0 ey
          rw [ey']
          constructor
          · intro c v a2 e
            obtain ⟨c3, v3, a3, e3, e4⟩ := onOk_some (r := one t L g' (a + 1)) e
            cases e4
            obtain ⟨k', j', s1, s2⟩ := i1 _ _ _ e3
            refine ⟨k', j', ?_, s2⟩
            have el : d + 1 - (unc (t a) :: U).length = d - U.length := by show d + 1 - (U.length + 1) = _; omega
            rw [el] at s1
            show RY t L (a + 1) (C, (unc (t a) :: U) ++ W, nI (d + 1), k, j, true, κ) = _
            rw [s1]
            show RY t L a2 (C ++ (c3 ++ (-unc (t a) :: ng U)), W, _, k', j', false, κ) = _
            rw [List.append_assoc]
            rfl
          · intro a2 e
            rcases onOk_none (r := one t L g' (a + 1)) e with e3 | ⟨c3, v3, a3, e3, e4⟩
            · exact i2 a2 e3
            · cases e4
      · rw [if_neg c2]
        by_cases c3 : t a = 40
        · rw [if_pos c3]
          rw [if_neg (not_dg (b := t a) (by simp [c3])).2, if_pos (by simp [c3])] at ey
          rcases ho with ⟨rfl, rfl⟩ | ⟨g', rfl, rfl, H⟩
          · have d6 : d = 6 := by omega
            subst d6
            rw [if_neg (by decide)] at ey
            refine ⟨fun c v a2 e => (by cases e), fun a2 e => ?_⟩
            cases e
            exact RY_none c0 ey
          · rw [if_pos (by rw [show (6 : Int32) = nI 6 from rfl, nI_ltI (by omega) (by omega)]; omega), nI_1] at ey
            have eu : unc (t a) = 40 := by rw [c3]; decide
            rw [eu] at ey
            obtain ⟨i1, i2⟩ := a_lv hL H 5 (Nat.le_refl 5) (a + 1) C (40 :: (U ++ W)) (d + 1) k j κ (by omega) (top_cons (by decide)) (by omega)
            have fw := lv_fw (t := t) (one_fw t L g') 5
            rw [RY_some c0 ey]
            have r40 : rst 1 (40 :: (U ++ W)) = 40 :: (U ++ W) := (out_top (top_cons (by decide))).2
            have o40 : out 1 (40 :: (U ++ W)) = [] := (out_top (top_cons (by decide))).1
            constructor
            · intro c v a2 e
              obtain ⟨c4, v4, a4, e3, e4⟩ := onOk_some (r := lv t L (one t L g') 5 (a + 1)) e
              by_cases q : a4 < L ∧ t a4 = 41
              · rw [if_pos q] at e4
                cases e4
                obtain ⟨C', Q, k', j', s1, s2, s3, s4⟩ := i1 _ _ _ e3
                refine ⟨0, j', ?_, fun _ _ => rfl⟩
                rw [s1]
                refine RY_some q.1 ?_
                show ySgn (t a4) C' (Q ++ (40 :: (U ++ W))) (nI (d + 1)) k' j' κ = _
                unfold ySgn
                obtain ⟨o1, o2⟩ := out_app Q (40 :: (U ++ W)) s3
                rw [if_neg (by rw [q.2]; decide), if_pos q.2, o2, r40]
                show some (yEnd (C' ++ out 1 (Q ++ 40 :: (U ++ W))) (U ++ W) (nI (d + 1) - 1) 0 j' κ) = _
                rw [o1, o40, List.append_nil, s2, show (1 : Int32) = nI 1 from rfl, nI_subN (by omega) (by omega), Nat.add_sub_cancel, y_end hU hW hUd (by omega), List.append_assoc]
              · rw [if_neg q] at e4
                cases e4
            · intro a2 e
              rcases onOk_none (r := lv t L (one t L g') 5 (a + 1)) e with e3 | ⟨c4, v4, a4, e3, e4⟩
              · exact i2 a2 e3
              · by_cases q : a4 < L ∧ t a4 = 41
                · rw [if_pos q] at e4
                  cases e4
                · rw [if_neg q] at e4
                  cases e4
                  obtain ⟨C', Q, k', j', s1, s2, s3, s4⟩ := i1 _ _ _ e3
                  have := fw _ _ _ _ e3
                  have ne : rst 1 (40 :: (U ++ W)) ≠ [] := by rw [r40]; intro z; cases z
                  rw [s1]
                  exact y_stuck this.2 s4 s3 (fun z1 z2 => absurd ⟨z1, z2⟩ q) (fun _ _ => Or.inl ne) (fun _ _ => ne) (fun _ => ne)
        · rw [if_neg c3]
          by_cases c4 : isNm (t a)
          · rw [if_pos c4]
            rw [if_pos c4, y_end hU hW hUd (by omega)] at ey
            refine ⟨fun c v a2 e => ?_, fun a2 e => by cases e⟩
            cases e
            refine ⟨0, j, ?_, fun _ _ => rfl⟩
            rw [RY_some c0 ey, List.append_assoc]
          · rw [if_neg c4]
            rw [if_neg c4, if_neg (fun z => Or.elim z c3 (fun z => Or.elim z (fun z => c2 (Or.inl z)) (fun z => c2 (Or.inr z))))] at ey
            refine ⟨fun c v a2 e => (by cases e), fun a2 e => ?_⟩
            cases e
            exact RY_none c0 ey
  · rw [if_neg c0]
    refine ⟨fun c v a2 e => (by cases e), fun a2 e => ?_⟩
    cases e
    rw [RY_end (by omega)]
    rfl
theorem a_one {t : Nat → Int32} {L : Nat} (hL : L ≤ 120) : ∀ g, AOne t L g
  | 0 => fun a C U W d k j κ ha hU hW hd hUd => a_oneB hL 0 none (Or.inl ⟨rfl, rfl⟩) a C U W d k j κ ha hU hW hd hUd
  | g + 1 => fun a C U W d k j κ ha hU hW hd hUd => a_oneB hL (g + 1) (some (one t L g)) (Or.inr ⟨g, rfl, rfl, a_one hL g⟩) a C U W d k j κ ha hU hW hd hUd
/-- what the yard says of the rest of the text, a part begun -/
def resY (C : List Int32) (r : PR) : Option (List Int32) × Nat :=
  match r with
  | (none, a) => (none, a)
  | (some (c, _), a) => (some (C ++ c), a)
theorem a_gv {t : Nat → Int32} {L : Nat} (hL : L ≤ 120) : ∀ (n a : Nat) (C : List Int32) (k j : Nat), a ≤ L → L < a + n → RY t L a (C, [], 0, k, j, true, false) = resY C (tGv t L n a)
  | 0, a, C, k, j, h1, h2 => by omega
  | n + 1, a, C, k, j, h1, h2 => by
    have H := a_lv hL (a_one (t := t) hL 6) 5 (Nat.le_refl 5)
    have fw := lv_fw (t := t) (one_fw t L 6) 5
    -- behind a part's worth
    have tail : ∀ (c : List Int32) (q v : Wrt) (a1 : Nat) (C' Q : List Int32) (k1 j1 : Nat) (κ : Bool), a < a1 → a1 ≤ L → C' ++ ng Q = C ++ c → (∀ x, x ∈ Q → 1 ≤ rk x) → Fol t L 5 a1 Q k1 → (a1 < L → t a1 = 63 → κ = true) →
        RY t L a1 (C', Q ++ [], 0, k1, j1, false, κ) = resY C (if a1 < L ∧ t a1 = 59 then onOk (tGv t L n (a1 + 1)) (fun c2 v2 a2 => (some (c ++ (-59 :: c2), fun e => if q e = 0 then v2 e else v e), a2)) else if a1 < L then (none, a1) else (some (c ++ [-59], fun e => if q e = 0 then 0 else v e), a1)) := by
      intro c q v a1 C' Q k1 j1 κ f1 f2 e hQ F n63
      obtain ⟨o1, o2⟩ := out_app Q [] hQ
      have o1 : out 1 (Q ++ []) = ng Q := Eq.trans o1 (List.append_nil (ng Q))
      have o2 : rst 1 (Q ++ []) = [] := o2
      by_cases z : a1 < L ∧ t a1 = 59
      · rw [if_pos z]
        have ey : yStep (t a1) (C', Q ++ [], 0, k1, j1, false, κ) = some (C ++ c ++ [-59], [], 0, k1, j1, true, false) := by
          show ySgn (t a1) C' (Q ++ []) 0 k1 j1 κ = _
          unfold ySgn
          rw [if_neg (by rw [z.2]; decide), if_neg (by rw [z.2]; decide), if_neg (by rw [z.2]; decide), if_pos z.2, if_pos o2, o1, e]
        rw [RY_some z.1 ey, a_gv hL n (a1 + 1) _ k1 j1 (by omega) (by omega)]
        rcases tGv t L n (a1 + 1) with ⟨_ | ⟨c2, v2⟩, a2⟩
        · rfl
        · show (some (C ++ c ++ [-59] ++ c2), a2) = (some (C ++ (c ++ (-59 :: c2))), a2)
          simp only [List.append_assoc]
          rfl
      · rw [if_neg z]
        by_cases z2 : a1 < L
        · rw [if_pos z2]
          exact y_stuck f2 F hQ (fun _ _ => rfl) (fun y1 y2 => Or.inr (n63 y1 y2)) (fun y1 y2 => absurd ⟨y1, y2⟩ z) (fun y => by omega)
        · rw [if_neg z2, RY_end (by omega)]
          show (if rst 1 (Q ++ []) = [] then (some (C' ++ out 1 (Q ++ []) ++ [-59]), a1) else (none, a1)) = (some (C ++ (c ++ [-59])), a1)
          rw [if_pos o2, o1, e, List.append_assoc]
    obtain ⟨i1, i2⟩ := H a C [] 0 k j false h1 (top_nil _) rfl
    show _ = resY C (onOk (tExp t L a) _)
    unfold tExp
    rcases he : lv t L (one t L 6) 5 a with ⟨_ | ⟨c, v⟩, a1⟩
    · exact i2 a1 he
    · obtain ⟨C', Q, k', j', s1, s2, s3, s4⟩ := i1 _ _ _ he
      have hf := fw _ _ _ _ he
      rw [show (0 : Int32) = nI 0 from rfl, s1]
      by_cases z : a1 < L ∧ t a1 = 63
      · show _ = resY C (if a1 < L ∧ t a1 = 63 then _ else _)
        rw [if_pos z]
        obtain ⟨o1, o2⟩ := out_app Q [] s3
        have o1 : out 1 (Q ++ []) = ng Q := Eq.trans o1 (List.append_nil (ng Q))
        have o2 : rst 1 (Q ++ []) = [] := o2
        have ey : yStep (t a1) (C', Q ++ [], nI 0, k', j', false, false) = some (C ++ c, [], nI 0, k', j', true, true) := by
          show ySgn (t a1) C' (Q ++ []) (nI 0) k' j' false = _
          unfold ySgn
          rw [if_neg (by rw [z.2]; decide), if_neg (by rw [z.2]; decide), if_pos z.2, if_pos ⟨o2, rfl⟩, o1, s2]
        rw [RY_some z.1 ey]
        obtain ⟨m1, m2⟩ := H (a1 + 1) (C ++ c) [] 0 k' j' true (by omega) (top_nil _) rfl
        rcases he2 : lv t L (one t L 6) 5 (a1 + 1) with ⟨_ | ⟨c2, v2⟩, a2⟩
        · exact m2 a2 he2
        · obtain ⟨C2, Q2, k2, j2, u1, u2, u3, u4⟩ := m1 _ _ _ he2
          have hf2 := fw _ _ _ _ he2
          rw [u1]
          exact tail (c ++ c2) v v2 a2 C2 Q2 k2 j2 true (by omega) hf2.2 (by rw [u2, List.append_assoc]) u3 u4 (fun _ _ => rfl)
      · show _ = resY C (if a1 < L ∧ t a1 = 63 then _ else _)
        rw [if_neg z]
        exact tail c (fun _ => 1) v a1 C' Q k' j' false hf.1 hf.2 s2 s3 s4 (fun y1 y2 => absurd ⟨y1, y2⟩ z)
