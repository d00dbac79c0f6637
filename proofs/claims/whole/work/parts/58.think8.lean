/-! two more ways to use what is known of a call -/
theorem ok_eq {α : Type} {o : Option (α × AH)} {v : α} {h : AH} (H : Ok o (fun q => q.1 = v ∧ q.2 = h)) : o = some (v, h) := by
  obtain ⟨⟨a, b⟩, e, e1, e2⟩ := H
  have e1 : a = v := e1
  have e2 : b = h := e2
  rw [e, e1, e2]
theorem ok_bv {α β : Type} {o : Option (α × AH)} {f : α → AH → Option β} {P : β → Prop} {v : α} {S : AH → Prop} (ho : Ok o (fun q => q.1 = v ∧ S q.2)) (hf : ∀ h, S h → Ok (f v h) P) : Ok (bind2 o f) P := by
  obtain ⟨⟨a, b⟩, e, e1, e2⟩ := ho
  have e1 : a = v := e1
  subst e
  subst e1
  exact hf b e2
/-! pairs -/
def glN (num : Nat → Nat → Int32) (a b : Int32) : Nat → Nat
  | 0 => 0
  | c + 1 => if num c 5 = 0 ∧ num c 3 = a ∧ num c 4 = b then glN num a b c + 1 else glN num a b c
theorem c_gloves {n m : Nat} {num sl : Nat → Nat → Int32} {mn a b : Int32} {h : AH} (T : TI h n m num sl mn) : Ok (fX7_howManyGloves 1 a b h) (fun q => q.1 = nI (glN num a b n) ∧ q.2 = h) := by
  have hn9 := T.n9
  have r1 : rf 1 5 = 7 ∧ rf 1 3 = 5 ∧ rf 1 4 = 6 := by decide +kernel
  unfold fX7_howManyGloves
  refine L4 (f := fX7_howManyGloves_5 1 a b) (b := fX7_howManyGloves_5_b 1 a b) (fun _ => rfl) (fun r x y z u h' => ∃ c, c + r = n ∧ x = a ∧ y = b ∧ z = nI (glN num a b c) ∧ u = nI c ∧ h' = h) ?_ n FU a b 0 0 h (by unfold FU; omega) ⟨0, by omega, rfl, rfl, rfl, rfl, rfl⟩
  rintro r x y z u h' ⟨c, hc, rfl, rfl, rfl, rfl, rfl⟩ Q hQ
  unfold fX7_howManyGloves_5_b
  rw [T.c.1, r1.1, r1.2.1, r1.2.2]
  refine ok_if (fun d1 => ?_) (fun d1 => ?_)
  · rw [nI_leI (by omega) (by omega)] at d1
    have e : c = n := by omega
    subst e
    exact ok_some ⟨rfl, rfl⟩
  · rw [nI_leI (by omega) (by omega)] at d1
    obtain ⟨d0, dd1, d2, d3, d5⟩ := T.c.2.2.2.1 c (by omega)
    have d4 := T.2.2.1 c (by omega)
    have es : glN num x y (c + 1) = if num c 5 = 0 ∧ num c 3 = x ∧ num c 4 = y then glN num x y c + 1 else glN num x y c := rfl
    refine ok_t (inb_nI (by omega) (by decide)) ?_
    rw [ix_nI (show c < 2 ^ 31 by omega), d3, d5, d4, nI_1, nI_1]
    refine ok_if (fun q1 => ok_if (fun q2 => ok_if (fun q3 => ?_) (fun q3 => ?_)) (fun q2 => ?_)) (fun q1 => ?_)
    · exact hQ (r - 1) _ _ _ _ _ (by omega) ⟨c + 1, by omega, rfl, rfl, by rw [es, if_pos ⟨q1, q2, q3⟩], rfl, rfl⟩
    · exact hQ (r - 1) _ _ _ _ _ (by omega) ⟨c + 1, by omega, rfl, rfl, by rw [es, if_neg (fun z => q3 z.2.2)], rfl, rfl⟩
    · exact hQ (r - 1) _ _ _ _ _ (by omega) ⟨c + 1, by omega, rfl, rfl, by rw [es, if_neg (fun z => q2 z.2.1)], rfl, rfl⟩
    · exact hQ (r - 1) _ _ _ _ _ (by omega) ⟨c + 1, by omega, rfl, rfl, by rw [es, if_neg (fun z => q1 z.1)], rfl, rfl⟩
theorem m_gloves {n m : Nat} {num sl : Nat → Nat → Int32} {mn a b : Int32} {h : AH} (T : TI h n m num sl mn) : Ok (fX10_gloves a b h) (fun q => q.1 = nI (glN num a b n) ∧ q.2 = h) := by
  have hn9 := T.n9
  unfold fX10_gloves
  refine L4 (f := fX10_gloves_5 a b) (b := fX10_gloves_5_b a b) (fun _ => rfl) (fun r x y z u h' => ∃ c, c + r = n ∧ x = a ∧ y = b ∧ z = nI (glN num a b c) ∧ u = nI c ∧ h' = h) ?_ n FU a b 0 0 h (by unfold FU; omega) ⟨0, by omega, rfl, rfl, rfl, rfl, rfl⟩
  rintro r x y z u h' ⟨c, hc, rfl, rfl, rfl, rfl, rfl⟩ Q hQ
  unfold fX10_gloves_5_b
  rw [T.m.1]
  refine ok_if (fun d1 => ?_) (fun d1 => ?_)
  · rw [nI_leI (by omega) (by omega)] at d1
    have e : c = n := by omega
    subst e
    exact ok_some ⟨rfl, rfl⟩
  · rw [nI_leI (by omega) (by omega)] at d1
    have hcn : c < n := by omega
    have es : glN num x y (c + 1) = if num c 5 = 0 ∧ num c 3 = x ∧ num c 4 = y then glN num x y c + 1 else glN num x y c := rfl
    have z0 : ∀ v : Int32, v + 0 = v := fun v => by simp
    rw [m_isHere (by omega), b2_some, T.m.2.1 c hcn 5 (by decide), nI_1]
    by_cases q1 : num c 5 = 0
    · rw [if_pos q1]
      refine ok_f (by decide) ?_
      rw [m_number (K := 3) (k := 3) rfl (by omega) (by decide), b2_some, T.m.2.1 c hcn 3 (by decide)]
      refine ok_if (fun q2 => ?_) (fun q2 => ?_)
      · rw [m_number (K := 4) (k := 4) rfl (by omega) (by decide), b2_some, T.m.2.1 c hcn 4 (by decide)]
        refine ok_if (fun q3 => ok_let ?_) (fun q3 => ok_let ?_)
        · rw [nI_1]
          exact hQ (r - 1) _ _ _ _ _ (by omega) ⟨c + 1, by omega, rfl, rfl, by rw [es, if_pos ⟨q1, q2, q3⟩], rfl, rfl⟩
        · rw [z0]
          exact hQ (r - 1) _ _ _ _ _ (by omega) ⟨c + 1, by omega, rfl, rfl, by rw [es, if_neg (fun z => q3 z.2.2)], rfl, rfl⟩
      · refine ok_let ?_
        rw [z0]
        exact hQ (r - 1) _ _ _ _ _ (by omega) ⟨c + 1, by omega, rfl, rfl, by rw [es, if_neg (fun z => q2 z.2.1)], rfl, rfl⟩
    · rw [if_neg q1]
      refine ok_t rfl (ok_let ?_)
      rw [z0]
      exact hQ (r - 1) _ _ _ _ _ (by omega) ⟨c + 1, by omega, rfl, rfl, by rw [es, if_neg (fun z => q1 z.1)], rfl, rfl⟩
def prP (f : Nat → Int32 → Int32) : Nat → Int32 × Int32
  | 0 => (0, -2)
  | c + 1 => ((prP f c).1 + jmin (f (9 - c) 0) (f (9 - c) 1), if f (9 - c) 0 = f (9 - c) 1 then (prP f c).2 else nI (9 - c))
theorem nI_m1 {n : Nat} (h : n + 1 < 2 ^ 30) : nI (n + 1) + (-1) = nI n := by
  rw [i_eq, show nI (n + 1) + (-1 : Int32) = nI (n + 1) - nI 1 by rw [Int32.sub_eq_add_neg]; rfl, pk_sub_toInt (by omega) (by decide), nI_toInt (by omega)]
  omega
theorem op_pairs (w : Int32) : Sim (fX9_pairs w) (fX10_pairs w) := by
  have e0 : (0 : Int32).toInt = 0 := by decide
  have e2 : (2 : Int32).toInt = 2 := by decide
  have s9 : ST 201 (ix 4) = 9 := by decide +kernel
  have s5 : ST 200 (ix 4) = 5 := by decide +kernel
  refine sim_think (fun n m num sl mn Λ => if 0 ≤ w.toInt ∧ w.toInt ≤ 2 then if w = 0 then (prP (fun k a => nI (glN num a (nI k) n)) 5).1 else if w = 1 then nI (lftN num n) - 2 * (prP (fun k a => nI (glN num a (nI k) n)) 5).1 else (prP (fun k a => nI (glN num a (nI k) n)) 5).2 else -1) (fun n m B num sl mn Λ h T O => ?_) (fun n m B num sl mn Λ h T O => ?_)
  · unfold fX9_pairs
    by_cases c2 : 0 ≤ w.toInt ∧ w.toInt ≤ 2
    · rw [if_pos c2]
      refine ok_f (by rw [i_lt, e0]; omega) (ok_t (by rw [i_le, e2]; omega) (ok_let ?_))
      rw [s9]
      refine L4 (f := fX9_pairs_23 w) (b := fX9_pairs_23_b w) (fun _ => rfl) (fun r x y z u h' => ∃ c, c + r = 5 ∧ x = w ∧ (y, z) = prP (fun k a => nI (glN num a (nI k) n)) c ∧ u = nI (9 - c) ∧ h' = h) ?_ 5 FU w 0 (-2) 9 h (by unfold FU; omega) ⟨0, by omega, rfl, rfl, rfl, rfl⟩
      rintro r x y z u h' ⟨c, hc, rfl, hyz, rfl, rfl⟩ Q hQ
      unfold fX9_pairs_23_b
      rw [s5]
      refine ok_if (fun d1 => ?_) (fun d1 => ?_)
      · rw [show (5 : Int32) = nI 5 from rfl, nI_ltI (by omega) (by omega)] at d1
        have e : c = 5 := by omega
        subst e
        rw [← hyz]
        by_cases d2 : x = 0
        · rw [if_pos d2, if_pos d2]; exact ok_some ⟨rfl, Fr.rf⟩
        · rw [if_neg d2, if_neg d2]
          by_cases d3 : x = 1
          · rw [if_pos d3, if_pos d3]
            rw [c_left (Or.inl rfl) T.n9 T.gone T.c, b2_some]
            exact ok_some ⟨rfl, Fr.rf⟩
          · rw [if_neg d3, if_neg d3]; exact ok_some ⟨rfl, Fr.rf⟩
      · rw [show (5 : Int32) = nI 5 from rfl, nI_ltI (by omega) (by omega)] at d1
        rw [ok_eq (c_gloves T), b2_some, ok_eq (c_gloves T), b2_some]
        have es : prP (fun k a => nI (glN num a (nI k) n)) (c + 1) = ((prP (fun k a => nI (glN num a (nI k) n)) c).1 + jmin (nI (glN num 0 (nI (9 - c)) n)) (nI (glN num 1 (nI (9 - c)) n)), if nI (glN num 0 (nI (9 - c)) n) = nI (glN num 1 (nI (9 - c)) n) then (prP (fun k a => nI (glN num a (nI k) n)) c).2 else nI (9 - c)) := rfl
        rw [← hyz] at es
        have em : nI (9 - c) + (-1) = nI (9 - (c + 1)) := by rw [show 9 - c = (9 - (c + 1)) + 1 by omega]; exact nI_m1 (by omega)
        rw [em]
        refine ok_let (ok_if (fun q => ?_) (fun q => ?_))
        · exact hQ (r - 1) _ _ _ _ _ (by omega) ⟨c + 1, by omega, rfl, by rw [es, if_pos q], rfl, rfl⟩
        · exact hQ (r - 1) _ _ _ _ _ (by omega) ⟨c + 1, by omega, rfl, by rw [es, if_neg q], rfl, rfl⟩
    · rw [if_neg c2]
      refine ok_if (fun c4 => ok_some ⟨rfl, Fr.rf⟩) (fun c4 => ?_)
      rw [i_lt, e0] at c4
      exact ok_f (by rw [i_le, e2]; omega) (ok_some ⟨rfl, Fr.rf⟩)
  · unfold fX10_pairs
    rw [m_isIn, b2_some, e0, e2]
    by_cases c2 : 0 ≤ w.toInt ∧ w.toInt ≤ 2
    · rw [if_pos c2, if_pos c2]
      refine ok_f (by decide) ?_
      refine L4 (f := fX10_pairs_20 w) (b := fX10_pairs_20_b w) (fun _ => rfl) (fun r x y z u h' => ∃ c, c + r = 5 ∧ x = w ∧ (y, z) = prP (fun k a => nI (glN num a (nI k) n)) c ∧ u = nI (9 - c) ∧ h' = h) ?_ 5 FU w 0 (-2) 9 h (by unfold FU; omega) ⟨0, by omega, rfl, rfl, rfl, rfl⟩
      rintro r x y z u h' ⟨c, hc, rfl, hyz, rfl, rfl⟩ Q hQ
      unfold fX10_pairs_20_b
      refine ok_if (fun d1 => ?_) (fun d1 => ?_)
      · rw [show (5 : Int32) = nI 5 from rfl, nI_ltI (by omega) (by omega)] at d1
        have e : c = 5 := by omega
        subst e
        rw [← hyz]
        by_cases d2 : x = 0
        · rw [if_pos d2, if_pos d2]; exact ok_some ⟨rfl, Fr.rf⟩
        · rw [if_neg d2, if_neg d2]
          by_cases d3 : x = 1
          · rw [if_pos d3, if_pos d3]
            rw [m_left T.n9 T.m, b2_some]
            exact ok_some ⟨rfl, Fr.rf⟩
          · rw [if_neg d3, if_neg d3]; exact ok_some ⟨rfl, Fr.rf⟩
      · rw [show (5 : Int32) = nI 5 from rfl, nI_ltI (by omega) (by omega)] at d1
        rw [ok_eq (m_gloves T), b2_some, ok_eq (m_gloves T), b2_some]
        have es : prP (fun k a => nI (glN num a (nI k) n)) (c + 1) = ((prP (fun k a => nI (glN num a (nI k) n)) c).1 + jmin (nI (glN num 0 (nI (9 - c)) n)) (nI (glN num 1 (nI (9 - c)) n)), if nI (glN num 0 (nI (9 - c)) n) = nI (glN num 1 (nI (9 - c)) n) then (prP (fun k a => nI (glN num a (nI k) n)) c).2 else nI (9 - c)) := rfl
        rw [← hyz] at es
        have em : nI (9 - c) + (-1) = nI (9 - (c + 1)) := by rw [show 9 - c = (9 - (c + 1)) + 1 by omega]; exact nI_m1 (by omega)
        rw [em]
        refine ok_let (ok_if (fun q => ?_) (fun q => ?_))
        · exact hQ (r - 1) _ _ _ _ _ (by omega) ⟨c + 1, by omega, rfl, by rw [es, if_pos q], rfl, rfl⟩
        · exact hQ (r - 1) _ _ _ _ _ (by omega) ⟨c + 1, by omega, rfl, by rw [es, if_neg q], rfl, rfl⟩
    · rw [if_neg c2, if_neg c2]
      exact ok_t rfl (ok_some ⟨rfl, Fr.rf⟩)
