/-! trace, feed, body -/
theorem op_trace (p : Int32) : Sim (fX9_trace p) (fX10_trace p) := by
  have e0 : (0 : Int32).toInt = 0 := by decide
  have e24 : (24 : Int32).toInt = 24 := by decide
  refine sim_thinkH (fun h n m num sl mn Λ => if 0 ≤ p.toInt ∧ p.toInt < (h.1 43 3).toInt ∧ p.toInt < 24 then h.1 45 p.toInt.toNat else -1) (fun n m num sl mn Λ h h' F => ?_) (fun n m B num sl mn Λ h T O => ?_) (fun n m B num sl mn Λ h T O => ?_)
  · rw [F.1 43 3 (by unfold Scr; omega), F.1 45 _ (by unfold Scr; omega)]
  · unfold fX9_trace
    by_cases c : 0 ≤ p.toInt ∧ p.toInt < (h.1 43 3).toInt ∧ p.toInt < 24
    · rw [if_pos c]
      obtain ⟨ep, hp⟩ := nI_of_rg (p := p) (a := 24) c.1 (by omega) (by decide)
      refine ok_f (by rw [i_lt, e0]; omega) (ok_f (by rw [i_le]; omega) (ok_f (by rw [i_le, e24]; omega) ?_))
      rw [ep]
      refine ok_t (inb_nI (by omega) (by decide)) (ok_some ⟨?_, Fr.rf⟩)
      show h.1 45 (ix (nI _)) = _
      rw [ix_nI (by omega), nI_toInt (by omega)]
      rfl
    · rw [if_neg c]
      refine ok_if (fun _ => ok_some ⟨rfl, Fr.rf⟩) (fun c1 => ok_if (fun _ => ok_some ⟨rfl, Fr.rf⟩) (fun c2 => ok_t ?_ (ok_some ⟨rfl, Fr.rf⟩)))
      rw [i_lt, e0] at c1
      rw [i_le] at c2
      rw [i_le, e24]
      omega
  · unfold fX10_trace
    obtain ⟨b1, b2, b3, b4, ⟨R, r1, r2, r3⟩, b6⟩ := O.2.2.2.2.1
    have ej : jmin 24 (nI R) = nI (min 24 R) := by
      rw [i_eq, jmin_toInt, nI_toInt (by omega), nI_toInt (by omega), e24]
      omega
    rw [m_isIn, b2_some, r3, ej, show (1 : Int32) = nI 1 from rfl, pk_sub_toInt (by omega) (by omega), e0, r2, nI_toInt (show R < 2 ^ 31 by omega)]
    by_cases c : 0 ≤ p.toInt ∧ p.toInt < (R : Int) ∧ p.toInt < 24
    · rw [if_pos c, if_pos (show 0 ≤ p.toInt ∧ p.toInt ≤ ((min 24 R : Nat) : Int) - ((1 : Nat) : Int) by omega)]
      refine ok_f (by decide) ?_
      obtain ⟨ep, hp⟩ := nI_of_rg (p := p) (a := 24) c.1 (by omega) (by decide)
      rw [ep]
      refine ok_t (inb_nI (by omega) (by decide)) (ok_some ⟨?_, Fr.rf⟩)
      show h.1 85 (ix (nI _)) = _
      rw [ix_nI (by omega), nI_toInt (by omega), b6 _ (by omega)]
      rfl
    · rw [if_neg c, if_neg (show ¬ (0 ≤ p.toInt ∧ p.toInt ≤ ((min 24 R : Nat) : Int) - ((1 : Nat) : Int)) by omega)]
      exact ok_t rfl (ok_some ⟨rfl, Fr.rf⟩)
theorem op_feed (p : Int32) : Sim (fX9_feed p) (fX10_feed p) := by
  have e0 : (0 : Int32).toInt = 0 := by decide
  have e255 : (255 : Int32).toInt = 255 := by decide
  refine sim_of (fun n m B num sl mn Λ h T O => ?_)
  obtain ⟨L, l1, l2, l3, l4⟩ := O.1
  by_cases c1 : 0 ≤ p.toInt ∧ p.toInt ≤ 255
  · by_cases c2 : L < 120
    · unfold fX9_feed
      rw [l2]
      refine ok_f (by rw [i_lt, e0]; omega) (ok_t (by rw [i_le, e255]; omega) (ok_t (by rw [show (120 : Int32) = nI 120 from rfl, nI_ltI (by omega) (by omega)]; exact c2) (ok_t (inb_nI (by omega) (by decide)) (ok_let (ok_let (ok_some ?_))))))
      rw [ix_nI (by omega)]
      have r0 : (wI h 11 L p).1 0 2 = nI L := by rw [wI_rd, if_neg (by omega)]; exact l2
      rw [r0, nI_1]
      show Ok (fX10_feed p (wI (wI h 11 L p) 0 2 (nI (L + 1)))) _
      have F1 : Fr (fun o k => o = 11 ∨ (o = 0 ∧ k = 2)) h (wI (wI h 11 L p) 0 2 (nI (L + 1))) := (Fr.rf.w (Or.inl rfl)).w (Or.inr ⟨rfl, rfl⟩)
      have v1 : (wI (wI h 11 L p) 0 2 (nI (L + 1))).1 0 2 = nI (L + 1) := by rw [wI_rd, if_pos ⟨rfl, rfl⟩]
      have t1 : ∀ k, (wI (wI h 11 L p) 0 2 (nI (L + 1))).1 11 k = if k = L then p else h.1 11 k := fun k => by
        rw [wI_rd, if_neg (by omega), wI_rd]
        by_cases e : k = L
        · rw [if_pos ⟨rfl, e⟩, if_pos e]
        · rw [if_neg (fun z => e z.2), if_neg e]
      revert F1 v1 t1
      generalize wI (wI h 11 L p) 0 2 (nI (L + 1)) = h1
      intro F1 v1 t1
      unfold fX10_feed
      have q12 : h1.1 59 12 = nI L := by rw [F1.1 59 12 (by omega)]; exact l3
      rw [m_isIn, b2_some, e0, e255, if_pos c1, if_neg (by decide), q12]
      refine ok_f (by rw [show (120 : Int32) = nI 120 from rfl, nI_eq (by omega) (by omega)]; omega) (ok_t (inb_nI (by omega) (by decide)) (ok_let (ok_let (ok_some ?_))))
      rw [ix_nI (by omega)]
      have r1 : (wI h1 67 L p).1 59 12 = nI L := by rw [wI_rd, if_neg (by omega)]; exact q12
      rw [r1, nI_1]
      have F2 : Fr (fun o k => o = 67 ∨ (o = 59 ∧ k = 12)) h1 (wI (wI h1 67 L p) 59 12 (nI (L + 1))) := (Fr.rf.w (Or.inl rfl)).w (Or.inr ⟨rfl, rfl⟩)
      have F : Fr (fun o k => (o = 11 ∨ (o = 0 ∧ k = 2)) ∨ (o = 67 ∨ (o = 59 ∧ k = 12))) h (wI (wI h1 67 L p) 59 12 (nI (L + 1))) := (F1.mono (fun o k q => Or.inl q)).tr (F2.mono (fun o k q => Or.inr q))
      obtain ⟨oa, ob, oc, od, oe, og, oh, oi, oj, ol⟩ := O
      refine ⟨by show h1.1 0 2 = (wI (wI h1 67 L p) 59 12 (nI (L + 1))).1 59 12; rw [wI_rd, if_pos ⟨rfl, rfl⟩, v1], n, m, B, num, sl, mn, Λ, T.fr F (fun o k q z => by omega), ⟨L + 1, by omega, ?_, ?_, fun k hk => ?_⟩, ob.fr F (fun o k q z => by omega), oc.fr (Nat.le_refl n) F (fun o k q z => by omega), od.fr (Nat.le_refl n) (Nat.le_refl m) F (fun o k q z => by omega), oe.fr F (fun o k q z => by omega), fun s hs => (og s hs).fr (Nat.le_refl B) hs F (fun o k q z => by omega), oh.fr F (fun o k q z => by omega), oi.fr F (fun o k q z => by omega), oj.fr F (fun o k q z => by omega), ol⟩
      · show (wI (wI h1 67 L p) 59 12 (nI (L + 1))).1 0 2 = _
        rw [wI_rd, if_neg (by omega), wI_rd, if_neg (by omega)]; exact v1
      · show (wI (wI h1 67 L p) 59 12 (nI (L + 1))).1 59 12 = _
        rw [wI_rd, if_pos ⟨rfl, rfl⟩]
      · show (wI (wI h1 67 L p) 59 12 (nI (L + 1))).1 67 k = (wI (wI h1 67 L p) 59 12 (nI (L + 1))).1 11 k ∧ _ ≤ ((wI (wI h1 67 L p) 59 12 (nI (L + 1))).1 11 k).toInt ∧ ((wI (wI h1 67 L p) 59 12 (nI (L + 1))).1 11 k).toInt ≤ _
        have a1 : (wI (wI h1 67 L p) 59 12 (nI (L + 1))).1 11 k = if k = L then p else h.1 11 k := by
          rw [wI_rd, if_neg (by omega), wI_rd, if_neg (by omega)]; exact t1 k
        have a2 : (wI (wI h1 67 L p) 59 12 (nI (L + 1))).1 67 k = if k = L then p else h.1 67 k := by
          rw [wI_rd, if_neg (by omega), wI_rd]
          by_cases e : k = L
          · rw [if_pos ⟨rfl, e⟩, if_pos e]
          · rw [if_neg (fun z => e z.2), if_neg e, F1.1 67 k (by omega)]
        rw [a1, a2]
        by_cases e : k = L
        · rw [if_pos e, if_pos e]; exact ⟨rfl, c1.1, c1.2⟩
        · rw [if_neg e, if_neg e]; exact l4 k (by omega)
    · refine deed_no (v := -3) T O ?_ ?_
      · unfold fX9_feed
        rw [l2, if_neg (by rw [i_lt, e0]; omega), if_pos (by rw [i_le, e255]; omega), if_neg (by rw [show (120 : Int32) = nI 120 from rfl, nI_ltI (by omega) (by omega)]; exact c2)]
      · unfold fX10_feed
        rw [m_isIn, b2_some, e0, e255, if_pos c1, if_neg (by decide), l3, if_pos (by rw [show L = 120 by omega]; rfl)]
  · refine deed_no (v := -1) T O ?_ ?_
    · unfold fX9_feed
      by_cases q : p < 0
      · rw [if_pos q]
      · rw [if_neg q, if_neg (by rw [i_lt, e0] at q; rw [i_le, e255]; omega)]
    · unfold fX10_feed
      rw [m_isIn, b2_some, e0, e255, if_neg c1, if_pos rfl]
theorem c_isKind (p : Int32) (h : AH) : fX1_isKind p h = some (if 0 ≤ p.toInt ∧ p.toInt ≤ 7 then 1 else 0, h) := by
  have e0 : (0 : Int32).toInt = 0 := by decide
  have e8 : (8 : Int32).toInt = 8 := by decide
  unfold fX1_isKind
  simp only [i_lt, i_le, e0, e8]
  by_cases c1 : p.toInt < 0
  · rw [if_pos c1, if_neg (by omega)]
  · rw [if_neg c1]
    by_cases c2 : 8 ≤ p.toInt
    · rw [if_pos c2, if_neg (by omega)]
    · rw [if_neg c2, if_pos (by omega)]
theorem op_body (p : Int32) : Sim (fX9_body p) (fX10_body p) := by
  have e0 : (0 : Int32).toInt = 0 := by decide
  have e7 : (7 : Int32).toInt = 7 := by decide
  refine sim_of (fun n m B num sl mn Λ h T O => ?_)
  obtain ⟨b1, b2, b3, b4, ⟨R, r1, r2, r3⟩, b6⟩ := O.2.2.2.2.1
  by_cases c1 : 0 ≤ p.toInt ∧ p.toInt ≤ 7
  · by_cases c2 : B < 50
    · obtain ⟨ep, hp⟩ := nI_of_rg (p := p) (a := 7) c1.1 c1.2 (by decide)
      have hb : nI B < 50 := by rw [show (50 : Int32) = nI 50 from rfl, nI_ltI (by omega) (by omega)]; exact c2
      unfold fX9_body
      rw [c_isKind, b2_some, if_pos c1, if_neg (by decide), b2, if_pos hb]
      unfold fX1_add
      rw [b2, if_pos hb, if_pos (inb_nI (by omega) (by decide)), ix_nI (by omega)]
      have r0 : (wI h 44 B p).1 43 1 = nI B := by rw [wI_rd, if_neg (by omega)]; exact b2
      have red : (letV (wI h 44 B p) fun h3_ => letV (wI h3_ 43 1 ((h3_.1 43 1) + 1)) fun h5_ => some (((h5_.1 43 1) - 1), h5_)) = some (nI B, wI (wI h 44 B p) 43 1 (nI (B + 1))) := by
        show some ((wI (wI h 44 B p) 43 1 ((wI h 44 B p).1 43 1 + 1)).1 43 1 - 1, wI (wI h 44 B p) 43 1 ((wI h 44 B p).1 43 1 + 1)) = _
        rw [r0, nI_1, wI_rd, if_pos ⟨rfl, rfl⟩, ← nI_1]
        simp
      rw [red, b2_some]
      refine ok_some ?_
      show Ok (fX10_body p (wI (wI h 44 B p) 43 1 (nI (B + 1)))) _
      have F1 : Fr (fun o k => o = 44 ∨ (o = 43 ∧ k = 1)) h (wI (wI h 44 B p) 43 1 (nI (B + 1))) := (Fr.rf.w (Or.inl rfl)).w (Or.inr ⟨rfl, rfl⟩)
      have v1 : (wI (wI h 44 B p) 43 1 (nI (B + 1))).1 43 1 = nI (B + 1) := by rw [wI_rd, if_pos ⟨rfl, rfl⟩]
      have t1 : ∀ k, (wI (wI h 44 B p) 43 1 (nI (B + 1))).1 44 k = if k = B then p else h.1 44 k := fun k => by
        rw [wI_rd, if_neg (by omega), wI_rd]
        by_cases e : k = B
        · rw [if_pos ⟨rfl, e⟩, if_pos e]
        · rw [if_neg (fun z => e z.2), if_neg e]
      revert F1 v1 t1
      generalize wI (wI h 44 B p) 43 1 (nI (B + 1)) = h1
      intro F1 v1 t1
      have q43 : h1.1 59 43 = nI B := by rw [F1.1 59 43 (by omega)]; exact b3
      unfold fX10_body
      rw [m_isIn, b2_some, e0, e7, if_pos c1, if_neg (by decide), q43, if_neg (by rw [show (50 : Int32) = nI 50 from rfl, nI_eq (by omega) (by omega)]; omega), if_pos (inb_nI (by omega) (by decide)), ix_nI (by omega)]
      have r4 : (wI h1 84 B p).1 59 43 = nI B := by rw [wI_rd, if_neg (by omega)]; exact q43
      have red2 : (letV (wI h1 84 B p) fun h7_ => letV (wI h7_ 59 43 ((h7_.1 59 43) + 1)) fun h9_ => some (((h9_.1 59 43) - 1), h9_)) = some (nI B, wI (wI h1 84 B p) 59 43 (nI (B + 1))) := by
        show some ((wI (wI h1 84 B p) 59 43 ((wI h1 84 B p).1 59 43 + 1)).1 59 43 - 1, wI (wI h1 84 B p) 59 43 ((wI h1 84 B p).1 59 43 + 1)) = _
        rw [r4, nI_1, wI_rd, if_pos ⟨rfl, rfl⟩, ← nI_1]
        simp
      rw [red2]
      refine ok_some ⟨rfl, ?_⟩
      show Inv (wI (wI h1 84 B p) 59 43 (nI (B + 1)))
      have F2 : Fr (fun o k => o = 84 ∨ (o = 59 ∧ k = 43)) h1 (wI (wI h1 84 B p) 59 43 (nI (B + 1))) := (Fr.rf.w (Or.inl rfl)).w (Or.inr ⟨rfl, rfl⟩)
      have v2 : (wI (wI h1 84 B p) 59 43 (nI (B + 1))).1 59 43 = nI (B + 1) := by rw [wI_rd, if_pos ⟨rfl, rfl⟩]
      have t2 : ∀ k, (wI (wI h1 84 B p) 59 43 (nI (B + 1))).1 84 k = if k = B then p else h1.1 84 k := fun k => by
        rw [wI_rd, if_neg (by omega), wI_rd]
        by_cases e : k = B
        · rw [if_pos ⟨rfl, e⟩, if_pos e]
        · rw [if_neg (fun z => e z.2), if_neg e]
      revert F2 v2 t2
      generalize wI (wI h1 84 B p) 59 43 (nI (B + 1)) = h2
      intro F2 v2 t2
      have F : Fr (fun o k => (o = 44 ∨ (o = 43 ∧ k = 1)) ∨ (o = 84 ∨ (o = 59 ∧ k = 43))) h h2 := (F1.mono (fun o k q => Or.inl q)).tr (F2.mono (fun o k q => Or.inr q))
      obtain ⟨oa, ob, oc, od, oe, og, oh, oi, oj, ol⟩ := O
      refine ⟨n, m, B + 1, num, sl, mn, Λ, T.fr F (fun o k q z => by omega), oa.fr F (fun o k q z => by omega), ob.fr F (fun o k q z => by omega), oc.fr (Nat.le_refl n) F (fun o k q z => by omega), od.fr (Nat.le_refl n) (Nat.le_refl m) F (fun o k q z => by omega), ⟨by omega, by rw [F2.1 43 1 (by omega)]; exact v1, v2, fun i hi => ?_, ⟨R, r1, (F.1 43 3 (by omega)).trans r2, (F.1 59 45 (by omega)).trans r3⟩, fun i hi => ?_⟩, fun s hs => (og s hs).fr (Nat.le_succ B) hs F (fun o k q z => by omega), oh.fr F (fun o k q z => by omega), oi.fr F (fun o k q z => by omega), oj.fr F (fun o k q z => by omega), ol⟩
      · rw [t2 i, F2.1 44 i (by omega), t1 i]
        by_cases e : i = B
        · rw [if_pos e, if_pos e]; exact ⟨rfl, p.toInt.toNat, by omega, ep⟩
        · rw [if_neg e, if_neg e, F1.1 84 i (by omega)]; exact b4 i (by omega)
      · rw [F.1 85 i (by omega), F.1 45 i (by omega)]; exact b6 i hi
    · have hb : ¬ nI B < 50 := by rw [show (50 : Int32) = nI 50 from rfl, nI_ltI (by omega) (by omega)]; exact c2
      refine deed_no (v := -3) T O ?_ ?_
      · unfold fX9_body
        rw [c_isKind, b2_some, if_pos c1, if_neg (by decide), b2, if_neg hb]
      · unfold fX10_body
        rw [m_isIn, b2_some, e0, e7, if_pos c1, if_neg (by decide), b3, if_pos (by rw [show B = 50 by omega]; rfl)]
  · refine deed_no (v := -1) T O ?_ ?_
    · unfold fX9_body
      rw [c_isKind, b2_some, if_neg c1, if_pos rfl]
    · unfold fX10_body
      rw [m_isIn, b2_some, e0, e7, if_neg c1, if_pos rfl]
