/-! act -/
def ZA (o k : Nat) : Prop := ((o = 43 ∧ k = 3) ∨ o = 45) ∨ ((o = 59 ∧ k = 45) ∨ o = 85)
theorem act_inv {h h' : AH} {n m B R : Nat} {num sl : Nat → Nat → Int32} {mn : Int32} {Λ : LawF} (T : TI h n m num sl mn) (O : Oth h n m B Λ) (F : Fr ZA h h') (hR : R ≤ 1000) (r2 : h'.1 43 3 = nI R) (r3 : h'.1 59 45 = nI R) (r4 : ∀ i, i < 24 → h'.1 85 i = h'.1 45 i) : Inv h' := by
  obtain ⟨oa, ob, oc, od, oe, og, oh, oi, oj, ol⟩ := O
  obtain ⟨b1, b2, b3, b4, _, b6⟩ := oe
  refine ⟨n, m, B, num, sl, mn, Λ, T.fr F (fun o k q z => by unfold ZA at z; omega), oa.fr F (fun o k q z => by unfold ZA at z; omega), ob.fr F (fun o k q z => by unfold ZA at z; omega), oc.fr (Nat.le_refl n) F (fun o k q z => by unfold ZA at z; omega), od.fr (Nat.le_refl n) (Nat.le_refl m) F (fun o k q z => by unfold ZA at z; omega), ⟨b1, ?_, ?_, fun i hi => ?_, ⟨R, hR, r2, r3⟩, r4⟩, fun s hs => (og s hs).fr (Nat.le_refl B) hs F (fun o k q z => by unfold ZA at z; omega), oh.fr F (fun o k q z => by unfold ZA at z; omega), oi.fr F (fun o k q z => by unfold ZA at z; omega), oj.fr F (fun o k q z => by unfold ZA at z; omega), ol⟩
  · rw [F.1 43 1 (by unfold ZA; omega)]; exact b2
  · rw [F.1 59 43 (by unfold ZA; omega)]; exact b3
  · rw [F.1 84 i (by unfold ZA; omega), F.1 44 i (by unfold ZA; omega)]; exact b4 i hi
theorem op_act (p0 p1 p2 : Int32) : Sim (fX9_act p0 p1 p2) (fX10_act p0 p1 p2) := by
  have e0 : (0 : Int32).toInt = 0 := by decide
  have e3 : (3 : Int32).toInt = 3 := by decide
  have e4 : (4 : Int32).toInt = 4 := by decide
  refine sim_of (fun n m B num sl mn Λ h T O => ?_)
  obtain ⟨b1, b2, b3, b4, b5, b6⟩ := O.2.2.2.2.1
  obtain ⟨_, _, q82, q83⟩ := O.2.2.2.2.2.2.1
  unfold fX9_act fX1_perform
  have g43 : (wI h 43 3 0).1 43 1 = nI B := by rw [wI_rd, if_neg (by omega)]; exact b2
  by_cases c : (0 ≤ p0.toInt ∧ p0.toInt < B) ∧ 0 ≤ p1.toInt ∧ p1.toInt ≤ 3
  · obtain ⟨ep, _⟩ := nI_of_rg (p := p0) (a := B) c.1.1 (by omega) (by omega)
    have hp : p0.toInt.toNat < B := by omega
    obtain ⟨ea, _⟩ := nI_of_rg (p := p1) (a := 4) c.2.1 (by omega) (by decide)
    have ha : p1.toInt.toNat < 4 := by omega
    obtain ⟨e84, bk, hbk, e44⟩ := b4 _ hp
    have G1 : Ok (bind2 (letV (wI h 43 3 0) fun h1_ => bind2 (fX1_hasBody p0 h1_) fun r3_ h4_ => if r3_ = 0 then some (0, h4_) else if p1 < 0 then some (0, h4_) else if p1 < 4 then bind2 (RGH 50 1 [p0, p1, p2, 0] h4_) fun r9_ h10_ => some (r9_, h10_) else some (0, h4_)) fun r1_ h2_ => some (r1_, h2_)) (fun q => q.1 = actV 6 bk p0 bk p1.toInt.toNat p2 ∧ TrR 43 3 45 (wI h 43 3 0) q.2 0 (codA 6 bk bk p1.toInt.toNat)) := by
      refine ok_b2 (Q := fun (q : Int32 × AH) => q.1 = actV 6 bk p0 bk p1.toInt.toNat p2 ∧ TrR 43 3 45 (wI h 43 3 0) q.2 0 (codA 6 bk bk p1.toInt.toNat)) (ok_let ?_) (fun v h2 hh => ok_some hh)
      rw [c_hasBody g43 b1, b2_some, if_pos c.1]
      refine ok_f (by decide) (ok_f (by rw [i_lt, e0]; omega) (ok_t (by rw [i_lt, e4]; omega) ?_))
      refine ok_b2 (Q := fun (q : Int32 × AH) => q.1 = actV 6 bk p0 bk p1.toInt.toNat p2 ∧ TrR 43 3 45 (wI h 43 3 0) q.2 0 (codA 6 bk bk p1.toInt.toNat)) ?_ (fun v h2 hh => ok_some hh)
      have := c_own (f := 6) (bk := bk) (b := p0.toInt.toNat) (N := 50) (D := 0) (R := 0) (a := p1.toInt.toNat) (x := p2) (h := wI h 43 3 0) (c_run (by omega) hbk 6) (by omega) hbk (by omega) (by omega) (by have := cod_ok bk hbk _ ha; omega) ha (dep_ok bk hbk _ ha) (by rw [wI_rd, if_neg (by omega)]; exact e44) (by rw [wI_rd, if_pos ⟨rfl, rfl⟩]; rfl)
      rw [← ep, ← ea] at this
      exact this
    refine ok_mono G1 (fun q1 hq1 => ?_)
    obtain ⟨v1, h1⟩ := q1
    obtain ⟨ev1, t1⟩ := hq1
    have ev1 : v1 = actV 6 bk p0 bk p1.toInt.toNat p2 := ev1
    have t1 : TrR 43 3 45 (wI h 43 3 0) h1 0 (codA 6 bk bk p1.toInt.toNat) := t1
    have F1 : Fr (fun o k => (o = 43 ∧ k = 3) ∨ o = 45) h h1 := ((Fr.rf (S := fun o k => (o = 43 ∧ k = 3) ∨ o = 45) (h := h)).w (Or.inl ⟨rfl, rfl⟩)).tr t1.2.2
    show Ok (fX10_act p0 p1 p2 h1) _
    unfold fX10_act
    refine ok_let ?_
    have g59 : (wI h1 59 45 0).1 59 43 = nI B := by rw [wI_rd, if_neg (by omega), F1.1 59 43 (by omega)]; exact b3
    rw [m_isIn, b2_some, g59, e0, sub1_toInt (by omega), if_pos (show 0 ≤ p0.toInt ∧ p0.toInt ≤ (B : Int) - 1 by omega)]
    refine ok_f (by decide) ?_
    rw [m_isIn, b2_some, e0, e3, if_pos c.2]
    refine ok_f (by decide) ?_
    have G2 : Ok (RGK 20 1 [p0, p1, p2] (wI h1 59 45 0)) (fun q => q.1 = actV 6 bk p0 bk p1.toInt.toNat p2 ∧ TrR 59 45 85 (wI h1 59 45 0) q.2 0 (codA 6 bk bk p1.toInt.toNat)) := by
      have := m_own (f := 6) (bk := bk) (b := p0.toInt.toNat) (N := 20) (R := 0) (a := p1.toInt.toNat) (x := p2) (h := wI h1 59 45 0) (m_run (by omega) hbk 6) (by omega) hbk (by omega) (by have := cod_ok bk hbk _ ha; omega) ha (dep_ok bk hbk _ ha) (by rw [wI_rd, if_neg (by omega), F1.1 84 _ (by omega), e84]; exact e44) ⟨fun k hk => by rw [wI_rd, if_neg (by omega), F1.1 82 k (by omega)]; exact q82 k hk, fun k hk => by rw [wI_rd, if_neg (by omega), F1.1 83 k (by omega)]; exact q83 k hk⟩ (by rw [wI_rd, if_pos ⟨rfl, rfl⟩]; rfl)
      rw [← ep, ← ea] at this
      exact this
    refine ok_b2 G2 (fun v2 h2 hq2 => ok_some ?_)
    obtain ⟨ev2, t2⟩ := hq2
    have ev2 : v2 = actV 6 bk p0 bk p1.toInt.toNat p2 := ev2
    have t2 : TrR 59 45 85 (wI h1 59 45 0) h2 0 (codA 6 bk bk p1.toInt.toNat) := t2
    have F2 : Fr (fun o k => (o = 59 ∧ k = 45) ∨ o = 85) h1 h2 := ((Fr.rf (S := fun o k => (o = 59 ∧ k = 45) ∨ o = 85) (h := h1)).w (Or.inl ⟨rfl, rfl⟩)).tr t2.2.2
    have hc := cod_ok bk hbk _ ha
    have F : Fr ZA h h2 := (F1.mono (fun o k q => Or.inl q)).tr (F2.mono (fun o k q => Or.inr q))
    refine ⟨by show v1 = v2; rw [ev1, ev2], act_inv (R := (codA 6 bk bk p1.toInt.toNat).length) T O F (by omega) ?_ ?_ (fun i hi => ?_)⟩
    · show h2.1 43 3 = _
      rw [F2.1 43 3 (by omega), t1.1, Nat.zero_add]
    · show h2.1 59 45 = _
      rw [t2.1, Nat.zero_add]
    · show h2.1 85 i = h2.1 45 i
      rw [F2.1 45 i (by omega), t2.2.1 i hi, t1.2.1 i hi, wI_rd, if_neg (show ¬ (85 = 59 ∧ i = 45) by omega), wI_rd, if_neg (show ¬ (45 = 43 ∧ i = 3) by omega), F1.1 85 i (by omega), b6 i hi]
  · have G1 : (bind2 (letV (wI h 43 3 0) fun h1_ => bind2 (fX1_hasBody p0 h1_) fun r3_ h4_ => if r3_ = 0 then some (0, h4_) else if p1 < 0 then some (0, h4_) else if p1 < 4 then bind2 (RGH 50 1 [p0, p1, p2, 0] h4_) fun r9_ h10_ => some (r9_, h10_) else some (0, h4_)) fun r1_ h2_ => some (r1_, h2_)) = some (0, wI h 43 3 0) := by
      rw [let_eq, c_hasBody g43 b1, b2_some]
      by_cases c1 : 0 ≤ p0.toInt ∧ p0.toInt < B
      · rw [if_pos c1, if_neg (by decide)]
        by_cases c2 : p1 < 0
        · rw [if_pos c2, b2_some]
        · rw [if_neg c2, if_neg (by rw [i_lt, e0] at c2; rw [i_lt, e4]; omega), b2_some]
      · rw [if_neg c1, if_pos rfl, b2_some]
    rw [G1]
    refine ok_some ?_
    show Ok (fX10_act p0 p1 p2 (wI h 43 3 0)) _
    unfold fX10_act
    refine ok_let ?_
    have g59 : (wI (wI h 43 3 0) 59 45 0).1 59 43 = nI B := by rw [wI_rd, if_neg (by omega), wI_rd, if_neg (by omega)]; exact b3
    have fin : Inv (wI (wI h 43 3 0) 59 45 0) := by
      refine act_inv (R := 0) T O ((Fr.rf.w (Or.inl (Or.inl ⟨rfl, rfl⟩))).w (Or.inr (Or.inl ⟨rfl, rfl⟩))) (by omega) ?_ ?_ (fun i hi => ?_)
      · rw [wI_rd, if_neg (by omega), wI_rd, if_pos ⟨rfl, rfl⟩]; rfl
      · rw [wI_rd, if_pos ⟨rfl, rfl⟩]; rfl
      · rw [wI_rd, if_neg (by omega), wI_rd, if_neg (by omega), wI_rd, if_neg (by omega), wI_rd, if_neg (by omega)]; exact b6 i hi
    rw [m_isIn, b2_some, g59, e0, sub1_toInt (by omega)]
    by_cases c1 : 0 ≤ p0.toInt ∧ p0.toInt ≤ (B : Int) - 1
    · rw [if_pos c1]
      refine ok_f (by decide) ?_
      rw [m_isIn, b2_some, e0, e3, if_neg (fun z => c ⟨by omega, z⟩)]
      exact ok_t rfl (ok_some ⟨rfl, fin⟩)
    · rw [if_neg c1]
      exact ok_t rfl (ok_some ⟨rfl, fin⟩)
