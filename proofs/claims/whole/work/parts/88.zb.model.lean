/-! the text of a law: the model -/
def Sp (o k : Nat) : Prop := o = 59 ∧ 18 ≤ k ∧ k ≤ 20
def TX (e : Int32 → Int32) (t : Nat → Int32) (L : Nat) (h : AH) : Prop := L ≤ 120 ∧ h.1 59 17 = nI L ∧ (∀ i, i < L → h.1 69 i = t i) ∧ (∀ k, k < 6 → h.1 71 k = mLet.getD k 0) ∧ (∀ k, k < 6 → h.1 70 k = e (mLet.getD k 0))
theorem TX.fr {e : Int32 → Int32} {t : Nat → Int32} {L : Nat} {h h' : AH} (T : TX e t L h) (F : Fr Sp h h') : TX e t L h' := by
  obtain ⟨t0, t1, t2, t3, t4⟩ := T
  refine ⟨t0, ?_, fun i hi => ?_, fun k hk => ?_, fun k hk => ?_⟩
  · rw [F.1 59 17 (by unfold Sp; omega)]; exact t1
  · rw [F.1 69 i (by unfold Sp; omega)]; exact t2 i hi
  · rw [F.1 71 k (by unfold Sp; omega)]; exact t3 k hk
  · rw [F.1 70 k (by unfold Sp; omega)]; exact t4 k hk
def AL (h : AH) (a d : Nat) : Prop := h.1 59 18 = nI a ∧ h.1 59 19 = 1 ∧ h.1 59 20 = nI d
def MD (h : AH) (a : Nat) : Prop := h.1 59 18 = nI a ∧ h.1 59 19 = 0
def PMr (e : Int32 → Int32) (d : Nat) : PR → Int32 × AH → Prop
  | (none, a), q => MD q.2 a
  | (some (_, v), a), q => q.1 = v e ∧ AL q.2 a d
theorem m_at {e : Int32 → Int32} {t : Nat → Int32} {L a d : Nat} {h : AH} (T : TX e t L h) (A : AL h a d) (ha : a ≤ L) (b : Int32) : fX10_isAt b h = some (if a < L ∧ t a = b then 1 else 0, h) := by
  have hL := T.1
  unfold fX10_isAt
  rw [if_neg (by rw [A.2.1]; decide), T.2.1, A.1]
  by_cases c : a < L
  · rw [if_neg (by rw [nI_leI (by omega) (by omega)]; omega), if_pos (inb_nI (by omega) (by decide)), ix_nI (by omega), T.2.2.1 a c]
    by_cases q : t a = b
    · rw [if_pos q, if_pos ⟨c, q⟩]
    · rw [if_neg q, if_neg (fun z => q z.2)]
  · rw [if_pos (by rw [nI_leI (by omega) (by omega)]; omega), if_neg (fun z => c z.1)]
theorem m_at1 {e : Int32 → Int32} {t : Nat → Int32} {L a d : Nat} {h : AH} (T : TX e t L h) (A : AL h a d) (b : Int32) (q : a < L ∧ t a = b) : fX10_isAt b h = some (1, h) := by
  rw [m_at T A (Nat.le_of_lt q.1), if_pos q]
theorem m_atn {e : Int32 → Int32} {t : Nat → Int32} {L a d : Nat} {h : AH} (T : TX e t L h) (A : AL h a d) (ha : a ≤ L) (b : Int32) (q : ¬ (a < L ∧ t a = b)) : fX10_isAt b h = some (0, h) := by
  rw [m_at T A ha, if_neg q]
theorem m_at0 {h : AH} (A : h.1 59 19 = 0) (b : Int32) : fX10_isAt b h = some (0, h) := by
  unfold fX10_isAt
  rw [if_pos A]
theorem m_dg {e : Int32 → Int32} {t : Nat → Int32} {L a d : Nat} {h : AH} (T : TX e t L h) (A : AL h a d) (ha : a ≤ L) : fX10_isDigit h = some (if a < L ∧ isDg (t a) then 1 else 0, h) := by
  have hL := T.1
  unfold fX10_isDigit
  rw [if_neg (by rw [A.2.1]; decide), T.2.1, A.1]
  by_cases c : a < L
  · rw [if_neg (by rw [nI_leI (by omega) (by omega)]; omega), if_pos (inb_nI (by omega) (by decide)), ix_nI (by omega), T.2.2.1 a c, m_isIn, b2_some, show (48 : Int32).toInt = 48 by decide, show (57 : Int32).toInt = 57 by decide]
    by_cases q : 48 ≤ (t a).toInt ∧ (t a).toInt ≤ 57
    · rw [if_pos q, if_neg (by decide), if_pos ⟨c, q⟩]
    · rw [if_neg q, if_pos rfl, if_neg (fun z => q z.2)]
  · rw [if_pos (by rw [nI_leI (by omega) (by omega)]; omega), if_neg (fun z => c z.1)]
theorem m_dg0 {h : AH} (A : h.1 59 19 = 0) : fX10_isDigit h = some (0, h) := by
  unfold fX10_isDigit
  rw [if_pos A]
theorem al_mv {h : AH} {a d : Nat} (A : AL h a d) (a2 : Nat) : AL (wI h 59 18 (nI a2)) a2 d ∧ Fr Sp h (wI h 59 18 (nI a2)) := by
  refine ⟨⟨by rw [wI_rd, if_pos ⟨rfl, rfl⟩], ?_, ?_⟩, Fr.rf.w (by unfold Sp; omega)⟩
  · rw [wI_rd, if_neg (by omega)]; exact A.2.1
  · rw [wI_rd, if_neg (by omega)]; exact A.2.2
theorem m_numb {e : Int32 → Int32} {t : Nat → Int32} {L a d : Nat} {h : AH} (T : TX e t L h) (A : AL h a d) (ha : a ≤ L) : Ok (fX10_number_ h) (fun q => Fr Sp h q.2 ∧ q.1 = (numb t L 4 a 0).1 ∧ AL q.2 (numb t L 4 a 0).2 d) := by
  unfold fX10_number_
  refine L2 (f := fX10_number__4) (b := fX10_number__4_b) (fun _ => rfl) (fun r x1 x2 h' => ∃ c a', c + r = 4 ∧ x2 = nI c ∧ numb t L r a' x1 = numb t L 4 a 0 ∧ AL h' a' d ∧ a' ≤ L ∧ Fr Sp h h') ?_ 4 FU 0 0 h (by unfold FU; omega) ⟨0, a, by omega, rfl, rfl, A, ha, Fr.rf⟩
  rintro r x1 x2 h' ⟨c, a', hc, rfl, en, A', ha', F⟩ Q hQ
  have T' := T.fr F
  have hL := T.1
  unfold fX10_number__4_b
  refine ok_if (fun d1 => ?_) (fun d1 => ?_)
  · rw [show (4 : Int32) = nI 4 from rfl, nI_leI (by omega) (by omega)] at d1
    have r0 : r = 0 := by omega
    subst r0
    have en : (x1, a') = numb t L 4 a 0 := en
    refine ok_some ⟨F, ?_, ?_⟩
    · rw [← en]
    · rw [← en]; exact A'
  · rw [show (4 : Int32) = nI 4 from rfl, nI_leI (by omega) (by omega)] at d1
    obtain ⟨r, rfl⟩ : ∃ r', r = r' + 1 := ⟨r - 1, by omega⟩
    have en : (if a' < L ∧ isDg (t a') then numb t L r (a' + 1) (10 * x1 + t a' - 48) else (x1, a')) = numb t L 4 a 0 := en
    rw [m_dg T' A' ha', b2_some]
    by_cases q : a' < L ∧ isDg (t a')
    · rw [if_pos q] at en ⊢
      refine ok_f (by decide) ?_
      rw [A'.1]
      refine ok_t (inb_nI (by omega) (by decide)) (ok_let (ok_let ?_))
      rw [ix_nI (by omega), T'.2.2.1 a' q.1, nI_1, nI_1]
      obtain ⟨A2, F2⟩ := al_mv A' (a' + 1)
      exact hQ r _ _ _ (by omega) ⟨c + 1, a' + 1, by omega, rfl, en, A2, by omega, F.tr F2⟩
    · rw [if_neg q] at en ⊢
      refine ok_t rfl (ok_some ⟨F, ?_, ?_⟩)
      · rw [← en]
      · rw [← en]; exact A'
/-! a loop of signs -/
theorem m_lp {e : Int32 → Int32} {t : Nat → Int32} {L d w : Nat} {f : Nat → Int32 → AH → Option (Int32 × AH)} {b : (Int32 → AH → Option (Int32 × AH)) → Int32 → AH → Option (Int32 × AH)} {RR : AH → Option (Int32 × AH)} {sub : Nat → PR} (hf : ∀ F, f (F + 1) = b (f F)) (fw : Fwd L sub)
    (hdead : ∀ Q x h, h.1 59 19 = 0 → b Q x h = some (x, h))
    (hno : ∀ Q x h a, TX e t L h → AL h a d → a ≤ L → ¬ (a < L ∧ lev (t a) = w) → b Q x h = some (x, h))
    (hyes : ∀ Q x h a, TX e t L h → AL h a d → a < L → lev (t a) = w → b Q x h = bind2 (RR (wI h 59 18 (nI (a + 1)))) fun r h2 => Q (two (t a) x r) h2)
    (hsub : ∀ h a, TX e t L h → AL h a d → a ≤ L → Ok (RR h) (fun q => Fr Sp h q.2 ∧ PMr e d (sub a) q)) :
    ∀ (n F : Nat) (c : List Int32) (v : Wrt) (a : Nat) (h : AH), n < F → a ≤ L → L < a + n → TX e t L h → AL h a d → Ok (f F (v e) h) (fun q => Fr Sp h q.2 ∧ PMr e d (lp t L sub w n c v a) q)
  | 0, F, c, v, a, h, hF, ha, hn, T, A => by omega
  | n + 1, F, c, v, a, h, hF, ha, hn, T, A => by
    obtain ⟨F, rfl⟩ : ∃ F', F = F' + 1 := ⟨F - 1, by omega⟩
    rw [hf]
    by_cases q : a < L ∧ lev (t a) = w
    · have el : lp t L sub w (n + 1) c v a = onOk (sub (a + 1)) (fun c2 v2 a2 => lp t L sub w n (c ++ (c2 ++ [-t a])) (fun e => two (t a) (v e) (v2 e)) a2) := if_pos q
      rw [el, hyes _ _ _ _ T A q.1 q.2]
      obtain ⟨A2, F2⟩ := al_mv A (a + 1)
      refine ok_b2 (hsub _ (a + 1) (T.fr F2) A2 (by omega)) (fun r h2 hh => ?_)
      obtain ⟨F3, P3⟩ := hh
      have F3 : Fr Sp h h2 := F2.tr F3
      rcases hs : sub (a + 1) with ⟨_ | ⟨c2, v2⟩, a2⟩
      · rw [hs] at P3
        have P3 : MD h2 a2 := P3
        obtain ⟨F, rfl⟩ : ∃ F', F = F' + 1 := ⟨F - 1, by omega⟩
        rw [hf, hdead _ _ _ P3.2]
        exact ok_some ⟨F3, P3⟩
      · rw [hs] at P3
        obtain ⟨e3, A3⟩ := P3
        have e3 : r = v2 e := e3
        have A3 : AL h2 a2 d := A3
        have := fw _ _ _ _ hs
        rw [e3]
        exact ok_mono (m_lp hf fw hdead hno hyes hsub n F (c ++ (c2 ++ [-t a])) (fun e => two (t a) (v e) (v2 e)) a2 h2 (by omega) (by omega) (by omega) (T.fr F3) A3) (fun q hq => ⟨F3.tr hq.1, hq.2⟩)
    · have el : lp t L sub w (n + 1) c v a = (some (c, v), a) := if_neg q
      rw [el, hno _ _ _ _ T A ha q]
      exact ok_some ⟨Fr.rf, rfl, A⟩
theorem lev_1 {b : Int32} : lev b = 1 ↔ b = 42 ∨ b = 47 ∨ b = 37 := by
  refine ⟨fun h => ?_, fun h => ?_⟩
  · rcases lev_cs (b := b) (by omega) with rfl | rfl | rfl | rfl | rfl | rfl | rfl | rfl | rfl | rfl <;> first | decide | exact absurd h (by decide)
  · rcases h with rfl | rfl | rfl <;> decide
theorem lev_2 {b : Int32} : lev b = 2 ↔ b = 43 ∨ b = 45 := by
  refine ⟨fun h => ?_, fun h => ?_⟩
  · rcases lev_cs (b := b) (by omega) with rfl | rfl | rfl | rfl | rfl | rfl | rfl | rfl | rfl | rfl <;> first | decide | exact absurd h (by decide)
  · rcases h with rfl | rfl <;> decide
theorem lev_3 {b : Int32} : lev b = 3 ↔ b = 60 ∨ b = 61 ∨ b = 62 := by
  refine ⟨fun h => ?_, fun h => ?_⟩
  · rcases lev_cs (b := b) (by omega) with rfl | rfl | rfl | rfl | rfl | rfl | rfl | rfl | rfl | rfl <;> first | decide | exact absurd h (by decide)
  · rcases h with rfl | rfl | rfl <;> decide
theorem lev_4 {b : Int32} : lev b = 4 ↔ b = 38 := by
  refine ⟨fun h => ?_, fun h => ?_⟩
  · rcases lev_cs (b := b) (by omega) with rfl | rfl | rfl | rfl | rfl | rfl | rfl | rfl | rfl | rfl <;> first | decide | exact absurd h (by decide)
  · rw [h]; decide
theorem lev_5 {b : Int32} : lev b = 5 ↔ b = 124 := by
  refine ⟨fun h => ?_, fun h => ?_⟩
  · rcases lev_cs (b := b) (by omega) with rfl | rfl | rfl | rfl | rfl | rfl | rfl | rfl | rfl | rfl <;> first | decide | exact absurd h (by decide)
  · rw [h]; decide
/-! the four loops, a step of each -/
theorem p_dead (RR : Nat → List Int32 → AH → Option (Int32 × AH)) (Q : Int32 → AH → Option (Int32 × AH)) (x : Int32) (h : AH) (A : h.1 59 19 = 0) : fX10_product_5_b RR Q x h = some (x, h) := by
  unfold fX10_product_5_b
  rw [m_at0 A, b2_some, if_pos rfl, m_at0 A, b2_some, if_pos rfl, m_at0 A, b2_some, if_pos rfl]
theorem p_no {e : Int32 → Int32} {t : Nat → Int32} {L d : Nat} (RR : Nat → List Int32 → AH → Option (Int32 × AH)) (Q : Int32 → AH → Option (Int32 × AH)) (x : Int32) (h : AH) (a : Nat) (T : TX e t L h) (A : AL h a d) (ha : a ≤ L) (q : ¬ (a < L ∧ lev (t a) = 1)) : fX10_product_5_b RR Q x h = some (x, h) := by
  rw [lev_1] at q
  unfold fX10_product_5_b
  rw [m_atn T A ha 42 (fun z => q ⟨z.1, Or.inl z.2⟩), b2_some, if_pos rfl, m_atn T A ha 47 (fun z => q ⟨z.1, Or.inr (Or.inl z.2)⟩), b2_some, if_pos rfl, m_atn T A ha 37 (fun z => q ⟨z.1, Or.inr (Or.inr z.2)⟩), b2_some, if_pos rfl]
theorem p_yes {e : Int32 → Int32} {t : Nat → Int32} {L d : Nat} (RR : Nat → List Int32 → AH → Option (Int32 × AH)) (Q : Int32 → AH → Option (Int32 × AH)) (x : Int32) (h : AH) (a : Nat) (T : TX e t L h) (A : AL h a d) (ha : a < L) (q : lev (t a) = 1) : fX10_product_5_b RR Q x h = bind2 (RR 0 [] (wI h 59 18 (nI (a + 1)))) fun r h2 => Q (two (t a) x r) h2 := by
  have hL := T.1
  have q' := lev_1.1 q
  have e32 : fX10_product_32 RR Q x h = bind2 (RR 0 [] (wI h 59 18 (nI (a + 1)))) fun r h2 => Q (two (t a) x r) h2 := by
    unfold fX10_product_32
    rw [A.1, if_pos (inb_nI (by omega) (by decide)), let_eq, let_eq, ix_nI (by omega), T.2.2.1 a ha, nI_1]
    congr 1
    funext r h2
    rcases q' with z | z | z
    · rw [z, if_pos rfl]; rfl
    · rw [z, if_neg (by decide)]
      by_cases r0 : r = 0
      · rw [if_pos r0, r0]; rfl
      · rw [if_neg r0, if_pos rfl, if_neg r0, let_eq]
        show _ = Q (if r = 0 then 0 else x / r) h2
        rw [if_neg r0]
    · rw [z, if_neg (by decide)]
      by_cases r0 : r = 0
      · rw [if_pos r0, r0]; rfl
      · rw [if_neg r0, if_neg (by decide), if_neg r0, let_eq]
        show _ = Q (if r = 0 then 0 else jrem x r) h2
        rw [if_neg r0]
  unfold fX10_product_5_b
  rcases q' with z | z | z
  · rw [m_at1 T A 42 ⟨ha, z⟩, b2_some, if_neg (by decide), e32]
  · rw [m_atn T A (by omega) 42 (fun y => by rw [z] at y; exact absurd y.2 (by decide)), b2_some, if_pos rfl, m_at1 T A 47 ⟨ha, z⟩, b2_some, if_neg (by decide), e32]
  · rw [m_atn T A (by omega) 42 (fun y => by rw [z] at y; exact absurd y.2 (by decide)), b2_some, if_pos rfl, m_atn T A (by omega) 47 (fun y => by rw [z] at y; exact absurd y.2 (by decide)), b2_some, if_pos rfl, m_at1 T A 37 ⟨ha, z⟩, b2_some, if_neg (by decide), e32]
theorem s_dead (RR : Nat → List Int32 → AH → Option (Int32 × AH)) (Q : Int32 → AH → Option (Int32 × AH)) (x : Int32) (h : AH) (A : h.1 59 19 = 0) : fX10_total_5_b RR Q x h = some (x, h) := by
  unfold fX10_total_5_b
  rw [m_at0 A, b2_some, if_pos rfl, m_at0 A, b2_some, if_pos rfl]
theorem s_no {e : Int32 → Int32} {t : Nat → Int32} {L d : Nat} (RR : Nat → List Int32 → AH → Option (Int32 × AH)) (Q : Int32 → AH → Option (Int32 × AH)) (x : Int32) (h : AH) (a : Nat) (T : TX e t L h) (A : AL h a d) (ha : a ≤ L) (q : ¬ (a < L ∧ lev (t a) = 2)) : fX10_total_5_b RR Q x h = some (x, h) := by
  rw [lev_2] at q
  unfold fX10_total_5_b
  rw [m_atn T A ha 43 (fun z => q ⟨z.1, Or.inl z.2⟩), b2_some, if_pos rfl, m_atn T A ha 45 (fun z => q ⟨z.1, Or.inr z.2⟩), b2_some, if_pos rfl]
theorem s_yes {e : Int32 → Int32} {t : Nat → Int32} {L d : Nat} (RR : Nat → List Int32 → AH → Option (Int32 × AH)) (Q : Int32 → AH → Option (Int32 × AH)) (x : Int32) (h : AH) (a : Nat) (T : TX e t L h) (A : AL h a d) (ha : a < L) (q : lev (t a) = 2) : fX10_total_5_b RR Q x h = bind2 (RR 1 [] (wI h 59 18 (nI (a + 1)))) fun r h2 => Q (two (t a) x r) h2 := by
  have hL := T.1
  have q' := lev_2.1 q
  have e23 : fX10_total_23 RR Q x h = bind2 (RR 1 [] (wI h 59 18 (nI (a + 1)))) fun r h2 => Q (two (t a) x r) h2 := by
    unfold fX10_total_23
    rcases q' with z | z
    · rw [m_at1 T A 43 ⟨ha, z⟩, b2_some, let_eq, A.1, nI_1]
      congr 1
      funext r h2
      rw [if_neg (by decide), z]; rfl
    · rw [m_atn T A (by omega) 43 (fun y => by rw [z] at y; exact absurd y.2 (by decide)), b2_some, let_eq, A.1, nI_1]
      congr 1
      funext r h2
      rw [if_pos rfl, z]; rfl
  unfold fX10_total_5_b
  rcases q' with z | z
  · rw [m_at1 T A 43 ⟨ha, z⟩, b2_some, if_neg (by decide), e23]
  · rw [m_atn T A (by omega) 43 (fun y => by rw [z] at y; exact absurd y.2 (by decide)), b2_some, if_pos rfl, m_at1 T A 45 ⟨ha, z⟩, b2_some, if_neg (by decide), e23]
theorem b_dead (RR : Nat → List Int32 → AH → Option (Int32 × AH)) (Q : Int32 → AH → Option (Int32 × AH)) (x : Int32) (h : AH) (A : h.1 59 19 = 0) : fX10_both_5_b RR Q x h = some (x, h) := by
  unfold fX10_both_5_b
  rw [m_at0 A, b2_some, if_pos rfl]
theorem b_no {e : Int32 → Int32} {t : Nat → Int32} {L d : Nat} (RR : Nat → List Int32 → AH → Option (Int32 × AH)) (Q : Int32 → AH → Option (Int32 × AH)) (x : Int32) (h : AH) (a : Nat) (T : TX e t L h) (A : AL h a d) (ha : a ≤ L) (q : ¬ (a < L ∧ lev (t a) = 4)) : fX10_both_5_b RR Q x h = some (x, h) := by
  rw [lev_4] at q
  unfold fX10_both_5_b
  rw [m_atn T A ha _ q, b2_some, if_pos rfl]
theorem b_yes {e : Int32 → Int32} {t : Nat → Int32} {L d : Nat} (RR : Nat → List Int32 → AH → Option (Int32 × AH)) (Q : Int32 → AH → Option (Int32 × AH)) (x : Int32) (h : AH) (a : Nat) (T : TX e t L h) (A : AL h a d) (ha : a < L) (q : lev (t a) = 4) : fX10_both_5_b RR Q x h = bind2 (RR 3 [] (wI h 59 18 (nI (a + 1)))) fun r h2 => Q (two (t a) x r) h2 := by
  have z := lev_4.1 q
  unfold fX10_both_5_b
  rw [m_at1 T A _ ⟨ha, z⟩, b2_some, if_neg (by decide), let_eq, A.1, nI_1]
  congr 1
  funext r h2
  rw [z]
  show _ = Q (if x = 0 then 0 else if r = 0 then 0 else 1) h2
  by_cases x0 : x = 0
  · rw [if_pos x0, if_pos x0]
  · rw [if_neg x0, if_neg x0]
    by_cases r0 : r = 0
    · rw [if_pos r0, if_pos r0]
    · rw [if_neg r0, if_neg r0]
theorem o_dead (RR : Nat → List Int32 → AH → Option (Int32 × AH)) (Q : Int32 → AH → Option (Int32 × AH)) (x : Int32) (h : AH) (A : h.1 59 19 = 0) : fX10_any_5_b RR Q x h = some (x, h) := by
  unfold fX10_any_5_b
  rw [m_at0 A, b2_some, if_pos rfl]
theorem o_no {e : Int32 → Int32} {t : Nat → Int32} {L d : Nat} (RR : Nat → List Int32 → AH → Option (Int32 × AH)) (Q : Int32 → AH → Option (Int32 × AH)) (x : Int32) (h : AH) (a : Nat) (T : TX e t L h) (A : AL h a d) (ha : a ≤ L) (q : ¬ (a < L ∧ lev (t a) = 5)) : fX10_any_5_b RR Q x h = some (x, h) := by
  rw [lev_5] at q
  unfold fX10_any_5_b
  rw [m_atn T A ha _ q, b2_some, if_pos rfl]
theorem o_yes {e : Int32 → Int32} {t : Nat → Int32} {L d : Nat} (RR : Nat → List Int32 → AH → Option (Int32 × AH)) (Q : Int32 → AH → Option (Int32 × AH)) (x : Int32) (h : AH) (a : Nat) (T : TX e t L h) (A : AL h a d) (ha : a < L) (q : lev (t a) = 5) : fX10_any_5_b RR Q x h = bind2 (RR 4 [] (wI h 59 18 (nI (a + 1)))) fun r h2 => Q (two (t a) x r) h2 := by
  have z := lev_5.1 q
  unfold fX10_any_5_b
  rw [m_at1 T A _ ⟨ha, z⟩, b2_some, if_neg (by decide), let_eq, A.1, nI_1]
  congr 1
  funext r h2
  rw [z]
  show _ = Q (if x = 0 then (if r = 0 then 0 else 1) else 1) h2
  by_cases x0 : x = 0
  · rw [if_pos x0, if_pos x0]
    by_cases r0 : r = 0
    · rw [if_pos r0, if_pos r0]
    · rw [if_neg r0, if_neg r0]
  · rw [if_neg x0, if_neg x0]
