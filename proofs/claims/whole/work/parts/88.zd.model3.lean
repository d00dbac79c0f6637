theorem m_opn {h : AH} {a d : Nat} (A : AL h a d) (hd : d < 6) (ha : a ≤ 120) : Ok (fX10_opens h) (fun q => q.1 = 1 ∧ AL q.2 (a + 1) (d + 1) ∧ Fr Sp h q.2) := by
  unfold fX10_opens
  rw [A.2.2]
  refine ok_f (by rw [show (6 : Int32) = nI 6 from rfl, nI_leI (by omega) (by omega)]; omega) ?_
  unfold fX10_opens_15
  refine ok_t (by decide) (ok_let ?_)
  have v19 : (wI h 59 19 1).1 59 19 = 1 := by rw [wI_rd, if_pos ⟨rfl, rfl⟩]
  have v20 : (wI h 59 19 1).1 59 20 = nI d := by rw [wI_rd, if_neg (by omega)]; exact A.2.2
  rw [v19, v20]
  refine ok_f (by decide) (ok_let (ok_let ?_))
  rw [nI_1]
  have w18 : (wI (wI h 59 19 1) 59 20 (nI (d + 1))).1 59 18 = nI a := by rw [wI_rd, if_neg (by omega), wI_rd, if_neg (by omega)]; exact A.1
  rw [w18, nI_1]
  unfold fX10_opens_45
  have w19 : (wI (wI (wI h 59 19 1) 59 20 (nI (d + 1))) 59 18 (nI (a + 1))).1 59 19 = 1 := by rw [wI_rd, if_neg (by omega), wI_rd, if_neg (by omega)]; exact v19
  rw [w19]
  refine ok_t (by decide) (ok_some ⟨rfl, ⟨?_, w19, ?_⟩, ((Fr.rf.w (by unfold Sp; omega)).w (by unfold Sp; omega)).w (by unfold Sp; omega)⟩)
  · show (wI (wI (wI h 59 19 1) 59 20 (nI (d + 1))) 59 18 (nI (a + 1))).1 59 18 = _
    rw [wI_rd, if_pos ⟨rfl, rfl⟩]
  · show (wI (wI (wI h 59 19 1) 59 20 (nI (d + 1))) 59 18 (nI (a + 1))).1 59 20 = _
    rw [wI_rd, if_neg (by omega), wI_rd, if_pos ⟨rfl, rfl⟩]
theorem m_opn6 {h : AH} {a : Nat} (A : AL h a 6) : Ok (fX10_opens h) (fun q => q.1 = 0 ∧ MD q.2 a ∧ Fr Sp h q.2) := by
  unfold fX10_opens
  rw [A.2.2]
  refine ok_t (by decide) ?_
  unfold fX10_opens_15
  refine ok_t (by decide) (ok_let ?_)
  have v19 : (wI h 59 19 0).1 59 19 = 0 := by rw [wI_rd, if_pos ⟨rfl, rfl⟩]
  rw [v19]
  refine ok_t rfl ?_
  unfold fX10_opens_45
  rw [v19]
  refine ok_t (by decide) (ok_some ⟨rfl, ⟨?_, v19⟩, Fr.rf.w (by unfold Sp; omega)⟩)
  show (wI h 59 19 0).1 59 18 = _
  rw [wI_rd, if_neg (by omega)]
  exact A.1
theorem nm_mLet {b : Int32} : isNm b ↔ ∃ k, k < 6 ∧ b = mLet.getD k 0 := by
  refine ⟨fun h => ?_, fun h => ?_⟩
  · rcases h with h | h | h | h | h | h
    · exact ⟨0, by omega, h⟩
    · exact ⟨1, by omega, h⟩
    · exact ⟨2, by omega, h⟩
    · exact ⟨3, by omega, h⟩
    · exact ⟨4, by omega, h⟩
    · exact ⟨5, by omega, h⟩
  · obtain ⟨k, hk, e⟩ := h
    rw [e]
    have : ∀ k, k < 6 → isNm (mLet.getD k 0) := by decide
    exact this k hk
theorem m_nm {e : Int32 → Int32} {t : Nat → Int32} {L a d : Nat} {h : AH} (RR : Nat → List Int32 → AH → Option (Int32 × AH)) (T : TX e t L h) (A : AL h a d) (ha : a ≤ L) : Ok (fX10_one_148 RR FU 0 h) (fun q => Fr Sp h q.2 ∧ PMr e d (if a < L ∧ isNm (t a) then (some ([-t a], fun e => e (t a)), a + 1) else (none, a)) q) := by
  have hL := T.1
  refine L1 (f := fX10_one_148 RR) (b := fX10_one_148_b RR) (fun _ => rfl) (fun r x h' => ∃ c, c + r = 6 ∧ x = nI c ∧ h' = h ∧ ∀ k, k < c → ¬ (a < L ∧ t a = mLet.getD k 0)) ?_ 6 FU 0 h (by unfold FU; omega) ⟨0, by omega, rfl, rfl, fun k hk => absurd hk (Nat.not_lt_zero k)⟩
  rintro r x h' ⟨c, hc, rfl, rfl, hk⟩ Q hQ
  unfold fX10_one_148_b
  refine ok_if (fun d1 => ?_) (fun d1 => ?_)
  · rw [show (6 : Int32) = nI 6 from rfl, nI_leI (by omega) (by omega)] at d1
    have no : ¬ (a < L ∧ isNm (t a)) := fun z => by
      obtain ⟨k, k1, k2⟩ := nm_mLet.1 z.2
      exact hk k (by omega) ⟨z.1, k2⟩
    rw [if_neg no]
    refine ok_let (ok_some ⟨Fr.rf.w (by unfold Sp; omega), ?_, ?_⟩)
    · show (wI h' 59 19 0).1 59 18 = _
      rw [wI_rd, if_neg (by omega)]; exact A.1
    · show (wI h' 59 19 0).1 59 19 = _
      rw [wI_rd, if_pos ⟨rfl, rfl⟩]
  · rw [show (6 : Int32) = nI 6 from rfl, nI_leI (by omega) (by omega)] at d1
    refine ok_t (inb_nI (by omega) (by decide)) ?_
    rw [ix_nI (by omega), T.2.2.2.1 c (by omega)]
    by_cases q : a < L ∧ t a = mLet.getD c 0
    · rw [m_at1 T A _ q, b2_some]
      refine ok_f (by decide) (ok_let ?_)
      rw [A.1, nI_1]
      obtain ⟨A2, F2⟩ := al_mv A (a + 1)
      have yes : a < L ∧ isNm (t a) := ⟨q.1, nm_mLet.2 ⟨c, by omega, q.2⟩⟩
      rw [if_pos yes]
      refine ok_some ⟨F2, ?_, A2⟩
      show (wI h' 59 18 (nI (a + 1))).1 70 c = e (t a)
      rw [wI_rd, if_neg (by omega), T.2.2.2.2 c (by omega), q.2]
    · rw [m_atn T A ha _ q, b2_some]
      refine ok_t rfl ?_
      rw [nI_1]
      refine hQ (r - 1) _ _ (by omega) ⟨c + 1, by omega, rfl, rfl, fun k hk2 => ?_⟩
      by_cases z : k = c
      · rw [z]; exact q
      · exact hk k (by omega)
theorem al_dn {h : AH} {a d : Nat} (A : AL h a (d + 1)) (hd : d < 100) : AL (wI h 59 20 (h.1 59 20 - 1)) a d ∧ Fr Sp h (wI h 59 20 (h.1 59 20 - 1)) := by
  refine ⟨⟨?_, ?_, ?_⟩, Fr.rf.w (by unfold Sp; omega)⟩
  · rw [wI_rd, if_neg (by omega)]; exact A.1
  · rw [wI_rd, if_neg (by omega)]; exact A.2.1
  · rw [wI_rd, if_pos ⟨rfl, rfl⟩, A.2.2, nI_s1 (by omega)]
theorem md_dn {h : AH} {a : Nat} {x : Int32} (A : MD h a) : MD (wI h 59 20 x) a ∧ Fr Sp h (wI h 59 20 x) := by
  refine ⟨⟨?_, ?_⟩, Fr.rf.w (by unfold Sp; omega)⟩
  · rw [wI_rd, if_neg (by omega)]; exact A.1
  · rw [wI_rd, if_neg (by omega)]; exact A.2
theorem m_oneB {e : Int32 → Int32} {t : Nat → Int32} {L : Nat} (hL : L ≤ 120) (g : Nat) (hg : g ≤ 6) (o : Option (Nat → PR)) (ho : (o = none ∧ g = 0) ∨ ∃ g', g = g' + 1 ∧ o = some (one t L g') ∧ MLw e t L g' 0) (N a : Nat) (h : AH) (hN : 6 * g ≤ N) (T : TX e t L h) (A : AL h a (6 - g)) (ha : a ≤ L) : Ok (fX10_one (RGP N) h) (fun q => Fr Sp h q.2 ∧ PMr e (6 - g) (oneB t L o a) q) := by
  unfold fX10_one oneB
  rw [m_dg T A ha, b2_some]
  by_cases c1 : a < L ∧ isDg (t a)
  · rw [if_pos c1, if_pos c1.1, if_pos c1.2]
    refine ok_f (by decide) (ok_b2 (m_numb T A ha) (fun r h2 hh => ok_some ⟨hh.1, hh.2.1, hh.2.2⟩))
  rw [if_neg c1]
  refine ok_t rfl ?_
  -- a sign before one
  have pre : ∀ (x : Int32), a < L → (t a = 33 ∨ t a = 45) → Ok (fX10_one_32 (RGP N) 0 h) (fun q => Fr Sp h q.2 ∧ PMr e (6 - g) (preB t a o) q) := by
    intro x hal c2
    unfold fX10_one_32
    have e9 : fX10_isAt 33 h = some (if t a = 33 then 1 else 0, h) := by
      rw [m_at T A ha]
      by_cases z : t a = 33
      · rw [if_pos z, if_pos ⟨hal, z⟩]
      · rw [if_neg z, if_neg (fun y => z y.2)]
    rw [e9, b2_some]
    rcases ho with ⟨rfl, rfl⟩ | ⟨g', rfl, rfl, H⟩
    · refine ok_b2 (m_opn6 A) (fun r h2 hh => ?_)
      exact ok_t hh.1 (ok_some ⟨hh.2.2, hh.2.1⟩)
    · have eg : 6 - (g' + 1) + 1 = 6 - g' := by omega
      refine ok_b2 (m_opn A (by omega) (by omega)) (fun r h2 hh => ?_)
      obtain ⟨r1, A2, F2⟩ := hh
      have F2 : Fr Sp h h2 := F2
      have A2 : AL h2 (a + 1) (6 - (g' + 1) + 1) := A2
      rw [eg] at A2
      refine ok_f (by rw [show r = 1 from r1]; decide) (ok_b2 (H N (a + 1) h2 (by omega) (T.fr F2) A2 (by omega)) (fun r3 h3 hh => ?_))
      obtain ⟨F3, P3⟩ := hh
      have F3 : Fr Sp h h3 := F2.tr F3
      have P3 : PMr e (6 - g') (one t L g' (a + 1)) (r3, h3) := P3
      have ev : (if (if t a = 33 then 1 else 0 : Int32) = 0 then fX10_one_69 (RGP N) (-r3) h3 else if r3 = 0 then fX10_one_69 (RGP N) 1 h3 else fX10_one_69 (RGP N) 0 h3) = some (un (t a) r3, wI h3 59 20 (h3.1 59 20 - 1)) := by
        unfold fX10_one_69 un
        rw [let_eq, let_eq, let_eq]
        rcases c2 with z | z
        · rw [z, if_pos rfl, if_neg (by decide), if_neg (show ¬ (33 : Int32) = 45 by decide)]
          by_cases y : r3 = 0
          · rw [if_pos y, if_pos y]
          · rw [if_neg y, if_neg y]
        · rw [z]
          rfl
      rw [ev]
      show Ok _ (fun q => Fr Sp h q.2 ∧ PMr e (6 - (g' + 1)) (onOk (one t L g' (a + 1)) (fun c v a2 => (some (c ++ [-unc (t a)], fun e => un (t a) (v e)), a2))) q)
      rcases hs : one t L g' (a + 1) with ⟨_ | ⟨c3, v3⟩, a3⟩
      · rw [hs] at P3
        have P3 : MD h3 a3 := P3
        obtain ⟨M4, F4⟩ := md_dn (x := h3.1 59 20 - 1) P3
        exact ok_some ⟨F3.tr F4, M4⟩
      · rw [hs] at P3
        obtain ⟨e3, A3⟩ := P3
        have e3 : r3 = v3 e := e3
        have A3 : AL h3 a3 (6 - g') := A3
        rw [← eg] at A3
        obtain ⟨A4, F4⟩ := al_dn A3 (by omega)
        refine ok_some ⟨F3.tr F4, ?_, A4⟩
        show un (t a) r3 = un (t a) (v3 e)
        rw [e3]
  by_cases c0 : a < L
  · have n1 : ¬ isDg (t a) := fun z => c1 ⟨c0, z⟩
    rw [if_pos c0, if_neg n1]
    by_cases c2 : t a = 33
    · rw [m_at1 T A 33 ⟨c0, c2⟩, b2_some, if_pos (Or.inl c2)]
      exact ok_f (by decide) (pre 0 c0 (Or.inl c2))
    rw [m_atn T A ha 33 (fun z => c2 z.2), b2_some]
    refine ok_t rfl ?_
    by_cases c3 : t a = 45
    · rw [m_at1 T A 45 ⟨c0, c3⟩, b2_some, if_pos (Or.inr c3)]
      exact ok_f (by decide) (pre 0 c0 (Or.inr c3))
    rw [m_atn T A ha 45 (fun z => c3 z.2), b2_some, if_neg (fun z => Or.elim z c2 c3)]
    refine ok_t rfl ?_
    by_cases c4 : t a = 40
    · rw [m_at1 T A 40 ⟨c0, c4⟩, b2_some]
      have ey : ∀ (x y : PR), (if t a = 40 then x else y) = x := fun x y => if_pos c4
      rw [ey]
      refine ok_f (by decide) ?_
      rcases ho with ⟨rfl, rfl⟩ | ⟨g', rfl, rfl, H⟩
      · refine ok_b2 (m_opn6 A) (fun r h2 hh => ?_)
        exact ok_t hh.1 (ok_some ⟨hh.2.2, hh.2.1⟩)
      · have eg : 6 - (g' + 1) + 1 = 6 - g' := by omega
        refine ok_b2 (m_opn A (by omega) (by omega)) (fun r h2 hh => ?_)
        obtain ⟨r1, A2, F2⟩ := hh
        have F2 : Fr Sp h h2 := F2
        have A2 : AL h2 (a + 1) (6 - (g' + 1) + 1) := A2
        rw [eg] at A2
        refine ok_f (by rw [show r = 1 from r1]; decide) (ok_b2 (m_lv hL H N (a + 1) h2 (by omega) (T.fr F2) A2 (by omega)) (fun r3 h3 hh => ?_))
        obtain ⟨F3, P3⟩ := hh
        have F3 : Fr Sp h h3 := F2.tr F3
        have T3 := T.fr F3
        have P3 : PMr e (6 - g') (lv t L (one t L g') 5 (a + 1)) (r3, h3) := P3
        show Ok _ (fun q => Fr Sp h q.2 ∧ PMr e (6 - (g' + 1)) (onOk (lv t L (one t L g') 5 (a + 1)) (fun c v a2 => if a2 < L ∧ t a2 = 41 then (some (c, v), a2 + 1) else (none, a2))) q)
        have fw := lv_fw (t := t) (one_fw t L g') 5
        -- not well: it ends there
        have bad : ∀ (a3 : Nat), h3.1 59 18 = nI a3 → Ok (if isB 0 = true then letV (wI h3 59 19 0) fun h53_ => if (h53_.1 59 19) = 0 then fX10_one_130 (RGP N) r3 0 (h53_.1 59 18) h53_ else fX10_one_130 (RGP N) r3 1 (h53_.1 59 18) h53_ else none) (fun q => Fr Sp h q.2 ∧ MD q.2 a3) := by
          intro a3 e18
          refine ok_t (by decide) (ok_let ?_)
          have v19 : (wI h3 59 19 0).1 59 19 = 0 := by rw [wI_rd, if_pos ⟨rfl, rfl⟩]
          have v18 : (wI h3 59 19 0).1 59 18 = nI a3 := by rw [wI_rd, if_neg (by omega)]; exact e18
          refine ok_t v19 ?_
          unfold fX10_one_130
          rw [v18, Int32.add_zero]
          refine ok_let (ok_let (ok_some ⟨F3.tr (((Fr.rf.w (by unfold Sp; omega)).w (by unfold Sp; omega)).w (by unfold Sp; omega)), ?_, ?_⟩))
          · show (wI (wI (wI h3 59 19 0) 59 18 (nI a3)) 59 20 _).1 59 18 = _
            rw [wI_rd, if_neg (by omega), wI_rd, if_pos ⟨rfl, rfl⟩]
          · show (wI (wI (wI h3 59 19 0) 59 18 (nI a3)) 59 20 _).1 59 19 = _
            rw [wI_rd, if_neg (by omega), wI_rd, if_neg (by omega)]; exact v19
        rcases hs : lv t L (one t L g') 5 (a + 1) with ⟨_ | ⟨c3, v3⟩, a3⟩
        · rw [hs] at P3
          have P3 : MD h3 a3 := P3
          rw [m_at0 P3.2, b2_some]
          exact bad a3 P3.1
        · rw [hs] at P3
          obtain ⟨e3, A3⟩ := P3
          have e3 : r3 = v3 e := e3
          have A3 : AL h3 a3 (6 - g') := A3
          have ha3 := fw _ _ _ _ hs
          show Ok _ (fun q => Fr Sp h q.2 ∧ PMr e (6 - (g' + 1)) (if a3 < L ∧ t a3 = 41 then (some (c3, v3), a3 + 1) else (none, a3)) q)
          by_cases z : a3 < L ∧ t a3 = 41
          · rw [m_at1 T3 A3 41 z, b2_some, if_pos z]
            refine ok_t (by decide) (ok_let ?_)
            have v19 : (wI h3 59 19 1).1 59 19 = 1 := by rw [wI_rd, if_pos ⟨rfl, rfl⟩]
            have v18 : (wI h3 59 19 1).1 59 18 = nI a3 := by rw [wI_rd, if_neg (by omega)]; exact A3.1
            have v20 : (wI h3 59 19 1).1 59 20 = nI (6 - g') := by rw [wI_rd, if_neg (by omega)]; exact A3.2.2
            refine ok_f (by rw [v19]; decide) ?_
            unfold fX10_one_130
            rw [v18, nI_1]
            refine ok_let (ok_let ?_)
            have A5 : AL (wI (wI h3 59 19 1) 59 18 (nI (a3 + 1))) (a3 + 1) (6 - (g' + 1) + 1) := by
              rw [eg]
              exact ⟨by rw [wI_rd, if_pos ⟨rfl, rfl⟩], by rw [wI_rd, if_neg (by omega)]; exact v19, by rw [wI_rd, if_neg (by omega)]; exact v20⟩
            obtain ⟨A6, F6⟩ := al_dn A5 (by omega)
            exact ok_some ⟨(F3.tr ((Fr.rf.w (by unfold Sp; omega)).w (by unfold Sp; omega))).tr F6, e3, A6⟩
          · rw [m_atn T3 A3 ha3.2 41 z, b2_some, if_neg z]
            exact bad a3 A3.1
    · rw [m_atn T A ha 40 (fun z => c4 z.2), b2_some, if_neg c4]
      refine ok_t rfl ?_
      have := m_nm (RGP N) T A ha
      by_cases c5 : isNm (t a)
      · rw [if_pos c5]
        rw [if_pos ⟨c0, c5⟩] at this
        exact this
      · rw [if_neg c5]
        rw [if_neg (fun z => c5 z.2)] at this
        exact this
  · rw [if_neg c0, m_atn T A ha 33 (fun z => c0 z.1), b2_some]
    refine ok_t rfl ?_
    rw [m_atn T A ha 45 (fun z => c0 z.1), b2_some]
    refine ok_t rfl ?_
    rw [m_atn T A ha 40 (fun z => c0 z.1), b2_some]
    refine ok_t rfl ?_
    have := m_nm (RGP N) T A ha
    rw [if_neg (fun z => c0 z.1)] at this
    exact this
theorem m_one {e : Int32 → Int32} {t : Nat → Int32} {L : Nat} (hL : L ≤ 120) : ∀ g, g ≤ 6 → MLw e t L g 0
  | 0, hg => fun N a h hN T A ha => by
    obtain ⟨N, rfl⟩ : ∃ N', N = N' + 1 := ⟨N - 1, by omega⟩
    rw [RGP_0]
    exact m_oneB hL 0 hg none (Or.inl ⟨rfl, rfl⟩) N a h (by omega) T A ha
  | g + 1, hg => fun N a h hN T A ha => by
    obtain ⟨N, rfl⟩ : ∃ N', N = N' + 1 := ⟨N - 1, by omega⟩
    rw [RGP_0]
    exact m_oneB hL (g + 1) hg (some (one t L g)) (Or.inr ⟨g, rfl, rfl, m_one hL g (by omega)⟩) N a h (by omega) T A ha
theorem m_exp {e : Int32 → Int32} {t : Nat → Int32} {L a : Nat} {h : AH} (T : TX e t L h) (A : AL h a 0) (ha : a ≤ L) : Ok (RGP 60 5 [] h) (fun q => Fr Sp h q.2 ∧ PMr e 0 (tExp t L a) q) := m_lv T.1 (m_one T.1 6 (Nat.le_refl 6)) 60 a h (by omega) T A ha
