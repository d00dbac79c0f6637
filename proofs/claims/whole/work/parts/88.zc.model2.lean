/-! the text of a law: the model descends -/
theorem RGP_0 (n : Nat) (a : List Int32) (h : AH) : RGP (n + 1) 0 a h = fX10_one (RGP n) h := by
  conv => lhs; unfold RGP
  rw [if_pos (show (0 : Nat) = 0 from rfl)]
theorem RGP_1 (n : Nat) (a : List Int32) (h : AH) : RGP (n + 1) 1 a h = fX10_product (RGP n) h := by
  conv => lhs; unfold RGP
  rw [if_neg (show ¬ (1 : Nat) = 0 by decide), if_pos (show (1 : Nat) = 1 from rfl)]
theorem RGP_2 (n : Nat) (a : List Int32) (h : AH) : RGP (n + 1) 2 a h = fX10_total (RGP n) h := by
  conv => lhs; unfold RGP
  rw [if_neg (show ¬ (2 : Nat) = 0 by decide), if_neg (show ¬ (2 : Nat) = 1 by decide), if_pos (show (2 : Nat) = 2 from rfl)]
theorem RGP_3 (n : Nat) (a : List Int32) (h : AH) : RGP (n + 1) 3 a h = fX10_compared (RGP n) h := by
  conv => lhs; unfold RGP
  rw [if_neg (show ¬ (3 : Nat) = 0 by decide), if_neg (show ¬ (3 : Nat) = 1 by decide), if_neg (show ¬ (3 : Nat) = 2 by decide), if_pos (show (3 : Nat) = 3 from rfl)]
theorem RGP_4 (n : Nat) (a : List Int32) (h : AH) : RGP (n + 1) 4 a h = fX10_both (RGP n) h := by
  conv => lhs; unfold RGP
  rw [if_neg (show ¬ (4 : Nat) = 0 by decide), if_neg (show ¬ (4 : Nat) = 1 by decide), if_neg (show ¬ (4 : Nat) = 2 by decide), if_neg (show ¬ (4 : Nat) = 3 by decide), if_pos (show (4 : Nat) = 4 from rfl)]
theorem RGP_5 (n : Nat) (a : List Int32) (h : AH) : RGP (n + 1) 5 a h = fX10_any (RGP n) h := by
  conv => lhs; unfold RGP
  rw [if_neg (show ¬ (5 : Nat) = 0 by decide), if_neg (show ¬ (5 : Nat) = 1 by decide), if_neg (show ¬ (5 : Nat) = 2 by decide), if_neg (show ¬ (5 : Nat) = 3 by decide), if_neg (show ¬ (5 : Nat) = 4 by decide), if_pos (show (5 : Nat) = 5 from rfl)]
def DQ (h : AH) (q : Int32 × AH) : Prop := q.2.1 59 19 = 0 ∧ q.2.1 59 18 = h.1 59 18 ∧ Fr Sp h q.2
theorem nm_dead (RR : Nat → List Int32 → AH → Option (Int32 × AH)) {h : AH} (A : h.1 59 19 = 0) : Ok (fX10_one_148 RR FU 0 h) (DQ h) := by
  refine L1 (f := fX10_one_148 RR) (b := fX10_one_148_b RR) (fun _ => rfl) (fun r x h' => ∃ c, c + r = 6 ∧ x = nI c ∧ h' = h) ?_ 6 FU 0 h (by unfold FU; omega) ⟨0, by omega, rfl, rfl⟩
  rintro r x h' ⟨c, hc, rfl, rfl⟩ Q hQ
  unfold fX10_one_148_b
  refine ok_if (fun d1 => ?_) (fun d1 => ?_)
  · exact ok_let (ok_some ⟨by show (wI h' 59 19 0).1 59 19 = 0; rw [wI_rd, if_pos ⟨rfl, rfl⟩], by show (wI h' 59 19 0).1 59 18 = _; rw [wI_rd, if_neg (by omega)], Fr.rf.w (by unfold Sp; omega)⟩)
  · rw [show (6 : Int32) = nI 6 from rfl, nI_leI (by omega) (by omega)] at d1
    refine ok_t (inb_nI (by omega) (by decide)) ?_
    rw [m_at0 A, b2_some]
    refine ok_t rfl ?_
    rw [nI_1]
    exact hQ (r - 1) _ _ (by omega) ⟨c + 1, by omega, rfl, rfl⟩
theorem dq_tr {h h1 : AH} {q : Int32 × AH} {x : Int32} (a : DQ h (x, h1)) (b : DQ h1 q) : DQ h q := ⟨b.1, b.2.1.trans a.2.1, Fr.tr a.2.2 b.2.2⟩
theorem m_dead : ∀ (w : Nat), w ≤ 5 → ∀ (N : Nat) (h : AH), w < N → h.1 59 19 = 0 → Ok (RGP N w [] h) (DQ h)
  | 0, _, N, h, hN, A => by
    obtain ⟨N, rfl⟩ : ∃ N', N = N' + 1 := ⟨N - 1, by omega⟩
    rw [RGP_0]
    unfold fX10_one
    rw [m_dg0 A, b2_some, if_pos rfl, m_at0 A, b2_some, if_pos rfl, m_at0 A, b2_some, if_pos rfl, m_at0 A, b2_some, if_pos rfl]
    exact nm_dead (RGP N) A
  | 1, _, N, h, hN, A => by
    obtain ⟨N, rfl⟩ : ∃ N', N = N' + 1 := ⟨N - 1, by omega⟩
    rw [RGP_1]
    unfold fX10_product
    refine ok_b2 (m_dead 0 (by omega) N h (by omega) A) (fun r h2 hh => ?_)
    have A2 : h2.1 59 19 = 0 := hh.1
    have e1 : fX10_product_5 (RGP N) FU r h2 = fX10_product_5_b (RGP N) (fX10_product_5 (RGP N) (FU - 1)) r h2 := by
      conv => lhs; rw [show FU = (FU - 1) + 1 from rfl]
      rfl
    rw [e1, p_dead (RGP N) _ r h2 A2]
    exact ok_some hh
  | 2, _, N, h, hN, A => by
    obtain ⟨N, rfl⟩ : ∃ N', N = N' + 1 := ⟨N - 1, by omega⟩
    rw [RGP_2]
    unfold fX10_total
    refine ok_b2 (m_dead 1 (by omega) N h (by omega) A) (fun r h2 hh => ?_)
    have A2 : h2.1 59 19 = 0 := hh.1
    have e1 : fX10_total_5 (RGP N) FU r h2 = fX10_total_5_b (RGP N) (fX10_total_5 (RGP N) (FU - 1)) r h2 := by
      conv => lhs; rw [show FU = (FU - 1) + 1 from rfl]
      rfl
    rw [e1, s_dead (RGP N) _ r h2 A2]
    exact ok_some hh
  | 3, _, N, h, hN, A => by
    obtain ⟨N, rfl⟩ : ∃ N', N = N' + 1 := ⟨N - 1, by omega⟩
    rw [RGP_3]
    unfold fX10_compared
    refine ok_b2 (m_dead 2 (by omega) N h (by omega) A) (fun r h2 hh => ?_)
    have A2 : h2.1 59 19 = 0 := hh.1
    rw [m_at0 A2, b2_some, if_pos rfl, m_at0 A2, b2_some, if_pos rfl, m_at0 A2, b2_some, if_pos rfl]
    exact ok_some hh
  | 4, _, N, h, hN, A => by
    obtain ⟨N, rfl⟩ : ∃ N', N = N' + 1 := ⟨N - 1, by omega⟩
    rw [RGP_4]
    unfold fX10_both
    refine ok_b2 (m_dead 3 (by omega) N h (by omega) A) (fun r h2 hh => ?_)
    have A2 : h2.1 59 19 = 0 := hh.1
    have e1 : fX10_both_5 (RGP N) FU r h2 = fX10_both_5_b (RGP N) (fX10_both_5 (RGP N) (FU - 1)) r h2 := by
      conv => lhs; rw [show FU = (FU - 1) + 1 from rfl]
      rfl
    rw [e1, b_dead (RGP N) _ r h2 A2]
    exact ok_some hh
  | 5, _, N, h, hN, A => by
    obtain ⟨N, rfl⟩ : ∃ N', N = N' + 1 := ⟨N - 1, by omega⟩
    rw [RGP_5]
    unfold fX10_any
    refine ok_b2 (m_dead 4 (by omega) N h (by omega) A) (fun r h2 hh => ?_)
    have A2 : h2.1 59 19 = 0 := hh.1
    have e1 : fX10_any_5 (RGP N) FU r h2 = fX10_any_5_b (RGP N) (fX10_any_5 (RGP N) (FU - 1)) r h2 := by
      conv => lhs; rw [show FU = (FU - 1) + 1 from rfl]
      rfl
    rw [e1, o_dead (RGP N) _ r h2 A2]
    exact ok_some hh
  | w + 6, hw, N, h, hN, A => by omega
def MLw (e : Int32 → Int32) (t : Nat → Int32) (L g w : Nat) : Prop := ∀ (N a : Nat) (h : AH), w + 6 * g < N → TX e t L h → AL h a (6 - g) → a ≤ L → Ok (RGP N w [] h) (fun q => Fr Sp h q.2 ∧ PMr e (6 - g) (lv t L (one t L g) w a) q)
theorem m_lv1 {e : Int32 → Int32} {t : Nat → Int32} {L g : Nat} (hL : L ≤ 120) (H : MLw e t L g 0) : MLw e t L g 1 := by
  intro N a h hN T A ha
  obtain ⟨N, rfl⟩ : ∃ N', N = N' + 1 := ⟨N - 1, by omega⟩
  have el : lv t L (one t L g) 1 a = onOk (lv t L (one t L g) 0 a) (fun c v a => lp t L (lv t L (one t L g) 0) 1 200 c v a) := rfl
  have fw := lv_fw (t := t) (one_fw t L g) 0
  rw [RGP_1, el]
  unfold fX10_product
  refine ok_b2 (H N a h (by omega) T A ha) (fun r h2 hh => ?_)
  obtain ⟨F2, P2⟩ := hh
  have F2 : Fr Sp h h2 := F2
  rcases hs : lv t L (one t L g) 0 a with ⟨_ | ⟨c2, v2⟩, a2⟩
  · rw [hs] at P2
    have P2 : MD h2 a2 := P2
    have e1 : fX10_product_5 (RGP N) FU r h2 = fX10_product_5_b (RGP N) (fX10_product_5 (RGP N) (FU - 1)) r h2 := by
      conv => lhs; rw [show FU = (FU - 1) + 1 from rfl]
      rfl
    rw [e1, p_dead (RGP N) _ r h2 P2.2]
    exact ok_some ⟨F2, P2⟩
  · rw [hs] at P2
    obtain ⟨e2, A2⟩ := P2
    have e2 : r = v2 e := e2
    have A2 : AL h2 a2 (6 - g) := A2
    have := fw _ _ _ _ hs
    rw [e2]
    exact ok_mono (m_lp (f := fX10_product_5 (RGP N)) (b := fX10_product_5_b (RGP N)) (RR := RGP N 0 []) (sub := lv t L (one t L g) 0) (w := 1) (fun _ => rfl) fw (fun Q x h A => p_dead (RGP N) Q x h A) (fun Q x h a T A ha q => p_no (RGP N) Q x h a T A ha q) (fun Q x h a T A ha q => p_yes (RGP N) Q x h a T A ha q) (fun h a T A ha => H N a h (by omega) T A ha) 200 FU c2 v2 a2 h2 (by unfold FU; omega) this.2 (by omega) (T.fr F2) A2) (fun q hq => ⟨F2.tr hq.1, hq.2⟩)
theorem m_lv2 {e : Int32 → Int32} {t : Nat → Int32} {L g : Nat} (hL : L ≤ 120) (H : MLw e t L g 1) : MLw e t L g 2 := by
  intro N a h hN T A ha
  obtain ⟨N, rfl⟩ : ∃ N', N = N' + 1 := ⟨N - 1, by omega⟩
  have el : lv t L (one t L g) 2 a = onOk (lv t L (one t L g) 1 a) (fun c v a => lp t L (lv t L (one t L g) 1) 2 200 c v a) := rfl
  have fw := lv_fw (t := t) (one_fw t L g) 1
  rw [RGP_2, el]
  unfold fX10_total
  refine ok_b2 (H N a h (by omega) T A ha) (fun r h2 hh => ?_)
  obtain ⟨F2, P2⟩ := hh
  have F2 : Fr Sp h h2 := F2
  rcases hs : lv t L (one t L g) 1 a with ⟨_ | ⟨c2, v2⟩, a2⟩
  · rw [hs] at P2
    have P2 : MD h2 a2 := P2
    have e1 : fX10_total_5 (RGP N) FU r h2 = fX10_total_5_b (RGP N) (fX10_total_5 (RGP N) (FU - 1)) r h2 := by
      conv => lhs; rw [show FU = (FU - 1) + 1 from rfl]
      rfl
    rw [e1, s_dead (RGP N) _ r h2 P2.2]
    exact ok_some ⟨F2, P2⟩
  · rw [hs] at P2
    obtain ⟨e2, A2⟩ := P2
    have e2 : r = v2 e := e2
    have A2 : AL h2 a2 (6 - g) := A2
    have := fw _ _ _ _ hs
    rw [e2]
    exact ok_mono (m_lp (f := fX10_total_5 (RGP N)) (b := fX10_total_5_b (RGP N)) (RR := RGP N 1 []) (sub := lv t L (one t L g) 1) (w := 2) (fun _ => rfl) fw (fun Q x h A => s_dead (RGP N) Q x h A) (fun Q x h a T A ha q => s_no (RGP N) Q x h a T A ha q) (fun Q x h a T A ha q => s_yes (RGP N) Q x h a T A ha q) (fun h a T A ha => H N a h (by omega) T A ha) 200 FU c2 v2 a2 h2 (by unfold FU; omega) this.2 (by omega) (T.fr F2) A2) (fun q hq => ⟨F2.tr hq.1, hq.2⟩)
theorem m_lv4 {e : Int32 → Int32} {t : Nat → Int32} {L g : Nat} (hL : L ≤ 120) (H : MLw e t L g 3) : MLw e t L g 4 := by
  intro N a h hN T A ha
  obtain ⟨N, rfl⟩ : ∃ N', N = N' + 1 := ⟨N - 1, by omega⟩
  have el : lv t L (one t L g) 4 a = onOk (lv t L (one t L g) 3 a) (fun c v a => lp t L (lv t L (one t L g) 3) 4 200 c v a) := rfl
  have fw := lv_fw (t := t) (one_fw t L g) 3
  rw [RGP_4, el]
  unfold fX10_both
  refine ok_b2 (H N a h (by omega) T A ha) (fun r h2 hh => ?_)
  obtain ⟨F2, P2⟩ := hh
  have F2 : Fr Sp h h2 := F2
  rcases hs : lv t L (one t L g) 3 a with ⟨_ | ⟨c2, v2⟩, a2⟩
  · rw [hs] at P2
    have P2 : MD h2 a2 := P2
    have e1 : fX10_both_5 (RGP N) FU r h2 = fX10_both_5_b (RGP N) (fX10_both_5 (RGP N) (FU - 1)) r h2 := by
      conv => lhs; rw [show FU = (FU - 1) + 1 from rfl]
      rfl
    rw [e1, b_dead (RGP N) _ r h2 P2.2]
    exact ok_some ⟨F2, P2⟩
  · rw [hs] at P2
    obtain ⟨e2, A2⟩ := P2
    have e2 : r = v2 e := e2
    have A2 : AL h2 a2 (6 - g) := A2
    have := fw _ _ _ _ hs
    rw [e2]
    exact ok_mono (m_lp (f := fX10_both_5 (RGP N)) (b := fX10_both_5_b (RGP N)) (RR := RGP N 3 []) (sub := lv t L (one t L g) 3) (w := 4) (fun _ => rfl) fw (fun Q x h A => b_dead (RGP N) Q x h A) (fun Q x h a T A ha q => b_no (RGP N) Q x h a T A ha q) (fun Q x h a T A ha q => b_yes (RGP N) Q x h a T A ha q) (fun h a T A ha => H N a h (by omega) T A ha) 200 FU c2 v2 a2 h2 (by unfold FU; omega) this.2 (by omega) (T.fr F2) A2) (fun q hq => ⟨F2.tr hq.1, hq.2⟩)
theorem m_lv5 {e : Int32 → Int32} {t : Nat → Int32} {L g : Nat} (hL : L ≤ 120) (H : MLw e t L g 4) : MLw e t L g 5 := by
  intro N a h hN T A ha
  obtain ⟨N, rfl⟩ : ∃ N', N = N' + 1 := ⟨N - 1, by omega⟩
  have el : lv t L (one t L g) 5 a = onOk (lv t L (one t L g) 4 a) (fun c v a => lp t L (lv t L (one t L g) 4) 5 200 c v a) := rfl
  have fw := lv_fw (t := t) (one_fw t L g) 4
  rw [RGP_5, el]
  unfold fX10_any
  refine ok_b2 (H N a h (by omega) T A ha) (fun r h2 hh => ?_)
  obtain ⟨F2, P2⟩ := hh
  have F2 : Fr Sp h h2 := F2
  rcases hs : lv t L (one t L g) 4 a with ⟨_ | ⟨c2, v2⟩, a2⟩
  · rw [hs] at P2
    have P2 : MD h2 a2 := P2
    have e1 : fX10_any_5 (RGP N) FU r h2 = fX10_any_5_b (RGP N) (fX10_any_5 (RGP N) (FU - 1)) r h2 := by
      conv => lhs; rw [show FU = (FU - 1) + 1 from rfl]
      rfl
    rw [e1, o_dead (RGP N) _ r h2 P2.2]
    exact ok_some ⟨F2, P2⟩
  · rw [hs] at P2
    obtain ⟨e2, A2⟩ := P2
    have e2 : r = v2 e := e2
    have A2 : AL h2 a2 (6 - g) := A2
    have := fw _ _ _ _ hs
    rw [e2]
    exact ok_mono (m_lp (f := fX10_any_5 (RGP N)) (b := fX10_any_5_b (RGP N)) (RR := RGP N 4 []) (sub := lv t L (one t L g) 4) (w := 5) (fun _ => rfl) fw (fun Q x h A => o_dead (RGP N) Q x h A) (fun Q x h a T A ha q => o_no (RGP N) Q x h a T A ha q) (fun Q x h a T A ha q => o_yes (RGP N) Q x h a T A ha q) (fun h a T A ha => H N a h (by omega) T A ha) 200 FU c2 v2 a2 h2 (by unfold FU; omega) this.2 (by omega) (T.fr F2) A2) (fun q hq => ⟨F2.tr hq.1, hq.2⟩)
theorem m_lv3 {e : Int32 → Int32} {t : Nat → Int32} {L g : Nat} (hL : L ≤ 120) (H : MLw e t L g 2) : MLw e t L g 3 := by
  intro N a h hN T A ha
  obtain ⟨N, rfl⟩ : ∃ N', N = N' + 1 := ⟨N - 1, by omega⟩
  have el : lv t L (one t L g) 3 a = onOk (lv t L (one t L g) 2 a) (fun c v a => lp t L (lv t L (one t L g) 2) 3 1 c v a) := rfl
  have fw := lv_fw (t := t) (one_fw t L g) 2
  rw [RGP_3, el]
  unfold fX10_compared
  refine ok_b2 (H N a h (by omega) T A ha) (fun r h2 hh => ?_)
  obtain ⟨F2, P2⟩ := hh
  have F2 : Fr Sp h h2 := F2
  rcases hs : lv t L (one t L g) 2 a with ⟨_ | ⟨c2, v2⟩, a2⟩
  · rw [hs] at P2
    have P2 : MD h2 a2 := P2
    rw [m_at0 P2.2, b2_some, if_pos rfl, m_at0 P2.2, b2_some, if_pos rfl, m_at0 P2.2, b2_some, if_pos rfl]
    exact ok_some ⟨F2, P2⟩
  · rw [hs] at P2
    obtain ⟨e2, A2⟩ := P2
    have e2 : r = v2 e := e2
    have A2 : AL h2 a2 (6 - g) := A2
    have ha2 := fw _ _ _ _ hs
    have T2 := T.fr F2
    show Ok _ (fun q => Fr Sp h q.2 ∧ PMr e (6 - g) (lp t L (lv t L (one t L g) 2) 3 1 c2 v2 a2) q)
    by_cases q : a2 < L ∧ lev (t a2) = 3
    · have el : lp t L (lv t L (one t L g) 2) 3 1 c2 v2 a2 = onOk (lv t L (one t L g) 2 (a2 + 1)) (fun c3 v3 a3 => (some (c2 ++ (c3 ++ [-t a2]), fun e => two (t a2) (v2 e) (v3 e)), a3)) := if_pos q
      rw [el]
      have q' := lev_3.1 q.2
      have key : Ok (fX10_compared_32 (RGP N) r h2) (fun q => Fr Sp h q.2 ∧ PMr e (6 - g) (onOk (lv t L (one t L g) 2 (a2 + 1)) (fun c3 v3 a3 => (some (c2 ++ (c3 ++ [-t a2]), fun e => two (t a2) (v2 e) (v3 e)), a3))) q) := by
        unfold fX10_compared_32
        rw [A2.1]
        refine ok_t (inb_nI (by omega) (by decide)) (ok_let (ok_let ?_))
        rw [ix_nI (by omega), T2.2.2.1 a2 q.1, nI_1]
        obtain ⟨A3, F3⟩ := al_mv A2 (a2 + 1)
        refine ok_b2 (H N (a2 + 1) _ (by omega) (T2.fr F3) A3 (by omega)) (fun r4 h4 hh => ?_)
        obtain ⟨F4, P4⟩ := hh
        have F4 : Fr Sp h h4 := (F2.tr F3).tr F4
        have e5 : (if t a2 = 60 then if r4 ≤ r then fX10_compared_105 (RGP N) 0 h4 else fX10_compared_105 (RGP N) 1 h4 else if t a2 = 61 then if r = r4 then fX10_compared_105 (RGP N) 1 h4 else fX10_compared_105 (RGP N) 0 h4 else if r ≤ r4 then fX10_compared_105 (RGP N) 0 h4 else fX10_compared_105 (RGP N) 1 h4) = some (two (t a2) r r4, h4) := by
          have c0 : fX10_compared_105 (RGP N) 0 h4 = some (0, h4) := if_pos rfl
          have c1 : fX10_compared_105 (RGP N) 1 h4 = some (1, h4) := if_neg (by decide)
          rw [c0, c1]
          rcases q' with z | z | z
          · rw [z, if_pos rfl]
            show _ = some (if r4 ≤ r then 0 else 1, h4)
            by_cases y : r4 ≤ r
            · rw [if_pos y, if_pos y]
            · rw [if_neg y, if_neg y]
          · rw [z, if_neg (by decide), if_pos rfl]
            show _ = some (if r = r4 then 1 else 0, h4)
            by_cases y : r = r4
            · rw [if_pos y, if_pos y]
            · rw [if_neg y, if_neg y]
          · rw [z, if_neg (by decide), if_neg (by decide)]
            show _ = some (if r ≤ r4 then 0 else 1, h4)
            by_cases y : r ≤ r4
            · rw [if_pos y, if_pos y]
            · rw [if_neg y, if_neg y]
        rw [e5]
        refine ok_some ⟨F4, ?_⟩
        rcases hs4 : lv t L (one t L g) 2 (a2 + 1) with ⟨_ | ⟨c3, v3⟩, a3⟩
        · rw [hs4] at P4
          exact P4
        · rw [hs4] at P4
          refine ⟨?_, P4.2⟩
          have e4 : r4 = v3 e := P4.1
          show two (t a2) r r4 = two (t a2) (v2 e) (v3 e)
          rw [e2, e4]
      rcases q' with z | z | z
      · rw [m_at1 T2 A2 60 ⟨q.1, z⟩, b2_some, if_neg (by decide)]
        exact key
      · rw [m_atn T2 A2 (by omega) 60 (fun y => by rw [z] at y; exact absurd y.2 (by decide)), b2_some, if_pos rfl, m_at1 T2 A2 61 ⟨q.1, z⟩, b2_some, if_neg (by decide)]
        exact key
      · rw [m_atn T2 A2 (by omega) 60 (fun y => by rw [z] at y; exact absurd y.2 (by decide)), b2_some, if_pos rfl, m_atn T2 A2 (by omega) 61 (fun y => by rw [z] at y; exact absurd y.2 (by decide)), b2_some, if_pos rfl, m_at1 T2 A2 62 ⟨q.1, z⟩, b2_some, if_neg (by decide)]
        exact key
    · have el : lp t L (lv t L (one t L g) 2) 3 1 c2 v2 a2 = (some (c2, v2), a2) := if_neg q
      rw [el]
      rw [lev_3] at q
      rw [m_atn T2 A2 (by omega) 60 (fun z => q ⟨z.1, Or.inl z.2⟩), b2_some, if_pos rfl, m_atn T2 A2 (by omega) 61 (fun z => q ⟨z.1, Or.inr (Or.inl z.2)⟩), b2_some, if_pos rfl, m_atn T2 A2 (by omega) 62 (fun z => q ⟨z.1, Or.inr (Or.inr z.2)⟩), b2_some, if_pos rfl]
      exact ok_some ⟨F2, e2, A2⟩
theorem m_lv {e : Int32 → Int32} {t : Nat → Int32} {L g : Nat} (hL : L ≤ 120) (H : MLw e t L g 0) : MLw e t L g 5 := m_lv5 hL (m_lv4 hL (m_lv3 hL (m_lv2 hL (m_lv1 hL H))))
