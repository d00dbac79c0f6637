/-! what a text gives: the model -/
theorem f71 (Q : Int32 → Int32 → Int32 → AH → Option (Int32 × AH)) (x1 x2 x4 x5 : Int32) (h : AH) : fX10_gives_71 Q x1 x2 x4 x5 h = fX10_gives_101 Q (if x2 = 0 then (if x5 = 0 then x1 else x4) else x1) (if x2 = 0 then (if x5 = 0 then 0 else 1) else 1) h := by
  unfold fX10_gives_71 fX10_gives_85 fX10_gives_86 fX10_gives_96
  by_cases c5 : x5 = 0
  · rw [if_pos c5, if_pos c5, if_pos c5]
    by_cases c2 : x2 = 0
    · rw [if_pos c2, if_pos c2, if_pos c2, if_pos c5]
    · rw [if_neg c2, if_neg c2, if_neg c2]
  · rw [if_neg c5, if_neg c5, if_neg c5]
    by_cases c2 : x2 = 0
    · rw [if_pos c2, if_pos c2, if_pos c2, if_pos c2, if_neg c5, if_neg c5]
    · rw [if_neg c2, if_neg c2, if_neg c2, if_neg c2]
def PG (e : Int32 → Int32) (L : Nat) (x1 x2 : Int32) : PR → Int32 × AH → Prop
  | (none, a), q => q.2.1 59 18 = nI a ∧ (q.2.1 59 19 = 0 ∨ (q.2.1 59 19 = 1 ∧ a < L)) ∧ a ≤ L
  | (some (_, v), a), q => q.1 = (if x2 = 0 then v e else x1) ∧ q.2.1 59 18 = nI a ∧ q.2.1 59 19 = 1 ∧ L = a
def Bnd (L : Nat) (sub : Nat → PR) : Prop := ∀ a a2, a ≤ L → sub a = (none, a2) → a2 ≤ L
theorem lp_bd {t : Nat → Int32} {L w : Nat} {sub : Nat → PR} (H : Fwd L sub) (B : Bnd L sub) : ∀ (n : Nat) (c : List Int32) (v : Wrt) (a a2 : Nat), a ≤ L → lp t L sub w n c v a = (none, a2) → a2 ≤ L
  | 0, c, v, a, a2, h, e => by cases e
  | n + 1, c, v, a, a2, h, e => by
    unfold lp at e
    by_cases q : a < L ∧ lev (t a) = w
    · rw [if_pos q] at e
      rcases onOk_none e with e1 | ⟨c1, v1, a1, e1, e2⟩
      · exact B _ _ (by omega) e1
      · exact lp_bd H B n _ _ _ _ (H _ _ _ _ e1).2 e2
    · rw [if_neg q] at e
      cases e
theorem lv_bd {t : Nat → Int32} {L : Nat} {sub : Nat → PR} (H : Fwd L sub) (B : Bnd L sub) : ∀ w, Bnd L (lv t L sub w)
  | 0 => B
  | w + 1 => fun a a2 h e => by
    unfold lv at e
    rcases onOk_none e with e1 | ⟨c1, v1, a1, e1, e2⟩
    · exact lv_bd H B w _ _ h e1
    · exact lp_bd (lv_fw H w) (lv_bd H B w) _ _ _ _ _ (lv_fw H w _ _ _ _ e1).2 e2
theorem one_bd (t : Nat → Int32) (L : Nat) : ∀ g, Bnd L (one t L g) := by
  have key : ∀ o : Option (Nat → PR), (∀ f, o = some f → Bnd L f ∧ Fwd L f) → Bnd L (oneB t L o) := by
    intro o H a a2 ha e
    unfold oneB at e
    by_cases c0 : a < L
    · rw [if_pos c0] at e
      by_cases c1 : isDg (t a)
      · rw [if_pos c1] at e; cases e
      · rw [if_neg c1] at e
        by_cases c2 : t a = 33 ∨ t a = 45
        · rw [if_pos c2] at e
          cases o with
          | none => cases e; exact ha
          | some f =>
            rcases onOk_none (r := f (a + 1)) e with e1 | ⟨c1, v1, a1, e1, e2⟩
            · exact (H f rfl).1 _ _ (by omega) e1
            · cases e2
        · rw [if_neg c2] at e
          by_cases c3 : t a = 40
          · rw [if_pos c3] at e
            cases o with
            | none => cases e; exact ha
            | some f =>
              rcases onOk_none (r := lv t L f 5 (a + 1)) e with e1 | ⟨c1, v1, a1, e1, e2⟩
              · exact lv_bd (H f rfl).2 (H f rfl).1 5 _ _ (by omega) e1
              · have := lv_fw (t := t) (H f rfl).2 5 _ _ _ _ e1
                by_cases q : a1 < L ∧ t a1 = 41
                · rw [if_pos q] at e2; cases e2
                · rw [if_neg q] at e2; cases e2; exact this.2
          · rw [if_neg c3] at e
            by_cases c4 : isNm (t a)
            · rw [if_pos c4] at e; cases e
            · rw [if_neg c4] at e; cases e; exact ha
    · rw [if_neg c0] at e; cases e; exact ha
  intro g
  induction g with
  | zero => exact key none (fun f e => by cases e)
  | succ g ih => exact key (some (one t L g)) (fun f e => by cases e; exact ⟨ih, one_fw t L g⟩)
theorem m_gv {e : Int32 → Int32} {t : Nat → Int32} {L : Nat} : ∀ (k F a : Nat) (x1 x2 : Int32) (h : AH), k < F → a ≤ L → L < a + k → TX e t L h → AL h a 0 → (x2 = 0 → x1 = 0) → Ok (fX10_gives_21 F x1 x2 1 h) (fun q => Fr Sp h q.2 ∧ PG e L x1 x2 (tGv t L k a) q)
  | 0, F, a, x1, x2, h, hF, ha, hk, T, A, hx => by omega
  | k + 1, F, a, x1, x2, h, hF, ha, hk, T, A, hx => by
    obtain ⟨F, rfl⟩ : ∃ F', F = F' + 2 := ⟨F - 2, by omega⟩
    have hL := T.1
    have fw : Fwd L (tExp t L) := lv_fw (t := t) (one_fw t L 6) 5
    have bd : Bnd L (tExp t L) := lv_bd (one_fw t L 6) (one_bd t L 6) 5
    -- the loop is left
    have out0 : ∀ (y1 y2 : Int32) (h' : AH), fX10_gives_21 (F + 1) y1 y2 0 h' = some (y1, h') := fun y1 y2 h' => by
      show fX10_gives_21_b (fX10_gives_21 F) y1 y2 0 h' = _
      unfold fX10_gives_21_b
      rw [if_pos rfl]
    have e101n : ∀ (y1 y2 : Int32) (h' : AH), fX10_isAt 59 h' = some (0, h') → fX10_gives_101 (fX10_gives_21 (F + 1)) y1 y2 h' = some (y1, wI h' 59 18 (h'.1 59 18 + 0)) := fun y1 y2 h' q => by
      unfold fX10_gives_101
      rw [q, b2_some, if_pos rfl]
      unfold fX10_gives_123
      rw [let_eq, out0]
    -- not well: it ends there
    have bad : ∀ (y1 y2 : Int32) (h' : AH) (a2 : Nat), MD h' a2 → a2 ≤ L → Fr Sp h h' → Ok (fX10_gives_101 (fX10_gives_21 (F + 1)) y1 y2 h') (fun q => Fr Sp h q.2 ∧ PG e L x1 x2 (none, a2) q) := fun y1 y2 h' a2 M ha2 G => by
      rw [e101n y1 y2 h' (m_at0 M.2 59), M.1, Int32.add_zero]
      refine ok_some ⟨G.tr (Fr.rf.w (by unfold Sp; omega)), ?_, Or.inl ?_, ha2⟩
      · show (wI h' 59 18 (nI a2)).1 59 18 = _
        rw [wI_rd, if_pos ⟨rfl, rfl⟩]
      · show (wI h' 59 18 (nI a2)).1 59 19 = _
        rw [wI_rd, if_neg (by omega)]; exact M.2
    -- behind a part
    have tail : ∀ (c : List Int32) (qw vw : Wrt) (a1 : Nat) (h' : AH), a < a1 → a1 ≤ L → AL h' a1 0 → Fr Sp h h' → Ok (fX10_gives_101 (fX10_gives_21 (F + 1)) (if x2 = 0 then (if qw e = 0 then x1 else vw e) else x1) (if x2 = 0 then (if qw e = 0 then 0 else 1) else 1) h') (fun q => Fr Sp h q.2 ∧ PG e L x1 x2 (if a1 < L ∧ t a1 = 59 then onOk (tGv t L k (a1 + 1)) (fun c2 v2 a2 => (some (c ++ (-59 :: c2), fun e => if qw e = 0 then v2 e else vw e), a2)) else if a1 < L then (none, a1) else (some (c ++ [-59], fun e => if qw e = 0 then 0 else vw e), a1)) q) := by
      intro c qw vw a1 h' f1 f2 A1 G
      have T1 := T.fr G
      by_cases z : a1 < L ∧ t a1 = 59
      · rw [if_pos z]
        unfold fX10_gives_101
        rw [m_at1 T1 A1 59 z, b2_some, if_neg (by decide)]
        unfold fX10_gives_123
        rw [let_eq, A1.1, nI_1]
        obtain ⟨A2, G2⟩ := al_mv A1 (a1 + 1)
        refine ok_mono (m_gv k (F + 1) (a1 + 1) _ _ _ (by omega) (by omega) (by omega) (T1.fr G2) A2 ?_) (fun q hq => ⟨(G.tr G2).tr hq.1, ?_⟩)
        · intro q
          by_cases c2 : x2 = 0
          · rw [if_pos c2] at q ⊢
            by_cases c3 : qw e = 0
            · rw [if_pos c3]; exact hx c2
            · rw [if_neg c3] at q; exact absurd q (by decide)
          · rw [if_neg c2] at q; exact absurd q (by decide)
        · have P := hq.2
          rcases hg : tGv t L k (a1 + 1) with ⟨_ | ⟨c2, v2⟩, a2⟩
          · rw [hg] at P
            exact P
          · rw [hg] at P
            obtain ⟨p1, p2⟩ := P
            refine ⟨?_, p2⟩
            rw [p1]
            by_cases c2 : x2 = 0
            · simp only [if_pos c2]
              by_cases c3 : qw e = 0
              · simp only [if_pos c3, if_true]
              · simp only [if_neg c3]
                rw [if_neg (by decide)]
            · simp only [if_neg c2]
              rw [if_neg (by decide)]
      · rw [if_neg z, e101n _ _ h' (m_atn T1 A1 f2 59 z), A1.1, Int32.add_zero]
        have G2 : Fr Sp h (wI h' 59 18 (nI a1)) := G.tr (al_mv A1 a1).2
        obtain ⟨B1, B2, _⟩ := (al_mv A1 a1).1
        by_cases z2 : a1 < L
        · rw [if_pos z2]
          exact ok_some ⟨G2, B1, Or.inr ⟨B2, z2⟩, f2⟩
        · rw [if_neg z2]
          refine ok_some ⟨G2, ?_, B1, B2, by omega⟩
          show (if x2 = 0 then (if qw e = 0 then x1 else vw e) else x1) = if x2 = 0 then (if qw e = 0 then 0 else vw e) else x1
          by_cases c2 : x2 = 0
          · rw [if_pos c2, if_pos c2, hx c2]
          · rw [if_neg c2, if_neg c2]
    show Ok (fX10_gives_21_b (fX10_gives_21 (F + 1)) x1 x2 1 h) _
    unfold fX10_gives_21_b
    refine ok_f (by decide) (ok_b2 (m_exp T A ha) (fun r h2 hh => ?_))
    obtain ⟨G2, P2⟩ := hh
    have G2 : Fr Sp h h2 := G2
    show Ok _ (fun q => Fr Sp h q.2 ∧ PG e L x1 x2 (onOk (tExp t L a) _) q)
    rcases he : tExp t L a with ⟨_ | ⟨c, v⟩, a1⟩
    · rw [he] at P2
      have P2 : MD h2 a1 := P2
      rw [m_at0 P2.2, b2_some, if_pos rfl, f71]
      exact bad _ _ h2 a1 P2 (bd _ _ ha he) G2
    · rw [he] at P2
      obtain ⟨e2, A2⟩ := P2
      have e2 : r = v e := e2
      have A2 : AL h2 a1 0 := A2
      have ha1 := fw _ _ _ _ he
      have T2 := T.fr G2
      by_cases z : a1 < L ∧ t a1 = 63
      · show Ok _ (fun q => Fr Sp h q.2 ∧ PG e L x1 x2 (if a1 < L ∧ t a1 = 63 then _ else _) q)
        rw [if_pos z, m_at1 T2 A2 63 z, b2_some, if_neg (by decide), let_eq, A2.1, nI_1]
        obtain ⟨A3, G3⟩ := al_mv A2 (a1 + 1)
        have e63 : ∀ h' : AH, (if r = 0 then fX10_gives_63 (fX10_gives_21 (F + 1)) x1 x2 0 h' else fX10_gives_63 (fX10_gives_21 (F + 1)) x1 x2 1 h') = bind2 (RGP 60 5 [] h') fun r28_ h29_ => fX10_gives_71 (fX10_gives_21 (F + 1)) x1 x2 r28_ (if r = 0 then 0 else 1) h29_ := fun h' => by
          by_cases y : r = 0
          · rw [if_pos y, if_pos y]; rfl
          · rw [if_neg y, if_neg y]; rfl
        rw [e63]
        refine ok_b2 (m_exp (T2.fr G3) A3 (by omega)) (fun r4 h4 hh => ?_)
        obtain ⟨G4, P4⟩ := hh
        have G4 : Fr Sp h h4 := (G2.tr G3).tr G4
        rw [f71]
        rcases he4 : tExp t L (a1 + 1) with ⟨_ | ⟨c4, v4⟩, a4⟩
        · rw [he4] at P4
          have P4 : MD h4 a4 := P4
          exact bad _ _ h4 a4 P4 (bd _ _ (by omega) he4) G4
        · rw [he4] at P4
          obtain ⟨e4, A4⟩ := P4
          have e4 : r4 = v4 e := e4
          have A4 : AL h4 a4 0 := A4
          have ha4 := fw _ _ _ _ he4
          have := tail (c ++ c4) v v4 a4 h4 (by omega) ha4.2 A4 G4
          rw [e4, e2]
          have y1 : (if (if v e = 0 then 0 else 1 : Int32) = 0 then x1 else v4 e) = if v e = 0 then x1 else v4 e := by
            by_cases y : v e = 0
            · rw [if_pos y, if_pos y, if_pos rfl]
            · rw [if_neg y, if_neg y, if_neg (by decide)]
          have y2 : (if (if v e = 0 then 0 else 1 : Int32) = 0 then 0 else 1 : Int32) = if v e = 0 then 0 else 1 := by
            by_cases y : v e = 0
            · rw [if_pos y, if_pos rfl]
            · rw [if_neg y, if_neg (by decide)]
          rw [y1, y2]
          exact this
      · show Ok _ (fun q => Fr Sp h q.2 ∧ PG e L x1 x2 (if a1 < L ∧ t a1 = 63 then _ else _) q)
        rw [if_neg z, m_atn T2 A2 ha1.2 63 z, b2_some, if_pos rfl, f71]
        have := tail c (fun _ => 1) v a1 h2 ha1.1 ha1.2 A2 G2
        rw [e2]
        exact this
theorem m_gives {e : Int32 → Int32} {t : Nat → Int32} {L : Nat} {h : AH} (T : TX e t L h) : Ok (fX10_gives h) (fun q => Fr Sp h q.2 ∧ PG e L 0 0 (tGv t L 200 0) q) := by
  have hL := T.1
  unfold fX10_gives
  refine ok_let (ok_let (ok_let ?_))
  have G : Fr Sp h (wI (wI (wI h 59 18 0) 59 19 1) 59 20 0) := ((Fr.rf.w (by unfold Sp; omega)).w (by unfold Sp; omega)).w (by unfold Sp; omega)
  have A : AL (wI (wI (wI h 59 18 0) 59 19 1) 59 20 0) 0 0 := by
    refine ⟨?_, ?_, ?_⟩
    · rw [wI_rd, if_neg (by omega), wI_rd, if_neg (by omega), wI_rd, if_pos ⟨rfl, rfl⟩]; rfl
    · rw [wI_rd, if_neg (by omega), wI_rd, if_pos ⟨rfl, rfl⟩]
    · rw [wI_rd, if_pos ⟨rfl, rfl⟩]; rfl
  exact ok_mono (m_gv 200 FU 0 0 0 _ (by unfold FU; omega) (Nat.zero_le L) (by omega) (T.fr G) A (fun _ => rfl)) (fun q hq => ⟨G.tr hq.1, hq.2⟩)
