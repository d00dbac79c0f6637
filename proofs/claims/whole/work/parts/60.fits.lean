/-! fits -/
def ftP (f : Nat → Int32) (top : Nat) : Nat → Int32 × Int32
  | 0 => (0, -2)
  | c + 1 => if f (top - c) = -2 then ((ftP f top c).1 + 1, nI (top - c)) else ftP f top c
theorem ft_step {f : Nat → Int32} {top c : Nat} {y z : Int32} (hyz : (y, z) = ftP f top c) : ftP f top (c + 1) = if f (top - c) = -2 then (y + 1, nI (top - c)) else (y, z) := by
  show (if f (top - c) = -2 then ((ftP f top c).1 + 1, nI (top - c)) else ftP f top c) = _
  rw [← hyz]
theorem nI_lt0 {r : Nat} (hr : r < 2 ^ 29) : nI r + (-1) < 0 ↔ r = 0 := by
  cases r with
  | zero => decide
  | succ r =>
    rw [nI_m1 (by omega), show (0 : Int32) = nI 0 from rfl, nI_ltI (by omega) (by omega)]
    omega
noncomputable def ftF (h : AH) (s : Nat) (Λ : LawF) (n m : Nat) (sl num : Nat → Nat → Int32) (mn : Int32) (g k : Nat) : Nat → Int32 := fun v => jdV h s (GL Λ n m sl (setN num g k (nI v), mn))
theorem c_fits {n m B s g k top : Nat} {num sl : Nat → Nat → Int32} {mn p2 P0 P1 P2 : Int32} {Λ : LawF} {h : AH} (T : TI h n m num sl mn) (O : Oth h n m B Λ) (hs : s < 6) (hg : g < n) (hk : k = 0 ∨ k = 1 ∨ k = 2) (ht : (k = 0 ∧ top = 99) ∨ (k ≠ 0 ∧ top = 9)) : Ok (fX9_fits_67 P0 P1 P2 (nI s) (nI g) p2 (nI k) h) (fun q => q.1 = (if jrem p2 2 = 0 then (ftP (ftF h s Λ n m sl num mn g k) top (top + 1)).1 else (ftP (ftF h s Λ n m sl num mn g k) top (top + 1)).2) ∧ Fr Scr h q.2) := by
  have hn9 := T.n9
  have hm12 := T.m12
  unfold fX9_fits_67
  have est : ST 201 k = nI top := by
    have a0 : ST 201 0 = nI 99 := by decide +kernel
    have a1 : ST 201 1 = nI 9 := by decide +kernel
    have a2 : ST 201 2 = nI 9 := by decide +kernel
    rcases hk with rfl | rfl | rfl
    · rw [a0, show top = 99 by omega]
    · rw [a1, show top = 9 by omega]
    · rw [a2, show top = 9 by omega]
  refine ok_t (inb_nI (by omega) (by decide)) (ok_let ?_)
  rw [ix_nI (by omega), est]
  refine L7 (f := fX9_fits_84 P0 P1 P2) (b := fX9_fits_84_b P0 P1 P2) (fun _ => rfl) (fun r x1 x2 x3 x5 x6 x7 x8 h' => ∃ c, c + r = top + 1 ∧ x1 = nI s ∧ x2 = nI g ∧ x3 = p2 ∧ x5 = nI k ∧ (x6, x7) = ftP (ftF h s Λ n m sl num mn g k) top c ∧ x8 = nI r + (-1) ∧ Fr Scr h h') ?_ (top + 1) FU (nI s) (nI g) p2 (nI k) 0 (-2) (nI top) h (by unfold FU; omega) ⟨0, by omega, rfl, rfl, rfl, rfl, rfl, (nI_m1 (by omega)).symm, Fr.rf⟩
  rintro r x1 x2 x3 x5 x6 x7 x8 h' ⟨c, hc, rfl, rfl, rfl, rfl, hyz, rfl, F'⟩ Q hQ
  obtain ⟨T', O'⟩ := scr_t T O F'
  unfold fX9_fits_84_b
  refine ok_if (fun d1 => ?_) (fun d1 => ?_)
  · rw [nI_lt0 (by omega)] at d1
    have e : c = top + 1 := by omega
    subst e
    rw [← hyz]
    by_cases d2 : jrem x3 2 = 0
    · rw [if_pos d2, if_pos d2]; exact ok_some ⟨rfl, F'⟩
    · rw [if_neg d2, if_neg d2]; exact ok_some ⟨rfl, F'⟩
  · rw [nI_lt0 (by omega)] at d1
    obtain ⟨r, rfl⟩ : ∃ r', r = r' + 1 := ⟨r - 1, by omega⟩
    rw [nI_m1 (by omega)]
    refine ok_bV (c_start (k := 0) hn9 hm12 T'.by (by omega) T'.c) (fun h1 hh => ?_)
    obtain ⟨C1, F1⟩ := hh
    have F1 : Fr Scr h h1 := F'.tr (F1.mono St_scr)
    have C1 : CRep 19 h1 n m num sl mn := C1
    rw [c_setNumber (Or.inr rfl) C1.1 C1.2.1 hn9 (by omega) (show vld n m g k by unfold vld; omega), bV_some, if_neg (by omega)]
    have ea : cadr 19 k = 20 + k := by unfold cadr; rw [if_pos (by omega)]
    rw [ea]
    have C2 : CRep 19 (wI h1 (20 + k) g (nI r)) n m (setN num g k (nI r)) sl mn := c_setIn hg hk C1
    have F2 : Fr Scr h (wI h1 (20 + k) g (nI r)) := F1.w (by unfold Scr; omega)
    refine ok_bV (c_judge T O hs (setN_gone (by omega) T.gone) F2 C2) (fun h3 hh => ?_)
    refine ok_t (inb_nI (by omega) (by decide)) ?_
    rw [ix_nI (by omega), (rfS s hs).1, hh.1, b2_some]
    have es := ft_step hyz
    have er : top - c = r := by omega
    rw [er] at es
    rw [show jdV h s (GL Λ n m sl (setN num g k (nI r), mn)) = ftF h s Λ n m sl num mn g k r from rfl]
    refine ok_if (fun q => ?_) (fun q => ?_)
    · exact hQ r _ _ _ _ _ _ _ _ (by omega) ⟨c + 1, by omega, rfl, rfl, rfl, rfl, by rw [es, if_pos q], rfl, hh.2⟩
    · exact hQ r _ _ _ _ _ _ _ _ (by omega) ⟨c + 1, by omega, rfl, rfl, rfl, rfl, by rw [es, if_neg q], rfl, hh.2⟩
theorem setN_setN {num : Nat → Nat → Int32} {g k : Nat} {a b : Int32} : setN (setN num g k a) g k b = setN num g k b := by
  funext i j
  unfold setN
  by_cases e : i = g ∧ j = k
  · rw [if_pos e, if_pos e]
  · rw [if_neg e, if_neg e, if_neg e]
theorem setN_self {num : Nat → Nat → Int32} {g k : Nat} : setN num g k (num g k) = num := by
  funext i j
  unfold setN
  by_cases e : i = g ∧ j = k
  · rw [if_pos e, e.1, e.2]
  · rw [if_neg e]
theorem m_fits {n m B s g k top : Nat} {num sl : Nat → Nat → Int32} {mn p2 P0 P1 P2 : Int32} {Λ : LawF} {h : AH} (T : TI h n m num sl mn) (O : Oth h n m B Λ) (hs : s < 6) (hb : shB h s = 0) (hg : g < n) (hk : k = 0 ∨ k = 1 ∨ k = 2) (ht : (k = 0 ∧ top = 99) ∨ (k ≠ 0 ∧ top = 9)) : Ok (fX10_fits_60 P0 P1 P2 (nI s) (nI g) p2 (nI k) h) (fun q => q.1 = (if jrem p2 2 = 0 then (ftP (ftF h s Λ n m sl num mn g k) top (top + 1)).1 else (ftP (ftF h s Λ n m sl num mn g k) top (top + 1)).2) ∧ Fr Scr h q.2) := by
  have hn9 := T.n9
  have hm12 := T.m12
  unfold fX10_fits_60
  rw [m_number (K := nI k) (k := k) rfl (show g < 9 by omega) (by omega), b2_some, T.m.2.1 g hg k (by omega)]
  have main : Ok (fX10_fits_92 P0 P1 P2 FU (nI s) (nI g) p2 (nI k) (num g k) 0 (-2) (nI top) h) (fun q => q.1 = (if jrem p2 2 = 0 then (ftP (ftF h s Λ n m sl num mn g k) top (top + 1)).1 else (ftP (ftF h s Λ n m sl num mn g k) top (top + 1)).2) ∧ Fr Scr h q.2) := by
    refine L8 (f := fX10_fits_92 P0 P1 P2) (b := fX10_fits_92_b P0 P1 P2) (fun _ => rfl) (fun r x1 x2 x3 x4 x5 x6 x7 x8 h' => ∃ c, c + r = top + 1 ∧ x1 = nI s ∧ x2 = nI g ∧ x3 = p2 ∧ x4 = nI k ∧ x5 = num g k ∧ (x6, x7) = ftP (ftF h s Λ n m sl num mn g k) top c ∧ x8 = nI r + (-1) ∧ (∃ v0, MRep h' n m (setN num g k v0) sl mn) ∧ Fr (fun o q => Scr o q ∨ (o = 60 ∧ q = 6 * g + k)) h h') ?_ (top + 1) FU (nI s) (nI g) p2 (nI k) (num g k) 0 (-2) (nI top) h (by unfold FU; omega) ⟨0, by omega, rfl, rfl, rfl, rfl, rfl, rfl, (nI_m1 (by omega)).symm, ⟨num g k, by rw [setN_self]; exact T.m⟩, Fr.rf⟩
    rintro r x1 x2 x3 x4 x5 x6 x7 x8 h' ⟨c, hc, rfl, rfl, rfl, rfl, rfl, hyz, rfl, ⟨v0, M'⟩, F'⟩ Q hQ
    unfold fX10_fits_92_b
    refine ok_if (fun d1 => ?_) (fun d1 => ?_)
    · rw [nI_lt0 (by omega)] at d1
      have e : c = top + 1 := by omega
      subst e
      rw [← hyz, m_change (K := nI k) (k := k) rfl (show g < 9 by omega) (by omega), bV_some]
      have F2 : Fr Scr h (wI h' 60 (6 * g + k) (num g k)) := ⟨fun o q hs => by
        rw [wI_rd]
        by_cases e : o = 60 ∧ q = 6 * g + k
        · rw [if_pos e, e.1, e.2]; exact (T.m.2.1 g hg k (by omega)).symm
        · rw [if_neg e]; exact F'.1 o q (fun z => z.elim hs e), F'.2⟩
      by_cases d2 : jrem x3 2 = 0
      · rw [if_pos d2, if_pos d2]; exact ok_some ⟨rfl, F2⟩
      · rw [if_neg d2, if_neg d2]; exact ok_some ⟨rfl, F2⟩
    · rw [nI_lt0 (by omega)] at d1
      obtain ⟨r, rfl⟩ : ∃ r', r = r' + 1 := ⟨r - 1, by omega⟩
      rw [nI_m1 (by omega), m_change (K := nI k) (k := k) rfl (show g < 9 by omega) (by omega), bV_some]
      have M2 : MRep (wI h' 60 (6 * g + k) (nI r)) n m (setN num g k (nI r)) sl mn := by
        have := m_setIn (v := nI r) hn9 hg (show k < 6 by omega) (Or.inl hm12) M'
        rw [setN_setN] at this
        exact this
      have F2 : Fr (fun o q => Scr o q ∨ (o = 60 ∧ q = 6 * g + k)) h (wI h' 60 (6 * g + k) (nI r)) := F'.w (Or.inr ⟨rfl, rfl⟩)
      refine ok_b2 (m_judge T O hs hb F2 (fun o q z => z.elim Or.inl (fun z => Or.inr z.1)) (fun o q z => Or.inl z) M2) (fun v h3 hh => ?_)
      obtain ⟨ev, F3, k3⟩ := hh
      have ev : v = ftF h s Λ n m sl num mn g k r := ev
      have F3 : Fr (fun o q => Scr o q ∨ (o = 60 ∧ q = 6 * g + k)) h h3 := F3
      have k3 : ∀ q, h3.1 60 q = (wI h' 60 (6 * g + k) (nI r)).1 60 q := k3
      have M3 : MRep h3 n m (setN num g k (nI r)) sl mn := by
        obtain ⟨ma, mb, mc, md⟩ := M2
        refine ⟨?_, fun i hi j hj => (k3 _).trans (mb i hi j hj), (k3 _).trans mc, Or.inl ⟨?_, ?_, fun q hq j hj => ?_⟩⟩
        · rw [F3.1 _ _ (by unfold Scr; omega)]; exact T.m.1
        · rw [F3.1 _ _ (by unfold Scr; omega)]; exact T.2.2.2.2.2.2.1
        · rw [F3.1 _ _ (by unfold Scr; omega)]; exact T.2.2.2.2.2.2.2.1
        · rw [F3.1 _ _ (by unfold Scr; omega)]; exact T.2.2.2.2.2.2.2.2 q hq j hj
      have es := ft_step hyz
      have er : top - c = r := by omega
      have z0 : ∀ v : Int32, v + 0 = v := fun v => by simp
      rw [er] at es
      rw [ev]
      refine ok_if (fun q => ?_) (fun q => ?_)
      · unfold fX10_fits_121
        refine ok_f (by decide) ?_
        unfold fX10_fits_135
        refine ok_let (ok_f (by decide) ?_)
        exact hQ r _ _ _ _ _ _ _ _ _ (by omega) ⟨c + 1, by omega, rfl, rfl, rfl, rfl, rfl, by rw [es, if_pos q], rfl, ⟨_, M3⟩, F3⟩
      · unfold fX10_fits_121
        refine ok_t rfl ?_
        unfold fX10_fits_135
        refine ok_let (ok_t rfl ?_)
        rw [z0]
        exact hQ r _ _ _ _ _ _ _ _ _ (by omega) ⟨c + 1, by omega, rfl, rfl, rfl, rfl, rfl, by rw [es, if_neg q], rfl, ⟨_, M3⟩, F3⟩
  rcases ht with ⟨t1, t2⟩ | ⟨t1, t2⟩
  · refine ok_t (by rw [t1]; rfl) ?_
    rw [show (99 : Int32) = nI top by rw [t2]; rfl]
    exact main
  · refine ok_f (nI_ne0 (by omega) (by omega)) ?_
    rw [show (9 : Int32) = nI top by rw [t2]; rfl]
    exact main
def ftK (p2 : Int32) : Nat := if p2.toInt ≤ 1 then 2 else if p2.toInt ≤ 3 then 1 else 0
def ftT (p2 : Int32) : Nat := if p2.toInt ≤ 3 then 9 else 99
theorem op_fits (p g w : Int32) : Sim (fX9_fits p g w) (fX10_fits p g w) := by
  have e0 : (0 : Int32).toInt = 0 := by decide
  have e2 : (2 : Int32).toInt = 2 := by decide
  have e4 : (4 : Int32).toInt = 4 := by decide
  have e5 : (5 : Int32).toInt = 5 := by decide
  refine sim_thinkH (fun h n m num sl mn Λ => if 0 ≤ p.toInt ∧ p.toInt < 6 then if 0 ≤ g.toInt ∧ g.toInt < n then if 0 ≤ w.toInt ∧ w.toInt ≤ 5 then if shB h p.toInt.toNat = 0 then if jrem w 2 = 0 then (ftP (ftF h p.toInt.toNat Λ n m sl num mn g.toInt.toNat (ftK w)) (ftT w) (ftT w + 1)).1 else (ftP (ftF h p.toInt.toNat Λ n m sl num mn g.toInt.toNat (ftK w)) (ftT w) (ftT w + 1)).2 else shB h p.toInt.toNat else -1 else -1 else -1) (fun n m num sl mn Λ h h' F => ?_) (fun n m B num sl mn Λ h T O => ?_) (fun n m B num sl mn Λ h T O => ?_)
  · by_cases c : 0 ≤ p.toInt ∧ p.toInt < 6
    · obtain ⟨e1, e2⟩ := sh_scr (s := p.toInt.toNat) (by omega) F
      have e3 : ∀ g k, ftF h' p.toInt.toNat Λ n m sl num mn g k = ftF h p.toInt.toNat Λ n m sl num mn g k := fun g k => by funext v; exact e2 _
      rw [if_pos c, if_pos c, e1, e3]
    · rw [if_neg c, if_neg c]
  · unfold fX9_fits
    rw [c_isShelf, b2_some]
    by_cases c : 0 ≤ p.toInt ∧ p.toInt < 6
    · rw [if_pos c, if_pos c]
      refine ok_f (by decide) ?_
      have hn9 := T.n9
      obtain ⟨ep, hp⟩ := nI_of_rg (p := p) (a := 5) (by omega) (by omega) (by decide)
      obtain ⟨s, es⟩ : ∃ s, s = p.toInt.toNat := ⟨_, rfl⟩
      rw [← es] at ep hp ⊢
      have hs : s < 6 := by omega
      rw [c_hasGuest T.c.1 hn9, b2_some]
      by_cases c2 : 0 ≤ g.toInt ∧ g.toInt < n
      · rw [if_pos c2, if_pos c2]
        refine ok_f (by decide) ?_
        obtain ⟨eg, hg⟩ := nI_of_rg (a := 9) c2.1 (by omega) (by decide)
        obtain ⟨j, ej⟩ : ∃ j, j = g.toInt.toNat := ⟨_, rfl⟩
        rw [← ej] at eg hg ⊢
        have hj : j < n := by omega
        by_cases c3 : 0 ≤ w.toInt ∧ w.toInt ≤ 5
        · rw [if_pos c3]
          refine ok_f (by rw [i_lt, e0]; omega) (ok_t (by rw [i_le, e5]; omega) ?_)
          rw [ep, eg]
          refine ok_t (inb_nI (by omega) (by decide)) ?_
          rw [ix_nI (by omega), (rfS s hs).1, c_refusal, b2_some]
          by_cases c4 : shB h s = 0
          · rw [if_pos c4, if_pos c4]
            refine ok_if (fun q1 => ?_) (fun q1 => ?_)
            · rw [i_le, e2] at q1
              refine ok_if (fun q2 => ?_) (fun q2 => ?_)
              · rw [i_le, e4] at q2
                exact c_fits (k := ftK w) (top := ftT w) T O hs hj (by unfold ftK; rw [if_neg (by omega), if_neg (by omega)]; omega) (by unfold ftK ftT; rw [if_neg (by omega), if_neg (by omega), if_neg (by omega)]; omega) |> fun z => by
                  have ek : ftK w = 0 := by unfold ftK; rw [if_neg (by omega), if_neg (by omega)]
                  rw [ek] at z ⊢; exact z
              · rw [i_le, e4] at q2
                exact c_fits (k := ftK w) (top := ftT w) T O hs hj (by unfold ftK; rw [if_neg (by omega), if_pos (by omega)]; omega) (by unfold ftK ftT; rw [if_neg (by omega), if_pos (by omega), if_pos (by omega)]; omega) |> fun z => by
                  have ek : ftK w = 1 := by unfold ftK; rw [if_neg (by omega), if_pos (by omega)]
                  rw [ek] at z ⊢; exact z
            · rw [i_le, e2] at q1
              exact c_fits (k := ftK w) (top := ftT w) T O hs hj (by unfold ftK; rw [if_pos (by omega)]; omega) (by unfold ftK ftT; rw [if_pos (by omega), if_pos (by omega)]; omega) |> fun z => by
                have ek : ftK w = 2 := by unfold ftK; rw [if_pos (by omega)]
                rw [ek] at z ⊢; exact z
          · rw [if_neg c4, if_neg c4]
            exact ok_some ⟨rfl, Fr.rf⟩
        · rw [if_neg c3]
          refine ok_if (fun c4 => ok_some ⟨rfl, Fr.rf⟩) (fun c4 => ?_)
          rw [i_lt, e0] at c4
          exact ok_f (by rw [i_le, e5]; omega) (ok_some ⟨rfl, Fr.rf⟩)
      · rw [if_neg c2, if_neg c2]
        exact ok_t rfl (ok_some ⟨rfl, Fr.rf⟩)
    · rw [if_neg c, if_neg c]
      exact ok_t rfl (ok_some ⟨rfl, Fr.rf⟩)
  · unfold fX10_fits
    rw [m_isShelf, b2_some]
    by_cases c : 0 ≤ p.toInt ∧ p.toInt < 6
    · rw [if_pos c, if_pos c]
      refine ok_f (by decide) ?_
      have hn9 := T.n9
      obtain ⟨ep, hp⟩ := nI_of_rg (p := p) (a := 5) (by omega) (by omega) (by decide)
      obtain ⟨s, es⟩ : ∃ s, s = p.toInt.toNat := ⟨_, rfl⟩
      rw [← es] at ep hp ⊢
      have hs : s < 6 := by omega
      rw [m_isGuest T.m.1 hn9, b2_some]
      by_cases c2 : 0 ≤ g.toInt ∧ g.toInt < n
      · rw [if_pos c2, if_pos c2]
        refine ok_f (by decide) ?_
        obtain ⟨eg, hg⟩ := nI_of_rg (a := 9) c2.1 (by omega) (by decide)
        obtain ⟨j, ej⟩ : ∃ j, j = g.toInt.toNat := ⟨_, rfl⟩
        rw [← ej] at eg hg ⊢
        have hj : j < n := by omega
        rw [m_isIn, b2_some, e0, e5]
        by_cases c3 : 0 ≤ w.toInt ∧ w.toInt ≤ 5
        · rw [if_pos c3, if_pos c3]
          refine ok_f (by decide) ?_
          rw [ep, eg, m_bytesIn hs O.b50 (O.sh s hs), b2_some]
          by_cases c4 : shB h s = 0
          · rw [if_pos c4, if_pos c4]
            refine ok_t (by decide) ?_
            refine ok_if (fun q1 => ?_) (fun q1 => ?_)
            · rw [i_le, e2] at q1
              refine ok_if (fun q2 => ?_) (fun q2 => ?_)
              · rw [i_le, e4] at q2
                exact m_fits (k := ftK w) (top := ftT w) T O hs c4 hj (by unfold ftK; rw [if_neg (by omega), if_neg (by omega)]; omega) (by unfold ftK ftT; rw [if_neg (by omega), if_neg (by omega), if_neg (by omega)]; omega) |> fun z => by
                  have ek : ftK w = 0 := by unfold ftK; rw [if_neg (by omega), if_neg (by omega)]
                  rw [ek] at z ⊢; exact z
              · rw [i_le, e4] at q2
                exact m_fits (k := ftK w) (top := ftT w) T O hs c4 hj (by unfold ftK; rw [if_neg (by omega), if_pos (by omega)]; omega) (by unfold ftK ftT; rw [if_neg (by omega), if_pos (by omega), if_pos (by omega)]; omega) |> fun z => by
                  have ek : ftK w = 1 := by unfold ftK; rw [if_neg (by omega), if_pos (by omega)]
                  rw [ek] at z ⊢; exact z
            · rw [i_le, e2] at q1
              exact m_fits (k := ftK w) (top := ftT w) T O hs c4 hj (by unfold ftK; rw [if_pos (by omega)]; omega) (by unfold ftK ftT; rw [if_pos (by omega), if_pos (by omega)]; omega) |> fun z => by
                have ek : ftK w = 2 := by unfold ftK; rw [if_pos (by omega)]
                rw [ek] at z ⊢; exact z
          · rw [if_neg c4, if_neg c4]
            refine ok_f ?_ ?_
            · unfold shB
              split
              · decide
              · split
                · rename_i q1 q2; exact absurd (by unfold shB; rw [if_neg q1, if_pos q2]) c4
                · decide
            · rw [m_bytesIn hs O.b50 (O.sh s hs), b2_some, if_neg c4]
              exact ok_some ⟨rfl, Fr.rf⟩
        · rw [if_neg c3, if_neg c3]
          exact ok_t rfl (ok_some ⟨rfl, Fr.rf⟩)
      · rw [if_neg c2, if_neg c2]
        exact ok_t rfl (ok_some ⟨rfl, Fr.rf⟩)
    · rw [if_neg c, if_neg c]
      exact ok_t rfl (ok_some ⟨rfl, Fr.rf⟩)
