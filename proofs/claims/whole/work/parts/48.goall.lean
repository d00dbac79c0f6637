def itP (n m : Nat) (sl : Nat → Nat → Int32) : Nat → (Nat → Nat → Int32) × Int32 → (Nat → Nat → Int32) × Int32
  | 0, q => q
  | k + 1, q => itP n m sl k (pmN n m sl q.2 q.1, pmM q.2)
theorem it_gone {n m : Nat} {sl : Nat → Nat → Int32} : ∀ (k : Nat) (q : (Nat → Nat → Int32) × Int32), goneOK n q.1 → goneOK n (itP n m sl k q).1
  | 0, q, h => h
  | k + 1, q, h => it_gone k _ (pmN_gone h)
theorem it_snoc {n m : Nat} {sl : Nat → Nat → Int32} : ∀ (k : Nat) (q : (Nat → Nat → Int32) × Int32), itP n m sl (k + 1) q = (pmN n m sl (itP n m sl k q).2 (itP n m sl k q).1, pmM (itP n m sl k q).2)
  | 0, q => rfl
  | k + 1, q => it_snoc k (pmN n m sl q.2 q.1, pmM q.2)
theorem c_become {n m : Nat} {sl : Nat → Nat → Int32} {mn : Int32} {num : Nat → Nat → Int32} {h : AH} (hn9 : n ≤ 9) (hm : m ≤ 12) (C : CRep 1 h n m num sl mn) : Ok (fX7_becomeLike h) (fun h' => CRep 19 h' n m num sl mn ∧ Fr St h h') := by
  unfold fX7_becomeLike
  have i0 : ix (0 : Int32) = 0 := by decide
  have i9 : ix (9 : Int32) = 9 := by decide
  have i12 : ix (12 : Int32) = 12 := by decide
  have c9 : cpOK 0 0 9 9 9 = true := by decide
  have c12 : cpOK 0 0 12 13 13 = true := by decide
  rw [i0, i9, i12]
  simp only [letV, c9, c12, if_true]
  refine ok_some ⟨?_, ?_⟩
  · obtain ⟨a, b, cc, dd, ee⟩ := C
    refine ⟨?_, ?_, ?_, fun i hi => ?_, fun s hs => ?_⟩
    · simp [cpI_rd, wI_rd]; exact a
    · simp [cpI_rd, wI_rd]; exact b
    · simp [cpI_rd, wI_rd]; exact cc
    · have hi9 : i < 9 := by omega
      simp [cpI_rd, wI_rd, hi9]
      exact dd i hi
    · have hs12 : s < 12 := by omega
      simp [cpI_rd, wI_rd, hs12]
      exact ee s hs
  · refine ⟨fun o k q => ?_, rfl⟩
    have h18 : ¬ (19 ≤ o ∧ o ≤ 29) := fun z => q (Or.inr (Or.inr z))
    simp only [cpI_rd, wI_rd]
    rw [if_neg (by omega), if_neg (by omega), if_neg (by omega), if_neg (by omega), if_neg (by omega), if_neg (by omega), if_neg (by omega), if_neg (by omega), if_neg (by omega), if_neg (by omega), if_neg (by omega)]
theorem c_start {n m k : Nat} {sl : Nat → Nat → Int32} {mn : Int32} {num : Nat → Nat → Int32} {h : AH} (hn9 : n ≤ 9) (hm : m ≤ 12) (hby : ∀ s, s < m → ∃ j, j < n ∧ sl s 2 = nI j) (hk : k ≤ 100) (C : CRep 1 h n m num sl mn) : Ok (fX6_startBehind (nI k) h) (fun h' => CRep 19 h' n m (itP n m sl k (num, mn)).1 sl (itP n m sl k (num, mn)).2 ∧ Fr St h h') := by
  unfold fX6_startBehind
  refine ok_bV (c_become hn9 hm C) (fun h1 hh => ?_)
  obtain ⟨C1, F1⟩ := hh
  refine L2 (f := fX6_startBehind_13 (nI k)) (b := fX6_startBehind_13_b (nI k)) (fun _ => rfl) (fun r x y h' => ∃ c, c + r = k ∧ x = nI k ∧ y = nI c ∧ CRep 19 h' n m (itP n m sl c (num, mn)).1 sl (itP n m sl c (num, mn)).2 ∧ Fr St h h') ?_ k FU (nI k) 0 h1 (by unfold FU; omega) ⟨0, by omega, rfl, rfl, C1, F1⟩
  rintro r x y h' ⟨c, hc, rfl, rfl, C', F'⟩ Q hQ
  unfold fX6_startBehind_13_b
  refine ok_if (fun c1 => ?_) (fun c1 => ?_)
  · rw [nI_leI (by omega) (by omega)] at c1
    have : c = k := by omega
    subst this
    exact ok_some ⟨C', F'⟩
  · rw [nI_leI (by omega) (by omega)] at c1
    refine ok_bV (c_pass (Or.inr rfl) hn9 (by omega) hby C') (fun h2 hh => ?_)
    obtain ⟨C2, F2⟩ := hh
    rw [nI_1]
    refine hQ (r - 1) _ _ _ (by omega) ⟨c + 1, by omega, rfl, rfl, by rw [it_snoc]; exact C2, F'.tr (F2.mono (fun o k q => Or.inr (Or.inr (by omega))))⟩
/-! the model's thoughts -/
theorem m_keep {h : AH} : Ok (fX10_keepAll 0 h) (fun h' => (∀ k, k < 94 → h'.1 61 k = h.1 60 k) ∧ Fr (fun o k => o = 61) h h') := by
  unfold fX10_keepAll
  refine L2 (f := fX10_keepAll_2 0) (b := fX10_keepAll_2_b 0) (fun _ => rfl) (fun r x y h' => ∃ c, c + r = 94 ∧ x = 0 ∧ y = nI c ∧ (∀ k, k < c → h'.1 61 k = h.1 60 k) ∧ Fr (fun o k => o = 61) h h') ?_ 94 FU 0 0 h (by unfold FU; omega) ⟨0, by omega, rfl, rfl, fun k hk => by omega, Fr.rf⟩
  rintro r x y h' ⟨c, hc, rfl, rfl, hk, hF⟩ Q hQ
  unfold fX10_keepAll_2_b
  have e : (94 : Int32) * 0 + nI c = nI c := by simp
  rw [e]
  refine ok_if (fun c1 => ?_) (fun c1 => ?_)
  · rw [show (94 : Int32) = nI 94 from rfl, nI_leI (by omega) (by omega)] at c1
    have : c = 94 := by omega
    subst this
    exact ok_some ⟨hk, hF⟩
  · rw [show (94 : Int32) = nI 94 from rfl, nI_leI (by omega) (by omega)] at c1
    refine ok_t (inb_nI (by omega) (by decide)) (ok_t (inb_nI (by omega) (by decide)) (ok_let ?_))
    rw [ix_nI (show c < 2 ^ 31 by omega), nI_1]
    refine hQ (r - 1) _ _ _ (by omega) ⟨c + 1, by omega, rfl, rfl, fun k hk2 => ?_, hF.w rfl⟩
    rw [wI_rd]
    by_cases e : k = c
    · rw [if_pos ⟨rfl, e⟩, hF.1 60 c (by omega), e]
    · rw [if_neg (by omega)]; exact hk k (by omega)
theorem m_layb {h : AH} : Ok (fX10_layAll 0 h) (fun h' => (∀ k, k < 94 → h'.1 60 k = h.1 61 k) ∧ Fr (fun o k => o = 60 ∧ k < 94) h h') := by
  unfold fX10_layAll
  refine L2 (f := fX10_layAll_2 0) (b := fX10_layAll_2_b 0) (fun _ => rfl) (fun r x y h' => ∃ c, c + r = 94 ∧ x = 0 ∧ y = nI c ∧ (∀ k, k < c → h'.1 60 k = h.1 61 k) ∧ Fr (fun o k => o = 60 ∧ k < 94) h h') ?_ 94 FU 0 0 h (by unfold FU; omega) ⟨0, by omega, rfl, rfl, fun k hk => by omega, Fr.rf⟩
  rintro r x y h' ⟨c, hc, rfl, rfl, hk, hF⟩ Q hQ
  unfold fX10_layAll_2_b
  have e : (94 : Int32) * 0 + nI c = nI c := by simp
  rw [e]
  refine ok_if (fun c1 => ?_) (fun c1 => ?_)
  · rw [show (94 : Int32) = nI 94 from rfl, nI_leI (by omega) (by omega)] at c1
    have : c = 94 := by omega
    subst this
    exact ok_some ⟨hk, hF⟩
  · rw [show (94 : Int32) = nI 94 from rfl, nI_leI (by omega) (by omega)] at c1
    refine ok_t (inb_nI (by omega) (by decide)) (ok_t (inb_nI (by omega) (by decide)) (ok_let ?_))
    rw [ix_nI (show c < 2 ^ 31 by omega), nI_1]
    refine hQ (r - 1) _ _ _ (by omega) ⟨c + 1, by omega, rfl, rfl, fun k hk2 => ?_, hF.w ⟨rfl, by omega⟩⟩
    rw [wI_rd]
    by_cases e : k = c
    · rw [if_pos ⟨rfl, e⟩, hF.1 61 c (by omega), e]
    · rw [if_neg (by omega)]; exact hk k (by omega)
theorem m_minutes {n m k : Nat} {sl : Nat → Nat → Int32} {mn : Int32} {num : Nat → Nat → Int32} {h : AH} (hn9 : n ≤ 9) (hm : mOK h m) (hk : k ≤ 100) (M : MRep h n m num sl mn) : Ok (fX10_goMinutes (nI k) h) (fun h' => MRep h' n m (itP n m sl k (num, mn)).1 sl (itP n m sl k (num, mn)).2 ∧ Fr (fun o k => o = 60 ∧ k < 94) h h') := by
  unfold fX10_goMinutes
  refine L2 (f := fX10_goMinutes_2 (nI k)) (b := fX10_goMinutes_2_b (nI k)) (fun _ => rfl) (fun r x y h' => ∃ c, c + r = k ∧ x = nI k ∧ y = nI c ∧ MRep h' n m (itP n m sl c (num, mn)).1 sl (itP n m sl c (num, mn)).2 ∧ Fr (fun o k => o = 60 ∧ k < 94) h h') ?_ k FU (nI k) 0 h (by unfold FU; omega) ⟨0, by omega, rfl, rfl, M, Fr.rf⟩
  rintro r x y h' ⟨c, hc, rfl, rfl, M', F'⟩ Q hQ
  unfold fX10_goMinutes_2_b
  refine ok_if (fun c1 => ?_) (fun c1 => ?_)
  · rw [nI_leI (by omega) (by omega)] at c1
    have : c = k := by omega
    subst this
    exact ok_some ⟨M', F'⟩
  · rw [nI_leI (by omega) (by omega)] at c1
    have hm' : mOK h' m := by unfold mOK; rw [F'.1 59 3 (by omega)]; exact hm
    refine ok_bV (m_pass hn9 hm' M') (fun h2 hh => ?_)
    obtain ⟨M2, F2⟩ := hh
    rw [nI_1]
    exact hQ (r - 1) _ _ _ (by omega) ⟨c + 1, by omega, rfl, rfl, by rw [it_snoc]; exact M2, F'.tr F2⟩
def Sq (o k : Nat) : Prop := Sl o k ∨ o = 61 ∨ o = 74 ∨ (o = 59 ∧ k = 29)
def GoM (h : AH) (g : List (Nat × Int32)) : Prop := (∀ k, k < g.length → h.1 74 k = nI (g.getD k (0, 0)).1) ∧ h.1 59 29 = sumR g 0
theorem ML.fr {S : Nat → Nat → Prop} {h h' : AH} {Λ : LawF} (hL : ML h Λ) (F : Fr S h h') (hS : ∀ o k, (o = 59 ∧ (k = 14 ∨ k = 15)) ∨ o = 68 ∨ o = 71 → ¬ S o k) : ML h' Λ := fun n m num sl mn h2 a1 a2 a3 a4 a5 a6 =>
  hL n m num sl mn h2 a1 a2 (a3.trans (F.1 _ _ (hS _ _ (by omega)))) (a4.trans (F.1 _ _ (hS _ _ (by omega)))) (a5.trans (by funext k; exact F.1 68 k (hS _ _ (by omega)))) (a6.trans (by funext k; exact F.1 71 k (hS _ _ (by omega))))
theorem CL.fr {S : Nat → Nat → Prop} {h h' : AH} {Λ : LawF} (hL : CL h Λ) (F : Fr S h h') (hS : ∀ o k, (o = 15 ∧ k = 1) ∨ o = 16 → ¬ S o k) : CL h' Λ := fun t n m num sl mn h2 a1 a2 a3 a4 a5 a6 =>
  hL t n m num sl mn h2 a1 a2 a3 a4 (a5.trans (F.1 _ _ (hS _ _ (by omega)))) (a6.trans (by funext k; exact F.1 16 k (hS _ _ (by omega))))
/-- BEHIND k minutes one goes each, till all are gone: the model -/
theorem m_goAll {n m k : Nat} {sl : Nat → Nat → Int32} {mn ov : Int32} {num : Nat → Nat → Int32} {h : AH} {Λ : LawF} (hn9 : n ≤ 9) (hm : mOK h m) (hk : k ≤ 100) (M : MRep h n m num sl mn) (hL : ML h Λ) : Ok (fX10_goAll (nI k) ov h) (fun q => q.1 = nI (goS Λ n m sl ov n (itP n m sl k (num, mn)).1 (itP n m sl k (num, mn)).2).length ∧ GoM q.2 (goS Λ n m sl ov n (itP n m sl k (num, mn)).1 (itP n m sl k (num, mn)).2) ∧ Fr Sq h q.2) := by
  unfold fX10_goAll
  refine ok_bV m_keep (fun h1 hh => ?_)
  obtain ⟨k1, F1⟩ := hh
  have M1 : MRep h1 n m num sl mn := M.fr F1 (fun k q => by omega) (fun q => by omega) (fun q => by omega) (fun q => by omega) (fun q => by omega) (fun q => by omega)
  have hm1 : mOK h1 m := by unfold mOK; rw [F1.1 59 3 (by omega)]; exact hm
  refine ok_bV (m_minutes hn9 hm1 hk M1) (fun h2 hh => ?_)
  obtain ⟨M2, F2⟩ := hh
  generalize hq0 : itP n m sl k (num, mn) = q0 at M2 ⊢
  refine ok_let ?_
  have F3 : Fr (fun o k => Sq o k ∨ (o = 60 ∧ k < 94)) h (wI h2 59 29 0) := by
    refine Fr.w ?_ (Or.inl (Or.inr (Or.inr (Or.inr ⟨rfl, rfl⟩))))
    exact (F1.mono (fun o k q => Or.inl (Or.inr (Or.inl q)))).tr (F2.mono (fun o k q => Or.inr q))
  have M3 : MRep (wI h2 59 29 0) n m q0.1 sl q0.2 := M2.fr (S := fun o k => o = 59 ∧ k = 29) (Fr.w Fr.rf ⟨rfl, rfl⟩) (fun k q => by omega) (fun q => by omega) (fun q => by omega) (fun q => by omega) (fun q => by omega) (fun q => by omega)
  have hLx : ∀ {h' : AH}, Fr (fun o k => Sq o k ∨ (o = 60 ∧ k < 94)) h h' → ML h' Λ := fun F => hL.fr F (fun o k q z => by unfold Sq Sl Sg at z; omega)
  have hmx : ∀ {h' : AH}, Fr (fun o k => Sq o k ∨ (o = 60 ∧ k < 94)) h h' → mOK h' m := fun F => by unfold mOK; rw [F.1 59 3 (fun z => by unfold Sq Sl Sg at z; omega)]; exact hm
  have k3 : ∀ k, k < 94 → (wI h2 59 29 0).1 61 k = h.1 60 k := fun k hk => by rw [wI_rd, if_neg (by omega), F2.1 61 k (by omega)]; exact k1 k hk
  refine ok_b2 (m_lay hn9 M3 (hLx F3)) (fun v h4 hv => ?_)
  obtain ⟨ev, hO4, -, F4⟩ := hv
  have F4 : Fr Sl (wI h2 59 29 0) h4 := F4
  have F04 : Fr (fun o k => Sq o k ∨ (o = 60 ∧ k < 94)) h h4 := F3.tr (F4.mono (fun o k q => Or.inl (Or.inl q)))
  refine L3 (f := fX10_goAll_23 (nI k) ov) (b := fX10_goAll_23_b (nI k) ov) (fun _ => rfl) (fun r x y z h' => ∃ (pre : List (Nat × Int32)) (num' : Nat → Nat → Int32) (mn' : Int32), lftN num' n ≤ r ∧ pre.length + r ≤ 9 ∧ pre ++ goS Λ n m sl ov r num' mn' = goS Λ n m sl ov n q0.1 q0.2 ∧ x = ov ∧ y = nI pre.length ∧ z = nI (lftN num' n) ∧ MRep h' n m num' sl mn' ∧ OrdA h' (ordL (rd Λ n num' mn') num' n) ∧ GoM h' pre ∧ (∀ k, k < 94 → h'.1 61 k = h.1 60 k) ∧ Fr (fun o k => Sq o k ∨ (o = 60 ∧ k < 94)) h h') ?_ n FU ov 0 v h4 (by unfold FU; omega) ⟨[], q0.1, q0.2, lftN_le _ n, by simp; omega, rfl, rfl, rfl, ev, M3.fr F4 (fun k q => by unfold Sl Sg at q; omega) (fun q => by unfold Sl Sg at q; omega) (fun q => by unfold Sl Sg at q; omega) (fun q => by unfold Sl Sg at q; omega) (fun q => by unfold Sl Sg at q; omega) (fun q => by unfold Sl Sg at q; omega), hO4, ⟨fun k hk => by simp at hk, by rw [F4.1 59 29 (fun q => by unfold Sl Sg at q; omega), wI_rd, if_pos ⟨rfl, rfl⟩]; rfl⟩, fun k hk => by rw [F4.1 61 k (fun q => by unfold Sl Sg at q; omega)]; exact k3 k hk, F04⟩
  rintro r x y z h' ⟨pre, num', mn', hr, hpl, hpre, rfl, rfl, rfl, M', hO, hGo, h61, hF⟩ Q hQ
  unfold fX10_goAll_23_b
  have hl9 := lftN_le num' n
  refine ok_if (fun c1 => ?_) (fun c1 => ?_)
  · -- all are gone
    have l0 : lftN num' n = 0 := by
      rw [show (0 : Int32) = nI 0 from rfl, nI_leI (by omega) (by omega)] at c1
      omega
    refine ok_bV m_layb (fun h5 hh => ?_)
    obtain ⟨k5, F5⟩ := hh
    have e0 : goS Λ n m sl x r num' mn' = [] := by
      cases r with
      | zero => rfl
      | succ r => unfold goS; rw [if_pos (ordL_nil.mpr l0)]
    rw [e0, List.append_nil] at hpre
    rw [← hpre]
    refine ok_some ⟨rfl, ⟨fun k hk => (F5.1 74 k (by omega)).trans (hGo.1 k hk), (F5.1 59 29 (by omega)).trans hGo.2⟩, ?_⟩
    refine ⟨fun o k hS => ?_, F5.2.trans hF.2⟩
    by_cases e : o = 60 ∧ k < 94
    · rw [e.1]
      show h5.1 60 k = h.1 60 k
      rw [k5 k e.2, h61 k e.2]
    · rw [show (nI pre.length, h5).2 = h5 from rfl, F5.1 o k e]
      exact hF.1 o k (fun q => q.elim hS e)
  · -- one goes
    have lp : 0 < lftN num' n := by
      rw [show (0 : Int32) = nI 0 from rfl, nI_leI (by omega) (by omega)] at c1
      omega
    have hlen : (ordL (rd Λ n num' mn') num' n).length = lftN num' n := ordL_len _ _ _
    have hne : ordL (rd Λ n num' mn') num' n ≠ [] := fun q => by rw [ordL_nil] at q; omega
    have go : Ok (fX10_goAll_59 (nI k) x Q x (nI pre.length) (nI (nxt (ordL (rd Λ n num' mn') num' n) x)) h') (fun q => q.1 = nI (goS Λ n m sl x n q0.1 q0.2).length ∧ GoM q.2 (goS Λ n m sl x n q0.1 q0.2) ∧ Fr Sq h q.2) := by
      have hm2 := (ordL_mem _ num' n _).mp (nxt_mem (ov := x) hne)
      obtain ⟨w, ew⟩ : ∃ w, w = nxt (ordL (rd Λ n num' mn') num' n) x := ⟨_, rfl⟩
      rw [← ew] at hm2 ⊢
      have e1 := lftN_set n hm2.1 hm2.2
      obtain ⟨r, rfl⟩ : ∃ r', r = r' + 1 := ⟨r - 1, by omega⟩
      unfold fX10_goAll_59
      refine ok_t (inb_nI (by omega) (by decide)) (ok_let ?_)
      rw [ix_nI (show pre.length < 2 ^ 31 by omega), m_number (K := 0) (k := 0) rfl (show w < 9 by omega) (by decide), b2_some, wI_rd, if_neg (show ¬ (59 = 74 ∧ 29 = pre.length) by omega), wI_rd, if_neg (show ¬ (60 = 74 ∧ 6 * w + 0 = pre.length) by omega), M'.2.1 w hm2.1 0 (by decide), hGo.2]
      refine ok_let ?_
      rw [m_change (K := 5) (k := 5) rfl (show w < 9 by omega) (by decide), bV_some]
      have Fw : Fr (fun o k => Sq o k ∨ (o = 60 ∧ k < 94)) h (wI (wI (wI h' 74 pre.length (nI w)) 59 29 (sumR pre 0 + num' w 0)) 60 (6 * w + 5) 1) := ((hF.w (Or.inl (Or.inr (Or.inr (Or.inl rfl))))).w (Or.inl (Or.inr (Or.inr (Or.inr ⟨rfl, rfl⟩))))).w (Or.inr ⟨rfl, by omega⟩)
      have Mw : MRep (wI (wI (wI h' 74 pre.length (nI w)) 59 29 (sumR pre 0 + num' w 0)) 60 (6 * w + 5) 1) n m (setN num' w 5 1) sl mn' := by
        obtain ⟨a, b, c, d⟩ := M'
        refine ⟨?_, fun i hi k hk => ?_, ?_, ?_⟩
        · rw [wI_rd, if_neg (by omega), wI_rd, if_neg (by omega), wI_rd, if_neg (by omega)]; exact a
        · rw [wI_rd]
          unfold setN
          by_cases e : i = w ∧ k = 5
          · rw [if_pos (by omega), if_pos e]
          · rw [if_neg (by omega), if_neg e, wI_rd, if_neg (by omega), wI_rd, if_neg (by omega)]; exact b i hi k hk
        · rw [wI_rd, if_neg (by omega), wI_rd, if_neg (by omega), wI_rd, if_neg (by omega)]; exact c
        · refine d.fr ?_ ?_ ?_ ?_ (fun k q1 q2 => ?_) (hmx hF)
          · rw [wI_rd, if_neg (by omega), wI_rd, if_neg (by omega), wI_rd, if_neg (by omega)]
          · rw [wI_rd, if_neg (by omega), wI_rd, if_neg (by omega), wI_rd, if_neg (by omega)]
          · rw [wI_rd, if_neg (by omega), wI_rd, if_neg (by omega), wI_rd, if_neg (by omega)]
          · rw [wI_rd, if_neg (by omega), wI_rd, if_neg (by omega), wI_rd, if_neg (by omega)]
          · rw [wI_rd, if_neg (by omega), wI_rd, if_neg (by omega), wI_rd, if_neg (by omega)]
      refine ok_bV (m_pass hn9 (hmx Fw) Mw) (fun h6 hh => ?_)
      obtain ⟨M6, F6⟩ := hh
      have F06 := Fw.tr (F6.mono (fun o k q => Or.inr q))
      refine ok_b2 (m_lay hn9 M6 (hLx F06)) (fun v7 h7 hv => ?_)
      obtain ⟨ev7, hO7, -, F7⟩ := hv
      have F7 : Fr Sl h6 h7 := F7
      rw [nI_1]
      have e2 := lftN_congr (num := setN num' w 5 1) (num' := pmN n m sl mn' (setN num' w 5 1)) n (fun i hi => pmN_5 (by decide))
      have n7 : ∀ o k, ¬ Sl o k → ¬ (o = 60 ∧ k < 94) → h7.1 o k = (wI (wI (wI h' 74 pre.length (nI w)) 59 29 (sumR pre 0 + num' w 0)) 60 (6 * w + 5) 1).1 o k := fun o k q1 q2 => (F7.1 o k q1).trans (F6.1 o k q2)
      refine hQ r x _ _ h7 (by omega) ⟨pre ++ [(w, num' w 0)], pmN n m sl mn' (setN num' w 5 1), pmM mn', by omega, by simp; omega, ?_, rfl, by simp, ev7, M6.fr F7 (fun k q => by unfold Sl Sg at q; omega) (fun q => by unfold Sl Sg at q; omega) (fun q => by unfold Sl Sg at q; omega) (fun q => by unfold Sl Sg at q; omega) (fun q => by unfold Sl Sg at q; omega) (fun q => by unfold Sl Sg at q; omega), hO7, ⟨fun k hk => ?_, ?_⟩, fun k hk => ?_, F06.tr (F7.mono (fun o k q => Or.inl (Or.inl q)))⟩
      · rw [← hpre, List.append_assoc]
        show _ = pre ++ (if ordL (rd Λ n num' mn') num' n = [] then [] else _)
        rw [if_neg hne, ← ew]
        rfl
      · rw [n7 74 k (fun q => by unfold Sl Sg at q; omega) (by omega), wI_rd, if_neg (by omega), wI_rd, if_neg (by omega), wI_rd, app_getD]
        have hk : k < pre.length + 1 := by simpa using hk
        by_cases e : k = pre.length
        · rw [if_pos ⟨rfl, e⟩, if_neg (by omega), if_pos e]
        · rw [if_neg (by omega), if_pos (show k < pre.length by omega)]
          exact hGo.1 k (by omega)
      · rw [n7 59 29 (fun q => by unfold Sl Sg at q; omega) (by omega), wI_rd, if_neg (by omega), wI_rd, if_pos ⟨rfl, rfl⟩, sumR_app]
      · rw [n7 61 k (fun q => by unfold Sl Sg at q; omega) (by omega), wI_rd, if_neg (by omega), wI_rd, if_neg (by omega), wI_rd, if_neg (by omega)]
        exact h61 k hk
    have i0 : ix (0 : Int32) = 0 := by decide
    have i1 : ix (1 : Int32) = 1 := by decide
    unfold fX10_goAll_53
    rw [i0, i1, hO 0 (by omega)]
    unfold nxt at go
    rw [hlen] at go
    rw [show (1 : Int32) = nI 1 from rfl]
    refine ok_if (fun c2 => ?_) (fun c2 => ?_)
    · refine ok_if (fun c3 => ?_) (fun c3 => ?_)
      · rw [nI_leI (by omega) (by omega)] at c3
        rw [if_neg (by omega)] at go
        exact go
      · rw [nI_leI (by omega) (by omega)] at c3
        rw [if_pos ⟨c2, by omega⟩] at go
        rw [hO 1 (by omega)]
        exact go
    · rw [if_neg (fun q => c2 q.1)] at go
      exact go
