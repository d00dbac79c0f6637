/-! deeds that change the tray and the ledger -/
def CT (h : AH) (n m : Nat) (num sl : Nat → Nat → Int32) (mn : Int32) : Prop := CRep 1 h n m num sl mn ∧ ∀ i, i < n → h.1 6 i = num i 4
def MT (h : AH) (n m : Nat) (num sl : Nat → Nat → Int32) (mn : Int32) : Prop := h.1 59 2 = nI n ∧ (∀ i, i < n → ∀ k, k < 6 → h.1 60 (6 * i + k) = num i k) ∧ h.1 60 93 = mn ∧ h.1 59 23 = -1 ∧ h.1 59 3 = nI m ∧ (∀ s, s < m → ∀ j, j < 3 → h.1 60 (54 + 3 * s + j) = sl s j)
theorem TI_of {h : AH} {n m : Nat} {num sl : Nat → Nat → Int32} {mn : Int32} (w : WF n m num sl mn) (c : CT h n m num sl mn) (d : MT h n m num sl mn) : TI h n m num sl mn := ⟨w, c.1, c.2, d⟩
theorem TI.ct {h : AH} {n m : Nat} {num sl : Nat → Nat → Int32} {mn : Int32} (T : TI h n m num sl mn) : CT h n m num sl mn := ⟨T.2.1, T.2.2.1⟩
theorem TI.mt {h : AH} {n m : Nat} {num sl : Nat → Nat → Int32} {mn : Int32} (T : TI h n m num sl mn) : MT h n m num sl mn := T.2.2.2
theorem CT.fr {S : Nat → Nat → Prop} {h h' : AH} {n m : Nat} {num sl : Nat → Nat → Int32} {mn : Int32} (T : CT h n m num sl mn) (F : Fr S h h') (hS : ∀ o k, (1 ≤ o ∧ o ≤ 10) → ¬ S o k) : CT h' n m num sl mn :=
  ⟨T.1.fr F (fun o k h1 h2 => hS o k (by omega)), fun i hi => (F.1 _ _ (hS _ _ (by omega))).trans (T.2 i hi)⟩
theorem MT.fr {S : Nat → Nat → Prop} {h h' : AH} {n m : Nat} {num sl : Nat → Nat → Int32} {mn : Int32} (T : MT h n m num sl mn) (F : Fr S h h') (hS : ∀ o k, (o = 59 ∧ (k = 2 ∨ k = 3 ∨ k = 23)) ∨ o = 60 → ¬ S o k) : MT h' n m num sl mn := by
  obtain ⟨d, e, f, g, i, j⟩ := T
  exact ⟨(F.1 _ _ (hS _ _ (by omega))).trans d, fun i hi k hk => (F.1 _ _ (hS _ _ (by omega))).trans (e i hi k hk), (F.1 _ _ (hS _ _ (by omega))).trans f, (F.1 _ _ (hS _ _ (by omega))).trans g, (F.1 _ _ (hS _ _ (by omega))).trans i, fun s hs k hk => (F.1 _ _ (hS _ _ (by omega))).trans (j s hs k hk)⟩
theorem MT.m {h : AH} {n m : Nat} {num sl : Nat → Nat → Int32} {mn : Int32} (T : MT h n m num sl mn) : MRep h n m num sl mn := ⟨T.1, T.2.1, T.2.2.1, Or.inl ⟨T.2.2.2.1, T.2.2.2.2.1, T.2.2.2.2.2⟩⟩
def SC (o k : Nat) : Prop := (1 ≤ o ∧ o ≤ 10) ∨ o = 32 ∨ (Scr o k ∧ o < 59)
def SM (o k : Nat) : Prop := (o = 59 ∧ (k = 2 ∨ k = 3)) ∨ o = 60 ∨ o = 79 ∨ (Scr o k ∧ 59 ≤ o)
theorem MT.sc {h h' : AH} {n m : Nat} {num sl : Nat → Nat → Int32} {mn : Int32} (T : MT h n m num sl mn) (F : Fr SC h h') : MT h' n m num sl mn := T.fr F (fun o k q z => by unfold SC at z; omega)
theorem deed_inv {n m B n' m' : Nat} {num' sl' : Nat → Nat → Int32} {mn' : Int32} {Λ : LawF} {h h1 h2 : AH} {L : Nat → Int32} (O : Oth h n m B Λ) (hW : WF n' m' num' sl' mn') (hn : n ≤ n') (hm : m ≤ m') (c : CT h1 n' m' num' sl' mn') (l1 : ∀ k, k < 5 → h1.1 32 k = L k) (F1 : Fr SC h h1) (d : MT h2 n' m' num' sl' mn') (l2 : ∀ k, k < 5 → h2.1 79 k = L k) (F2 : Fr SM h1 h2) : Inv h2 := by
  have F : Fr (fun o k => SC o k ∨ SM o k) h h2 := (F1.mono (fun o k q => Or.inl q)).tr (F2.mono (fun o k q => Or.inr q))
  have c2 : CT h2 n' m' num' sl' mn' := c.fr F2 (fun o k q z => by unfold SM at z; omega)
  obtain ⟨oa, ob, oc, od, oe, og, oh, oi, oj, ol⟩ := O
  refine ⟨n', m', B, num', sl', mn', Λ, TI_of hW c2 d, oa.fr F (fun o k q z => ?_), fun k hk => ?_, oc.fr hn F (fun o k q z => ?_), od.fr hn hm F (fun o k q z => ?_), oe.fr F (fun o k q z => ?_), fun s hs => (og s hs).fr (Nat.le_refl B) hs F (fun o k q z => ?_), oh.fr F (fun o k q z => ?_), oi.fr F (fun o k q z => ?_), oj.fr F (fun o k q z => ?_), ol⟩
  · unfold SC SM Scr at z; omega
  · rw [l2 k hk, F2.1 32 k (by unfold SM Scr; omega), l1 k hk]
  · unfold SC SM Scr at z; omega
  · unfold SC SM Scr at z; omega
  · unfold SC SM Scr at z; omega
  · unfold SC SM Scr at z; omega
  · unfold SC SM Scr at z; omega
  · unfold SC SM Scr at z; omega
  · unfold SC SM Scr at z; omega
theorem deed_ok {f g : AH → Option (Int32 × AH)} {n m B n' m' : Nat} {num' sl' : Nat → Nat → Int32} {mn' v : Int32} {Λ : LawF} {h : AH} {L : Nat → Int32} (O : Oth h n m B Λ) (hW : WF n' m' num' sl' mn') (hn : n ≤ n') (hm : m ≤ m')
    (hc : Ok (f h) (fun q => q.1 = v ∧ CT q.2 n' m' num' sl' mn' ∧ (∀ k, k < 5 → q.2.1 32 k = L k) ∧ Fr SC h q.2))
    (hg : ∀ h1, Fr SC h h1 → Ok (g h1) (fun q => q.1 = v ∧ MT q.2 n' m' num' sl' mn' ∧ (∀ k, k < 5 → q.2.1 79 k = L k) ∧ Fr SM h1 q.2)) : Ok (f h) (fun q => Ok (g q.2) (fun q2 => q.1 = q2.1 ∧ Inv q2.2)) := by
  refine ok_mono hc (fun q hq => ?_)
  obtain ⟨ev, c, l1, F1⟩ := hq
  refine ok_mono (hg q.2 F1) (fun q2 hq2 => ?_)
  obtain ⟨ev2, d, l2, F2⟩ := hq2
  exact ⟨ev.trans ev2.symm, deed_inv O hW hn hm c l1 F1 d l2 F2⟩
/-- nothing changes -/
theorem deed_no {f g : AH → Option (Int32 × AH)} {n m B : Nat} {num sl : Nat → Nat → Int32} {mn v : Int32} {Λ : LawF} {h : AH} (T : TI h n m num sl mn) (O : Oth h n m B Λ) (hc : f h = some (v, h)) (hg : g h = some (v, h)) : Ok (f h) (fun q => Ok (g q.2) (fun q2 => q.1 = q2.1 ∧ Inv q2.2)) := by
  rw [hc]
  refine ok_some ?_
  show Ok (g h) _
  rw [hg]
  exact ok_some ⟨rfl, n, m, B, num, sl, mn, Λ, T, O⟩
theorem rg8 {v : Int32} : rgK 8 v ↔ 0 ≤ v.toInt ∧ v.toInt ≤ 199 := by
  unfold rgK
  have e1 : (ST 200 8).toInt = 0 := by decide +kernel
  have e2 : (ST 201 8).toInt = 199 := by decide +kernel
  rw [e1, e2]
theorem rg0' {v : Int32} : rgK 0 v ↔ 0 ≤ v.toInt ∧ v.toInt ≤ 99 := by
  unfold rgK
  have e1 : (ST 200 0).toInt = 0 := by decide +kernel
  have e2 : (ST 201 0).toInt = 99 := by decide +kernel
  rw [e1, e2]
theorem rg5' {v : Int32} : rgK 5 v ↔ 0 ≤ v.toInt ∧ v.toInt ≤ 1 := by
  unfold rgK
  have e1 : (ST 200 5).toInt = 0 := by decide +kernel
  have e2 : (ST 201 5).toInt = 1 := by decide +kernel
  rw [e1, e2]
theorem WF_pm {n m : Nat} {num sl : Nat → Nat → Int32} {mn : Int32} (w : WF n m num sl mn) : WF n m (pmN n m sl mn num) sl (pmM mn) := by
  obtain ⟨a, b, c, d, e⟩ := w
  refine ⟨a, b, fun i hi k hk => ?_, d, ?_⟩
  · by_cases q : k = 0 ∧ i < n ∧ num i 5 = 0
    · unfold pmN
      rw [if_pos q, q.1, rg0', jmax_toInt, jmin_toInt]
      have e1 : (0 : Int32).toInt = 0 := by decide
      have e2 : (99 : Int32).toInt = 99 := by decide
      omega
    · unfold pmN
      rw [if_neg q]
      exact c i hi k hk
  · rw [rg8] at e ⊢
    unfold pmM
    rw [jmin_toInt]
    obtain ⟨em, hm⟩ := nI_of_rg (p := mn) (a := 199) e.1 e.2 (by decide)
    have e1 : (199 : Int32).toInt = 199 := by decide
    rw [em, nI_1, nI_toInt (by omega), e1]
    omega
theorem WF_set {n m g k : Nat} {num sl : Nat → Nat → Int32} {mn v : Int32} (w : WF n m num sl mn) (hv : rgK k v) : WF n m (setN num g k v) sl mn := by
  obtain ⟨a, b, c, d, e⟩ := w
  refine ⟨a, b, fun i hi j hj => ?_, d, e⟩
  unfold setN
  by_cases q : i = g ∧ j = k
  · rw [if_pos q, q.2]; exact hv
  · rw [if_neg q]; exact c i hi j hj
theorem ix0 : ix (0 : Int32) = 0 := by decide
theorem ix1 : ix (1 : Int32) = 1 := by decide
theorem ix2 : ix (2 : Int32) = 2 := by decide
theorem ix3 : ix (3 : Int32) = 3 := by decide
theorem ix4 : ix (4 : Int32) = 4 := by decide
theorem ix93 : ix (93 : Int32) = 93 := by decide
def ledU (L : Nat → Int32) (k : Nat) (v : Int32) : Nat → Int32 := fun j => if j = k then v else L j
theorem c_pass1t {n m : Nat} {num sl : Nat → Nat → Int32} {mn : Int32} {h : AH} (w : WF n m num sl mn) (C : CT h n m num sl mn) : Ok (fX7_passMinute 1 h) (fun h' => CT h' n m (pmN n m sl mn num) sl (pmM mn) ∧ Fr (fun o k => o = 2 ∨ (o = 1 ∧ k = 11)) h h') := by
  refine ok_mono (c_pass (Or.inl rfl) w.1 (by have := w.2.1; omega) (fun s hs => (w.2.2.2.1 s hs).2.2) C.1) (fun h' hh => ?_)
  obtain ⟨c, F⟩ := hh
  refine ⟨⟨c, fun i hi => ?_⟩, F⟩
  rw [F.1 6 i (by omega), pmN_5 (by decide)]
  exact C.2 i hi
theorem m_passt {n m : Nat} {num sl : Nat → Nat → Int32} {mn : Int32} {h : AH} (w : WF n m num sl mn) (M : MT h n m num sl mn) : Ok (fX10_goMinute h) (fun h' => MT h' n m (pmN n m sl mn num) sl (pmM mn) ∧ Fr (fun o k => o = 60 ∧ k < 94) h h') := by
  refine ok_mono (m_pass w.1 (Or.inl w.2.1) M.m) (fun h' hh => ?_)
  obtain ⟨⟨a, b, c, d⟩, F⟩ := hh
  have e23 : h'.1 59 23 = -1 := by rw [F.1 59 23 (by omega)]; exact M.2.2.2.1
  refine ⟨⟨a, b, c, e23, ?_⟩, F⟩
  rcases d with ⟨_, d2, d3⟩ | ⟨m', em, d2, _⟩
  · exact ⟨d2, d3⟩
  · exfalso
    have : h'.1 59 3 = nI m := by rw [F.1 59 3 (by omega)]; exact M.2.2.2.2.1
    rw [this] at d2
    have := nI_inj (by have := w.2.1; omega) (by have := w.2.1; omega) d2
    omega
theorem op_minute : Sim fX9_minute fX10_minute := by
  refine sim_of (fun n m B num sl mn Λ h T O => ?_)
  refine deed_ok (n' := n) (m' := m) (num' := pmN n m sl mn num) (sl' := sl) (mn' := pmM mn) (v := pmM mn) (L := ledU (fun k => h.1 32 k) 1 (h.1 32 1 + 1)) O (WF_pm T.1) (Nat.le_refl n) (Nat.le_refl m) ?_ (fun h1 F1 => ?_)
  · unfold fX9_minute
    rw [ix1]
    refine ok_let ?_
    have F1 : Fr SC h (wI h 32 1 (h.1 32 1 + 1)) := Fr.rf.w (by unfold SC; omega)
    have C1 : CT (wI h 32 1 (h.1 32 1 + 1)) n m num sl mn := T.ct.fr (S := fun o k => o = 32) (Fr.rf.w rfl) (fun o k q z => by omega)
    refine ok_bV (c_pass1t T.1 C1) (fun h2 hh => ?_)
    obtain ⟨C2, F2⟩ := hh
    refine ok_some ⟨C2.1.2.2.1, C2, fun k hk => ?_, F1.tr (F2.mono (fun o k q => by unfold SC; omega))⟩
    rw [F2.1 32 k (by omega), wI_rd]
    unfold ledU
    by_cases e : k = 1
    · rw [if_pos ⟨rfl, e⟩, if_pos e]
    · rw [if_neg (fun z => e z.2), if_neg e]
  · unfold fX10_minute
    rw [ix1, ix93]
    refine ok_bV (m_passt T.1 (T.mt.sc F1)) (fun h2 hh => ?_)
    obtain ⟨M2, F2⟩ := hh
    refine ok_let ?_
    have M3 : MT (wI h2 79 1 (h2.1 79 1 + 1)) n m (pmN n m sl mn num) sl (pmM mn) := M2.fr (S := fun o k => o = 79) (Fr.rf.w rfl) (fun o k q z => by omega)
    refine ok_some ⟨M3.2.2.1, M3, fun k hk => ?_, (F2.mono (fun o k q => by unfold SM; omega)).w (by unfold SM; omega)⟩
    have e79 : ∀ j, j < 5 → h2.1 79 j = h.1 32 j := fun j hj => by rw [F2.1 79 j (by omega), F1.1 79 j (by unfold SC Scr; omega), O.2.1 j hj]
    rw [wI_rd]
    unfold ledU
    by_cases e : k = 1
    · rw [if_pos ⟨rfl, e⟩, if_pos e, e79 1 (by omega)]
    · rw [if_neg (fun z => e z.2), if_neg e, e79 k hk]
