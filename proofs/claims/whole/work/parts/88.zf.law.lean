/-! the law in force: the model -/
theorem num_of {h : AH} {n m i k : Nat} {num sl : Nat → Nat → Int32} {mn K : Int32} (M : MRep h n m num sl mn) (hn9 : n ≤ 9) (hi : i < n) (hk : k < 6) (hK : K = nI k) : fX10_number (nI i) K h = some (num i k, h) := by
  rw [m_number hK (by omega) hk, M.2.1 i hi k hk]
theorem MRep.w70 {h : AH} {n m k : Nat} {num sl : Nat → Nat → Int32} {mn v : Int32} (M : MRep h n m num sl mn) : MRep (wI h 70 k v) n m num sl mn := M.fr (S := fun o _ => o = 70) (Fr.rf.w rfl) (fun k q => by omega) (fun q => by omega) (fun q => by omega) (fun q => by omega) (fun q => by omega) (fun q => by omega)
theorem ml_of {h : AH} {t : Nat → Int32} {L a2 : Nat} {c : List Int32} {v : Wrt} (eg : tGv t L 200 0 = (some (c, v), a2)) (hL : L ≤ 120) (h14 : h.1 59 14 = nI L) (h15 : h.1 59 15 = 1) (h68 : ∀ i, i < L → h.1 68 i = t i) (h71 : ∀ k, k < 6 → h.1 71 k = mLet.getD k 0) : ML h (lawOf v) := by
  intro n m num sl mn h' hn9 M e14 e15 e68 e71 i hi
  have i0 : ix 0 = 0 := by decide
  have i1 : ix 1 = 1 := by decide
  have i2 : ix 2 = 2 := by decide
  have i3 : ix 3 = 3 := by decide
  have i4 : ix 4 = 4 := by decide
  have i5 : ix 5 = 5 := by decide
  have i93 : ix 93 = 93 := by decide
  unfold fX10_sorryBy
  rw [e15, h15]
  refine ok_f (by decide) ?_
  rw [num_of M hn9 hi (k := 0) (K := 0) (by omega) rfl, b2_some, i0, i1, i2, i3, i4, i5, i93]
  refine ok_let ?_
  have M1 := M.w70 (k := 0) (v := num i 0)
  rw [num_of M1 hn9 hi (k := 2) (K := 2) (by omega) rfl, b2_some]
  refine ok_let ?_
  have M2 := M1.w70 (k := 1) (v := num i 2)
  rw [num_of M2 hn9 hi (k := 3) (K := 3) (by omega) rfl, b2_some]
  refine ok_let (ok_let ?_)
  have M3 := M2.w70 (k := 2) (v := num i 3)
  rw [M3.2.2.1]
  have M4 := M3.w70 (k := 3) (v := mn)
  rw [m_left hn9 M4, b2_some]
  refine ok_let (ok_let ?_)
  have F6 : Fr (fun o _ => o = 70) h' (wI (wI (wI (wI (wI (wI h' 70 0 (num i 0)) 70 1 (num i 2)) 70 2 (num i 3)) 70 3 mn) 70 4 (nI (lftN num n))) 70 5 (nI i)) := ((((((Fr.rf (S := fun o _ => o = 70)).w (by rfl)).w (by rfl)).w (by rfl)).w (by rfl)).w (by rfl)).w (by rfl)
  have V6 : ∀ k, k < 6 → (wI (wI (wI (wI (wI (wI h' 70 0 (num i 0)) 70 1 (num i 2)) 70 2 (num i 3)) 70 3 mn) 70 4 (nI (lftN num n))) 70 5 (nI i)).1 70 k = envN (num i 0) (num i 2) (num i 3) mn (nI (lftN num n)) (nI i) (mLet.getD k 0) := by
    intro k hk
    have : k = 0 ∨ k = 1 ∨ k = 2 ∨ k = 3 ∨ k = 4 ∨ k = 5 := by omega
    rcases this with rfl | rfl | rfl | rfl | rfl | rfl
    · rw [wI_rd, if_neg (by omega), wI_rd, if_neg (by omega), wI_rd, if_neg (by omega), wI_rd, if_neg (by omega), wI_rd, if_neg (by omega), wI_rd, if_pos ⟨rfl, rfl⟩]; rfl
    · rw [wI_rd, if_neg (by omega), wI_rd, if_neg (by omega), wI_rd, if_neg (by omega), wI_rd, if_neg (by omega), wI_rd, if_pos ⟨rfl, rfl⟩]; rfl
    · rw [wI_rd, if_neg (by omega), wI_rd, if_neg (by omega), wI_rd, if_neg (by omega), wI_rd, if_pos ⟨rfl, rfl⟩]; rfl
    · rw [wI_rd, if_neg (by omega), wI_rd, if_neg (by omega), wI_rd, if_pos ⟨rfl, rfl⟩]; rfl
    · rw [wI_rd, if_neg (by omega), wI_rd, if_pos ⟨rfl, rfl⟩]; rfl
    · rw [wI_rd, if_pos ⟨rfl, rfl⟩]; rfl
  revert F6 V6
  generalize wI (wI (wI (wI (wI (wI h' 70 0 (num i 0)) 70 1 (num i 2)) 70 2 (num i 3)) 70 3 mn) 70 4 (nI (lftN num n))) 70 5 (nI i) = h6
  intro F6 V6
  refine ok_let ?_
  rw [F6.1 59 14 (by omega), e14, h14]
  have F7 : Fr (fun o k => o = 59 ∧ k = 17) h6 (wI h6 59 17 (nI L)) := Fr.rf.w ⟨rfl, rfl⟩
  have V7 : (wI h6 59 17 (nI L)).1 59 17 = nI L := by rw [wI_rd, if_pos ⟨rfl, rfl⟩]
  revert F7 V7
  generalize wI h6 59 17 (nI L) = h7
  intro F7 V7
  have FF : Fr Sg h' h7 := (F6.mono (fun o k q => by unfold Sg; omega)).tr (F7.mono (fun o k q => by unfold Sg; omega))
  refine L1 (f := fX10_sorryBy_120 (nI i)) (b := fX10_sorryBy_120_b (nI i)) (fun _ => rfl) (fun r x h8 => ∃ c, c + r = L ∧ x = nI c ∧ (∀ j, j < c → h8.1 69 j = t j) ∧ Fr (fun o _ => o = 69) h7 h8) ?_ L FU 0 h7 (by unfold FU; omega) ⟨0, by omega, rfl, fun j hj => absurd hj (Nat.not_lt_zero j), Fr.rf⟩
  rintro r x h8 ⟨p, hp, rfl, V8, F8⟩ Q hQ
  unfold fX10_sorryBy_120_b
  rw [F8.1 59 17 (by omega), V7]
  refine ok_if (fun d1 => ?_) (fun d1 => ?_)
  · rw [nI_leI (by omega) (by omega)] at d1
    have T8 : TX (envN (num i 0) (num i 2) (num i 3) mn (nI (lftN num n)) (nI i)) t L h8 := by
      refine ⟨hL, ?_, fun j hj => V8 j (by omega), fun k hk => ?_, fun k hk => ?_⟩
      · rw [F8.1 59 17 (by omega)]; exact V7
      · rw [F8.1 71 k (by omega), F7.1 71 k (by omega), F6.1 71 k (by omega), e71]; exact h71 k hk
      · rw [F8.1 70 k (by omega), F7.1 70 k (by omega)]; exact V6 k hk
    refine ok_b2 (m_gives T8) (fun r9 h9 hh => ?_)
    obtain ⟨F9, P9⟩ := hh
    rw [eg] at P9
    have e9 : r9 = v (envN (num i 0) (num i 2) (num i 3) mn (nI (lftN num n)) (nI i)) := P9.1
    rw [m_bound, b2_some]
    refine ok_some ⟨?_, (FF.tr (F8.mono (fun o k q => by unfold Sg; omega))).tr (Fr.mono F9 (fun o k q => by unfold Sg; unfold Sp at q; omega))⟩
    show jmax 0 (jmin 99 r9) = _
    rw [e9]
    rfl
  · rw [nI_leI (by omega) (by omega)] at d1
    refine ok_t (inb_nI (by omega) (by decide)) (ok_let ?_)
    rw [ix_nI (by omega), nI_1]
    refine hQ (r - 1) _ _ (by omega) ⟨p + 1, by omega, rfl, fun j hj => ?_, F8.w rfl⟩
    rw [wI_rd]
    by_cases z : j = p
    · rw [if_pos ⟨rfl, z⟩, F8.1 68 p (by omega), F7.1 68 p (by omega), F6.1 68 p (by omega), e68, z]
      exact h68 p (by omega)
    · rw [if_neg (fun y => z y.2)]
      exact V8 j (by omega)
/-! a new law -/
def ZL (o k : Nat) : Prop := (o = 0 ∧ k = 2) ∨ (12 ≤ o ∧ o ≤ 14) ∨ (o = 15 ∧ k = 1) ∨ o = 16 ∨ (o = 59 ∧ (k = 12 ∨ k = 14 ∨ k = 15 ∨ (17 ≤ k ∧ k ≤ 20))) ∨ o = 68 ∨ o = 69 ∨ o = 70
theorem law_inv {h h' : AH} {n m B : Nat} {num sl : Nat → Nat → Int32} {mn : Int32} {Λ Λ' : LawF} (T : TI h n m num sl mn) (O : Oth h n m B Λ) (F : Fr ZL h h') (e0 : h'.1 0 2 = 0) (e1 : h'.1 59 12 = 0) (hc : CL h' Λ') (hm : ML h' Λ') (hr : inR Λ') : Inv h' := by
  obtain ⟨oa, ob, oc, od, oe, og, oh, oi, oj, ol⟩ := O
  exact ⟨n, m, B, num, sl, mn, Λ', T.fr F (fun o k q z => by unfold ZL at z; omega), ⟨0, by omega, e0, e1, fun k hk => absurd hk (Nat.not_lt_zero k)⟩, ob.fr F (fun o k q z => by unfold ZL at z; omega), oc.fr (Nat.le_refl n) F (fun o k q z => by unfold ZL at z; omega), od.fr (Nat.le_refl n) (Nat.le_refl m) F (fun o k q z => by unfold ZL at z; omega), oe.fr F (fun o k q z => by unfold ZL at z; omega), fun s hs => (og s hs).fr (Nat.le_refl B) hs F (fun o k q z => by unfold ZL at z; omega), oh.fr F (fun o k q z => by unfold ZL at z; omega), hc, hm, hr⟩
/-- the model: the text is read, with all names 0 -/
theorem m_law {h : AH} {t : Nat → Int32} {L : Nat} (hL : L ≤ 120) (h12 : h.1 59 12 = nI L) (h67 : ∀ i, i < L → h.1 67 i = t i) (h71 : ∀ k, k < 6 → h.1 71 k = mLet.getD k 0) {P : Int32 × AH → Prop} (K : ∀ (r : Int32) (h2 : AH), PG (fun _ => 0) L 0 0 (tGv t L 200 0) (r, h2) → (∀ i, i < L → h2.1 69 i = t i) → h2.1 59 17 = nI L → h2.1 59 12 = 0 → Fr (fun o k => o = 69 ∨ o = 70 ∨ (o = 59 ∧ (k = 12 ∨ (17 ≤ k ∧ k ≤ 20)))) h h2 → Ok (if (h2.1 59 19) = 0 then fX10_law_85 h2 else if (h2.1 59 17) ≤ (h2.1 59 18) then fX10_law_95 FU 0 h2 else fX10_law_85 h2) P) : Ok (fX10_law h) P := by
  unfold fX10_law
  refine ok_let ?_
  rw [h12]
  have F1 : Fr (fun o k => o = 59 ∧ k = 17) h (wI h 59 17 (nI L)) := Fr.rf.w ⟨rfl, rfl⟩
  have V1 : (wI h 59 17 (nI L)).1 59 17 = nI L := by rw [wI_rd, if_pos ⟨rfl, rfl⟩]
  revert F1 V1
  generalize wI h 59 17 (nI L) = h1
  intro F1 V1
  refine L1 (f := fX10_law_10) (b := fX10_law_10_b) (fun _ => rfl) (fun r x h8 => ∃ c, c + r = L ∧ x = nI c ∧ (∀ j, j < c → h8.1 69 j = t j) ∧ Fr (fun o _ => o = 69) h1 h8) ?_ L FU 0 h1 (by unfold FU; omega) ⟨0, by omega, rfl, fun j hj => absurd hj (Nat.not_lt_zero j), Fr.rf⟩
  rintro r x h8 ⟨p, hp, rfl, V8, F8⟩ Q hQ
  unfold fX10_law_10_b
  rw [F8.1 59 17 (by omega), V1]
  refine ok_if (fun d1 => ?_) (fun d1 => ?_)
  · rw [nI_leI (by omega) (by omega)] at d1
    refine ok_let ?_
    have F9 : Fr (fun o k => o = 59 ∧ k = 12) h8 (wI h8 59 12 0) := Fr.rf.w ⟨rfl, rfl⟩
    have V9 : (wI h8 59 12 0).1 59 12 = 0 := by rw [wI_rd, if_pos ⟨rfl, rfl⟩]
    revert F9 V9
    generalize wI h8 59 12 0 = h9
    intro F9 V9
    refine L1 (f := fX10_law_43) (b := fX10_law_43_b) (fun _ => rfl) (fun r x h10 => ∃ c, c + r = 6 ∧ x = nI c ∧ (∀ j, j < c → h10.1 70 j = 0) ∧ Fr (fun o _ => o = 70) h9 h10) ?_ 6 FU 0 h9 (by unfold FU; omega) ⟨0, by omega, rfl, fun j hj => absurd hj (Nat.not_lt_zero j), Fr.rf⟩
    rintro r' x h10 ⟨p', hp', rfl, V10, F10⟩ Q' hQ'
    unfold fX10_law_43_b
    refine ok_if (fun d2 => ?_) (fun d2 => ?_)
    · rw [show (6 : Int32) = nI 6 from rfl, nI_leI (by omega) (by omega)] at d2
      have T10 : TX (fun _ => 0) t L h10 := by
        refine ⟨hL, ?_, fun j hj => ?_, fun k hk => ?_, fun k hk => V10 k (by omega)⟩
        · rw [F10.1 59 17 (by omega), F9.1 59 17 (by omega), F8.1 59 17 (by omega)]; exact V1
        · rw [F10.1 69 j (by omega), F9.1 69 j (by omega)]; exact V8 j (by omega)
        · rw [F10.1 71 k (by omega), F9.1 71 k (by omega), F8.1 71 k (by omega), F1.1 71 k (by omega)]; exact h71 k hk
      refine ok_b2 (m_gives T10) (fun r11 h11 hh => ?_)
      obtain ⟨F11, P11⟩ := hh
      have F11 : Fr Sp h10 h11 := F11
      refine K r11 h11 P11 (fun j hj => ?_) ?_ ?_ ((((F1.mono (fun o k q => by omega)).tr (F8.mono (fun o k q => by omega))).tr (F9.mono (fun o k q => by omega))).tr ((F10.mono (fun o k q => by omega)).tr (F11.mono (fun o k q => by unfold Sp at q; omega))))
      · rw [F11.1 69 j (by unfold Sp; omega)]; exact T10.2.2.1 j hj
      · rw [F11.1 59 17 (by unfold Sp; omega)]; exact T10.2.1
      · rw [F11.1 59 12 (by unfold Sp; omega), F10.1 59 12 (by omega)]; exact V9
    · rw [show (6 : Int32) = nI 6 from rfl, nI_leI (by omega) (by omega)] at d2
      refine ok_t (inb_nI (by omega) (by decide)) (ok_let ?_)
      rw [ix_nI (by omega), nI_1]
      refine hQ' (r' - 1) _ _ (by omega) ⟨p' + 1, by omega, rfl, fun j hj => ?_, F10.w rfl⟩
      rw [wI_rd]
      by_cases z : j = p'
      · rw [if_pos ⟨rfl, z⟩]
      · rw [if_neg (fun y => z y.2)]
        exact V10 j (by omega)
  · rw [nI_leI (by omega) (by omega)] at d1
    refine ok_t (inb_nI (by omega) (by decide)) (ok_let ?_)
    rw [ix_nI (by omega), nI_1]
    refine hQ (r - 1) _ _ (by omega) ⟨p + 1, by omega, rfl, fun j hj => ?_, F8.w rfl⟩
    rw [wI_rd]
    by_cases z : j = p
    · rw [if_pos ⟨rfl, z⟩, F8.1 67 p (by omega), F1.1 67 p (by omega), z]
      exact h67 p (by omega)
    · rw [if_neg (fun y => z y.2)]
      exact V8 j (by omega)
theorem op_law : Sim fX9_law fX10_law := by
  refine sim_of (fun n m B num sl mn Λ h T O => ?_)
  obtain ⟨L, l1, l2, l3, l4⟩ := O.1
  have C71 := O.2.2.2.2.2.2.1.2.1
  unfold fX9_law
  rw [l2]
  obtain ⟨t, ht⟩ : ∃ t : Nat → Int32, t = fun k => h.1 11 k := ⟨_, rfl⟩
  refine ok_b2 (c_fault (t := t) l1 (fun i hi => by rw [ht])) (fun r h1 hh => ok_let ?_)
  obtain ⟨P1, F1⟩ := hh
  have F1 : Fr SY h h1 := F1
  rcases hg : tGv t L 200 0 with ⟨_ | ⟨c, v⟩, a⟩
  · rw [hg] at P1
    have r1 : r = nI a := P1.1
    have ha : a ≤ 120 := P1.2
    rw [r1]
    refine ok_f (by rw [show (0 : Int32) = nI 0 from rfl, nI_ltI (by omega) (by omega)]; omega) (ok_some ?_)
    have F2 : Fr (fun o k => o = 0 ∧ k = 2) h1 (wI h1 0 2 0) := Fr.rf.w ⟨rfl, rfl⟩
    have V2 : (wI h1 0 2 0).1 0 2 = 0 := by rw [wI_rd, if_pos ⟨rfl, rfl⟩]
    show Ok (fX10_law (wI h1 0 2 0)) _
    revert F2 V2
    generalize wI h1 0 2 0 = h2
    intro F2 V2
    refine m_law (t := t) l1 (by rw [F2.1 59 12 (by omega), F1.1 59 12 (by unfold SY; omega)]; exact l3) (fun i hi => by rw [F2.1 67 i (by omega), F1.1 67 i (by unfold SY; omega), ht]; exact (l4 i hi).1) (fun k hk => by rw [F2.1 71 k (by omega), F1.1 71 k (by unfold SY; omega)]; exact C71 k hk) (fun r3 h3 P3 V69 V17 V12 F3 => ?_)
    rw [hg] at P3
    obtain ⟨p1, p2, p3⟩ := P3
    have p1 : h3.1 59 18 = nI a := p1
    have fin : Ok (fX10_law_85 h3) (fun q2 => (-100 - nI a, h2).1 = q2.1 ∧ Inv q2.2) := by
      unfold fX10_law_85
      rw [p1]
      refine ok_some ⟨rfl, ?_⟩
      have G : Fr (fun o k => (o = 0 ∧ k = 2) ∨ (12 ≤ o ∧ o ≤ 14) ∨ o = 69 ∨ o = 70 ∨ (o = 59 ∧ (k = 12 ∨ (17 ≤ k ∧ k ≤ 20)))) h h3 := ((F1.mono (fun o k q => by unfold SY at q; omega)).tr (F2.mono (fun o k q => by omega))).tr (F3.mono (fun o k q => by omega))
      exact law_inv T O (G.mono (fun o k q => by unfold ZL; omega)) (by rw [F3.1 0 2 (by omega)]; exact V2) V12 (O.cl.fr G (fun o k q z => by omega)) (O.ml.fr G (fun o k q z => by omega)) O.ir
    rcases p2 with q | ⟨q, q2⟩
    · exact ok_t q fin
    · refine ok_f (by rw [show h3.1 59 19 = 1 from q]; decide) (ok_f ?_ fin)
      rw [V17, p1, nI_leI (by omega) (by omega)]
      omega
  · rw [hg] at P1
    have r1 : r = -1 := P1.1
    have Tc : CodeR h1 c := P1.2.1
    have hc : c.length ≤ 121 := P1.2.2
    rw [r1]
    refine ok_t (by decide) ?_
    have F2 : Fr (fun o k => o = 0 ∧ k = 2) h1 (wI h1 0 2 0) := Fr.rf.w ⟨rfl, rfl⟩
    have V2 : (wI h1 0 2 0).1 0 2 = 0 := by rw [wI_rd, if_pos ⟨rfl, rfl⟩]
    revert F2 V2
    generalize wI h1 0 2 0 = h2
    intro F2 V2
    have Tc2 := Tc.fr F2 (fun o k q => by omega)
    unfold fX3_become
    refine ok_bV (Q := fun h3 => h3.1 15 1 = nI c.length ∧ (∀ i, i < c.length → h3.1 16 i = c.getD i 0) ∧ Fr (fun o k => (o = 15 ∧ k = 1) ∨ o = 16) h2 h3) (ok_t (by decide) (ok_let (ok_let (ok_some ⟨?_, fun i hi => ?_, ?_⟩)))) (fun h3 hh => ok_some ?_)
    · rw [wI_rd, if_pos ⟨rfl, rfl⟩, cpI_rd, if_neg (by omega)]
      exact Tc2.1
    · rw [wI_rd, if_neg (by omega), cpI_rd, show ix 0 = 0 by decide, show ix 121 = 121 by decide, if_pos ⟨rfl, by omega, by omega⟩, Nat.zero_add, Nat.sub_zero]
      exact Tc2.2 i hi
    · refine Fr.w ⟨fun o k q => ?_, rfl⟩ (Or.inl ⟨rfl, rfl⟩)
      rw [cpI_rd, if_neg (fun z => q (Or.inr z.1))]
    · obtain ⟨g1, g2, F3⟩ := hh
      show Ok (fX10_law h3) _
      refine m_law (t := t) l1 (by rw [F3.1 59 12 (by omega), F2.1 59 12 (by omega), F1.1 59 12 (by unfold SY; omega)]; exact l3) (fun i hi => by rw [F3.1 67 i (by omega), F2.1 67 i (by omega), F1.1 67 i (by unfold SY; omega), ht]; exact (l4 i hi).1) (fun k hk => by rw [F3.1 71 k (by omega), F2.1 71 k (by omega), F1.1 71 k (by unfold SY; omega)]; exact C71 k hk) (fun r4 h4 P4 V69 V17 V12 F4 => ?_)
      rw [hg] at P4
      obtain ⟨p0, p1, p2, p3⟩ := P4
      have p1 : h4.1 59 18 = nI a := p1
      have p2 : h4.1 59 19 = 1 := p2
      refine ok_f (by rw [p2]; decide) (ok_t (by rw [V17, p1, nI_leI (by omega) (by omega)]; omega) ?_)
      refine L1 (f := fX10_law_95) (b := fX10_law_95_b) (fun _ => rfl) (fun r x h8 => ∃ c, c + r = L ∧ x = nI c ∧ (∀ j, j < c → h8.1 68 j = t j) ∧ Fr (fun o _ => o = 68) h4 h8) ?_ L FU 0 h4 (by unfold FU; omega) ⟨0, by omega, rfl, fun j hj => absurd hj (Nat.not_lt_zero j), Fr.rf⟩
      rintro r x h8 ⟨p, hp, rfl, V8, F8⟩ Q hQ
      unfold fX10_law_95_b
      rw [F8.1 59 17 (by omega), V17]
      refine ok_if (fun d1 => ?_) (fun d1 => ?_)
      · rw [nI_leI (by omega) (by omega)] at d1
        refine ok_let (ok_let (ok_some ⟨rfl, ?_⟩))
        have F9 : Fr (fun o k => o = 59 ∧ (k = 14 ∨ k = 15)) h8 (wI (wI h8 59 14 (nI L)) 59 15 1) := (Fr.rf.w ⟨rfl, Or.inl rfl⟩).w ⟨rfl, Or.inr rfl⟩
        have V14 : (wI (wI h8 59 14 (nI L)) 59 15 1).1 59 14 = nI L := by rw [wI_rd, if_neg (by omega), wI_rd, if_pos ⟨rfl, rfl⟩]
        have V15 : (wI (wI h8 59 14 (nI L)) 59 15 1).1 59 15 = 1 := by rw [wI_rd, if_pos ⟨rfl, rfl⟩]
        show Inv (wI (wI h8 59 14 (nI L)) 59 15 1)
        revert F9 V14 V15
        generalize wI (wI h8 59 14 (nI L)) 59 15 1 = h9
        intro F9 V14 V15
        have G4 : Fr ZL h h4 := (((F1.mono (fun o k q => by unfold ZL; unfold SY at q; omega)).tr (F2.mono (fun o k q => by unfold ZL; omega))).tr (Fr.mono F3 (fun o k q => by unfold ZL; omega))).tr (F4.mono (fun o k q => by unfold ZL; omega))
        have G9 : Fr ZL h h9 := (G4.tr (F8.mono (fun o k q => by unfold ZL; omega))).tr (F9.mono (fun o k q => by unfold ZL; omega))
        refine law_inv (Λ' := lawOf v) T O G9 ?_ ?_ (cl_of hg hc ?_ (fun i hi => ?_)) (ml_of hg l1 V14 V15 (fun i hi => ?_) (fun k hk => ?_)) (law_in v)
        · rw [F9.1 0 2 (by omega), F8.1 0 2 (by omega), F4.1 0 2 (by omega), F3.1 0 2 (by omega)]; exact V2
        · rw [F9.1 59 12 (by omega), F8.1 59 12 (by omega)]; exact V12
        · rw [F9.1 15 1 (by omega), F8.1 15 1 (by omega), F4.1 15 1 (by omega)]; exact g1
        · rw [F9.1 16 i (by omega), F8.1 16 i (by omega), F4.1 16 i (by omega)]; exact g2 i hi
        · rw [F9.1 68 i (by omega)]; exact V8 i (by omega)
        · rw [G9.1 71 k (by unfold ZL; omega)]; exact C71 k hk
      · rw [nI_leI (by omega) (by omega)] at d1
        refine ok_t (inb_nI (by omega) (by decide)) (ok_let ?_)
        rw [ix_nI (by omega), nI_1]
        refine hQ (r - 1) _ _ (by omega) ⟨p + 1, by omega, rfl, fun j hj => ?_, F8.w rfl⟩
        rw [wI_rd]
        by_cases z : j = p
        · rw [if_pos ⟨rfl, z⟩, F8.1 69 p (by omega), z]
          exact V69 p (by omega)
        · rw [if_neg (fun y => z y.2)]
          exact V8 j (by omega)
