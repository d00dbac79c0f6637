/-! drawn -/
theorem ushr_nI (v : Int32) : ∃ a, a < 2 ^ 24 ∧ jushr v 8 = nI a := by
  have e : (Int32.toUInt32 8 &&& Int32.toUInt32 31) = 8 := by decide
  unfold jushr
  rw [e]
  have h1 : (v.toUInt32 >>> 8).toNat < 2 ^ 24 := by
    rw [UInt32.toNat_shiftRight]
    have := v.toUInt32.toNat_lt
    have e8 : (8 : UInt32).toNat % 32 = 8 := by decide
    rw [e8, Nat.shiftRight_eq_div_pow]
    omega
  refine ⟨_, h1, ?_⟩
  rw [i_eq, nI_toInt (by omega)]
  refine BitVec.toInt_eq_toNat_of_lt ?_
  have : (v.toUInt32 >>> 8).toBitVec.toNat = (v.toUInt32 >>> 8).toNat := rfl
  show 2 * (v.toUInt32 >>> 8).toBitVec.toNat < 2 ^ 32
  omega
theorem drG (v : Int32) {n : Nat} (hn : 0 < n) (hn9 : n ≤ 9) : ∃ g, g < n ∧ jrem (jushr v 8) (nI n) = nI g := by
  obtain ⟨a, ha, e⟩ := ushr_nI v
  rw [e, rem_nI rfl hn (by omega) (by omega)]
  exact ⟨_, Nat.mod_lt _ hn, rfl⟩
def drN (n : Nat) (ch : Int32) (num : Nat → Nat → Int32) (s : Int32) : Nat → Nat → Int32 := if ch ≤ jrem (jushr s 24) 12 then num else if num (jrem (jushr s 8) (nI n)).toInt.toNat 5 = 0 then setN num (jrem (jushr s 8) (nI n)).toInt.toNat 0 (jmin 99 (num (jrem (jushr s 8) (nI n)).toInt.toNat 0 + (1 + jrem (jushr s 16) 20))) else num
def drX (s : Int32) : Int32 := s * 1103515245 + 12345
def drS (n m : Nat) (sl : Nat → Nat → Int32) (ch : Int32) : Nat → (Nat → Nat → Int32) × Int32 × Int32 → (Nat → Nat → Int32) × Int32 × Int32
  | 0, q => q
  | k + 1, q => let r := drS n m sl ch k q
    (pmN n m sl r.2.1 (drN n ch r.1 (drX r.2.2)), pmM r.2.1, drX r.2.2)
theorem drN_5 {n : Nat} {ch s : Int32} {num : Nat → Nat → Int32} {i k : Nat} (hk : k ≠ 0) : drN n ch num s i k = num i k := by
  unfold drN
  split
  · rfl
  · split
    · rw [setN_ne (by omega)]
    · rfl
theorem drN_gone {n : Nat} {ch s : Int32} {num : Nat → Nat → Int32} (h : goneOK n num) : goneOK n (drN n ch num s) := fun i hi => by
  rw [drN_5 (by decide)]
  exact h i hi
theorem drS_gone {n m : Nat} {sl : Nat → Nat → Int32} {ch : Int32} {q : (Nat → Nat → Int32) × Int32 × Int32} (h : goneOK n q.1) : ∀ k, goneOK n (drS n m sl ch k q).1
  | 0 => h
  | k + 1 => pmN_gone (drN_gone (drS_gone h k))
theorem c_sup {n m mi : Nat} {sl : Nat → Nat → Int32} {mn ch sd : Int32} {num : Nat → Nat → Int32} {h : AH} (hn0 : 0 < n) (hn9 : n ≤ 9) (hm : m ≤ 12) (hby : ∀ s, s < m → ∃ j, j < n ∧ sl s 2 = nI j) (hmi : mi ≤ 100) (C : CRep 1 h n m num sl mn) (hsd : h.1 18 6 = sd) : Ok (fX6_sup (nI mi) ch h) (fun h' => CRep 19 h' n m (drS n m sl ch mi (num, mn, sd)).1 sl (drS n m sl ch mi (num, mn, sd)).2.1 ∧ h'.1 18 6 = (drS n m sl ch mi (num, mn, sd)).2.2 ∧ Fr Scr h h') := by
  unfold fX6_sup
  have hb : Ok (fX7_becomeLike h) (fun h' => CRep 19 h' n m num sl mn ∧ h'.1 18 6 = sd ∧ Fr Scr h h') := by
    obtain ⟨h1, e, C1, F1⟩ := c_become hn9 hm C
    refine ⟨h1, e, C1, ?_, F1.mono St_scr⟩
    rw [← hsd]
    unfold fX7_becomeLike at e
    have i0 : ix (0 : Int32) = 0 := by decide
    have i9 : ix (9 : Int32) = 9 := by decide
    have i12 : ix (12 : Int32) = 12 := by decide
    have c9 : cpOK 0 0 9 9 9 = true := by decide
    have c12 : cpOK 0 0 12 13 13 = true := by decide
    rw [i0, i9, i12] at e
    simp only [letV, c9, c12, if_true] at e
    injection e with e
    rw [← e]
    simp [cpI_rd, wI_rd]
  refine ok_bV hb (fun h1 hh => ?_)
  obtain ⟨C1, s1, F1⟩ := hh
  refine L3 (f := fX6_sup_13 (nI mi) ch) (b := fX6_sup_13_b (nI mi) ch) (fun _ => rfl) (fun r x y z h' => ∃ c, c + r = mi ∧ x = nI mi ∧ y = ch ∧ z = nI c ∧ CRep 19 h' n m (drS n m sl ch c (num, mn, sd)).1 sl (drS n m sl ch c (num, mn, sd)).2.1 ∧ h'.1 18 6 = (drS n m sl ch c (num, mn, sd)).2.2 ∧ Fr Scr h h') ?_ mi FU (nI mi) ch 0 h1 (by unfold FU; omega) ⟨0, by omega, rfl, rfl, rfl, C1, s1, F1⟩
  rintro r x y z h' ⟨c, hc, rfl, rfl, rfl, C', s', F'⟩ Q hQ
  unfold fX6_sup_13_b
  obtain ⟨D, eD⟩ : ∃ D, D = drS n m sl y c (num, mn, sd) := ⟨_, rfl⟩
  have eS : drS n m sl y (c + 1) (num, mn, sd) = (pmN n m sl D.2.1 (drN n y D.1 (drX D.2.2)), pmM D.2.1, drX D.2.2) := by rw [eD]; rfl
  rw [← eD] at C' s'
  refine ok_if (fun d1 => ?_) (fun d1 => ?_)
  · rw [nI_leI (by omega) (by omega)] at d1
    have e : c = mi := by omega
    subst e
    rw [← eD]
    exact ok_some ⟨C', s', F'⟩
  · rw [nI_leI (by omega) (by omega)] at d1
    refine ok_let ?_
    have es : (wI h' 18 6 (h'.1 18 6 * 1103515245 + 12345)).1 18 6 = drX D.2.2 := by rw [wI_rd, if_pos ⟨rfl, rfl⟩, s']; rfl
    have F2 : Fr (fun o k => o = 18) h' (wI h' 18 6 (h'.1 18 6 * 1103515245 + 12345)) := Fr.rf.w rfl
    revert es F2
    generalize wI h' 18 6 (h'.1 18 6 * 1103515245 + 12345) = h2
    intro es F2
    have C2 : CRep 19 h2 n m D.1 sl D.2.1 := C'.fr F2 (fun o k q1 q2 => by omega)
    have F2 : Fr Scr h h2 := F'.tr (F2.mono (fun o k q => by unfold Scr; omega))
    have fin : ∀ h3, CRep 19 h3 n m (drN n y D.1 (drX D.2.2)) sl D.2.1 → h3.1 18 6 = drX D.2.2 → Fr Scr h h3 → Ok (fX6_sup_128 (nI mi) y Q (nI mi) y (nI c) h3) (fun h' => CRep 19 h' n m (drS n m sl y mi (num, mn, sd)).1 sl (drS n m sl y mi (num, mn, sd)).2.1 ∧ h'.1 18 6 = (drS n m sl y mi (num, mn, sd)).2.2 ∧ Fr Scr h h') := by
      intro h3 C3 s3 F3
      unfold fX6_sup_128
      refine ok_bV (c_pass (Or.inr rfl) hn9 (by omega) hby C3) (fun h4 hh => ?_)
      obtain ⟨C4, F4⟩ := hh
      rw [nI_1]
      refine hQ (r - 1) _ _ _ _ (by omega) ⟨c + 1, by omega, rfl, rfl, rfl, ?_, ?_, F3.tr (F4.mono (fun o k q => by unfold Scr; omega))⟩
      · rw [eS]; exact C4
      · rw [eS, F4.1 18 6 (by omega)]; exact s3
    rw [es]
    refine ok_if (fun d2 => ?_) (fun d2 => ?_)
    · have e : drN n y D.1 (drX D.2.2) = D.1 := by unfold drN; rw [if_pos d2]
      exact fin h2 (by rw [e]; exact C2) es F2
    · rw [C2.1]
      refine ok_f (by rw [show (0 : Int32) = nI 0 from rfl, nI_leI (by omega) (by omega)]; omega) (ok_f (nI_ne0 hn0 (by omega)) (ok_let ?_))
      obtain ⟨g, hg, eg⟩ := drG (drX D.2.2) hn0 hn9
      have egt : (jrem (jushr (drX D.2.2) 8) (nI n)).toInt.toNat = g := by rw [eg, nI_toInt (by omega)]; rfl
      rw [eg, c_isLeft (Or.inr rfl) hn9 C2 hg, b2_some]
      by_cases c5 : D.1 g 5 = 0
      · rw [if_pos c5]
        refine ok_f (by decide) (ok_let (ok_t (inb_nI (by omega) (by decide)) (ok_let ?_)))
        rw [ix_nI (by omega), es, (C2.2.2.2.1 g hg).1]
        refine fin _ ?_ ?_ (F2.w (by unfold Scr; omega))
        · have e : drN n y D.1 (drX D.2.2) = setN D.1 g 0 (jmin 99 (D.1 g 0 + (1 + jrem (jushr (drX D.2.2) 16) 20))) := by
            unfold drN
            rw [if_neg d2, egt, if_pos c5]
          rw [e]
          exact c_setIn (k := 0) hg (Or.inl rfl) C2
        · rw [wI_rd, if_neg (by omega)]; exact es
      · rw [if_neg c5]
        refine ok_t rfl ?_
        have e : drN n y D.1 (drX D.2.2) = D.1 := by unfold drN; rw [if_neg d2, egt, if_neg c5]
        exact fin h2 (by rw [e]; exact C2) es F2
def alR (num : Nat → Nat → Int32) : Nat → Int32
  | 0 => 0
  | c + 1 => alR num c + num c 0
theorem c_regAll {n m : Nat} {num sl : Nat → Nat → Int32} {mn : Int32} {h : AH} (hn9 : n ≤ 9) (C : CRep 19 h n m num sl mn) : fX7_regretOfAll 19 h = some (alR num n, h) := by
  refine ok_eq ?_
  unfold fX7_regretOfAll
  have r0 : rf 19 0 = 20 := by decide +kernel
  refine L2 (f := fX7_regretOfAll_4 19) (b := fX7_regretOfAll_4_b 19) (fun _ => rfl) (fun r x y h' => ∃ c, c + r = n ∧ x = alR num c ∧ y = nI c ∧ h' = h) ?_ n FU 0 0 h (by unfold FU; omega) ⟨0, by omega, rfl, rfl, rfl⟩
  rintro r x y h' ⟨c, hc, rfl, rfl, rfl⟩ Q hQ
  unfold fX7_regretOfAll_4_b
  rw [C.1, r0]
  refine ok_if (fun d1 => ?_) (fun d1 => ?_)
  · rw [nI_leI (by omega) (by omega)] at d1
    have e : c = n := by omega
    subst e
    exact ok_some ⟨rfl, rfl⟩
  · rw [nI_leI (by omega) (by omega)] at d1
    refine ok_t (inb_nI (by omega) (by decide)) (ok_let ?_)
    rw [ix_nI (by omega), (C.2.2.2.1 c (by omega)).1, nI_1]
    exact hQ (r - 1) _ _ _ (by omega) ⟨c + 1, by omega, rfl, rfl, rfl⟩
/-- one evening's answer, and all of them -/
def drR (Λ : LawF) (n : Nat) (g : Int32) (q : (Nat → Nat → Int32) × Int32 × Int32) : Int32 := if g = -1 then alR q.1 n else if fstA Λ n q.1 q.2.1 = g then 1 else 0
def drT (Λ : LawF) (n m : Nat) (sl num : Nat → Nat → Int32) (mn g ch : Int32) (mi : Nat) (sd : Int32) : Nat → Int32 × Int32
  | 0 => (0, sd)
  | c + 1 => let r := drT Λ n m sl num mn g ch mi sd c
    (r.1 + drR Λ n g (drS n m sl ch mi (num, mn, r.2)), (drS n m sl ch mi (num, mn, r.2)).2.2)
theorem c_drawn {n m B tr mi : Nat} {num sl : Nat → Nat → Int32} {mn g ch sd P0 P1 P2 : Int32} {Λ : LawF} {h : AH} (T : TI h n m num sl mn) (O : Oth h n m B Λ) (hn0 : 0 < n) (htr : tr ≤ 100) (hmi : mi ≤ 100) : Ok (fX9_drawn_85 P0 P1 P2 sd g (nI tr) (nI mi) ch h) (fun q => q.1 = (drT Λ n m sl num mn g ch mi sd tr).1 ∧ Fr Scr h q.2) := by
  have hn9 := T.n9
  have hm12 := T.m12
  unfold fX9_drawn_85
  refine ok_let ?_
  refine L6 (f := fX9_drawn_99 P0 P1 P2) (b := fX9_drawn_99_b P0 P1 P2) (fun _ => rfl) (fun r x3 x4 x5 x6 x8 x9 h' => ∃ c, c + r = tr ∧ x3 = g ∧ x4 = nI tr ∧ x5 = nI mi ∧ x6 = ch ∧ x8 = (drT Λ n m sl num mn g ch mi sd c).1 ∧ x9 = nI c ∧ h'.1 18 6 = (drT Λ n m sl num mn g ch mi sd c).2 ∧ Fr Scr h h') ?_ tr FU g (nI tr) (nI mi) ch 0 0 _ (by unfold FU; omega) ⟨0, by omega, rfl, rfl, rfl, rfl, rfl, rfl, by rw [wI_rd, if_pos ⟨rfl, rfl⟩]; rfl, Fr.rf.w (by unfold Scr; omega)⟩
  rintro r x3 x4 x5 x6 x8 x9 h' ⟨c, hc, rfl, rfl, rfl, rfl, rfl, rfl, s', F'⟩ Q hQ
  obtain ⟨T', O'⟩ := scr_t T O F'
  unfold fX9_drawn_99_b
  refine ok_if (fun d1 => ?_) (fun d1 => ?_)
  · rw [nI_leI (by omega) (by omega)] at d1
    have e : c = tr := by omega
    subst e
    exact ok_some ⟨rfl, F'⟩
  · rw [nI_leI (by omega) (by omega)] at d1
    refine ok_bV (c_sup hn0 hn9 hm12 T'.by hmi T'.c s') (fun h2 hh => ?_)
    obtain ⟨C2, s2, F2⟩ := hh
    have F2 : Fr Scr h h2 := F'.tr F2
    have es : drT Λ n m sl num mn x3 x6 mi sd (c + 1) = ((drT Λ n m sl num mn x3 x6 mi sd c).1 + drR Λ n x3 (drS n m sl x6 mi (num, mn, (drT Λ n m sl num mn x3 x6 mi sd c).2)), (drS n m sl x6 mi (num, mn, (drT Λ n m sl num mn x3 x6 mi sd c).2)).2.2) := rfl
    by_cases d2 : x3 = -1
    · refine ok_t d2 ?_
      rw [c_regAll hn9 C2, b2_some, nI_1]
      refine ok_let (hQ (r - 1) _ _ _ _ _ _ _ (by omega) ⟨c + 1, by omega, rfl, rfl, rfl, rfl, ?_, rfl, by rw [es]; exact s2, F2⟩)
      rw [es]
      unfold drR
      rw [if_pos d2]
    · refine ok_f d2 ?_
      refine ok_bv (c_sorriest (Or.inr rfl) hn9 (drS_gone T.gone mi) C2 (O.cl.scr F2)) (fun h3 F3 => ?_)
      have F03 : Fr Scr h h3 := F2.tr (F3.mono (fun o k q => St_scr o k (Or.inl q)))
      have s3 : h3.1 18 6 = (drS n m sl x6 mi (num, mn, (drT Λ n m sl num mn x3 x6 mi sd c).2)).2.2 := by rw [F3.1 18 6 (fun q => by unfold Sr at q; omega)]; exact s2
      rw [nI_1]
      refine ok_if (fun d3 => ?_) (fun d3 => ?_)
      · refine hQ (r - 1) _ _ _ _ _ _ _ (by omega) ⟨c + 1, by omega, rfl, rfl, rfl, rfl, ?_, rfl, by rw [es]; exact s3, F03⟩
        rw [es]
        unfold drR fstA
        rw [if_neg d2, if_pos d3]
      · refine hQ (r - 1) _ _ _ _ _ _ _ (by omega) ⟨c + 1, by omega, rfl, rfl, rfl, rfl, ?_, rfl, by rw [es]; exact s3, F03⟩
        rw [es]
        unfold drR fstA
        rw [if_neg d2, if_neg d3]
        simp
