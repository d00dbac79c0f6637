/-! a tray's numbers by their kind -/
abbrev hasN (n m : Nat) (p w : Int32) : Prop := ((0 ≤ w.toInt ∧ w.toInt ≤ 5) ∧ 0 ≤ p.toInt ∧ p.toInt < n) ∨ ((w.toInt = 6 ∨ w.toInt = 7 ∨ w.toInt = 9) ∧ 0 ≤ p.toInt ∧ p.toInt < m) ∨ (w.toInt = 8 ∧ p.toInt = 0)
theorem c_hasNumber {t n m : Nat} {h : AH} (hn : h.1 t 9 = nI n) (hm : h.1 t 10 = nI m) (hn9 : n ≤ 9) (hm9 : m ≤ 13) (p w : Int32) : fX7_hasNumber t p w h = some (if hasN n m p w then 1 else 0, h) := by
  have e0 : (0 : Int32).toInt = 0 := by decide
  have e5 : (5 : Int32).toInt = 5 := by decide
  have e6 : (6 : Int32).toInt = 6 := by decide
  have e7 : (7 : Int32).toInt = 7 := by decide
  have e8 : (8 : Int32).toInt = 8 := by decide
  have e9 : (9 : Int32).toInt = 9 := by decide
  have key : ∀ q : Prop, [Decidable q] → (q ↔ hasN n m p w) → (if q then some ((1 : Int32), h) else some ((0 : Int32), h)) = some (if hasN n m p w then 1 else 0, h) := by
    intro q _ e
    by_cases c : q
    · rw [if_pos c, if_pos (e.mp c)]
    · rw [if_neg c, if_neg (fun z => c (e.mpr z))]
  have t0 : ¬ hasN n m p w → some ((0 : Int32), h) = some (if hasN n m p w then 1 else 0, h) := fun z => by rw [if_neg z]
  have t1 : hasN n m p w → some ((1 : Int32), h) = some (if hasN n m p w then 1 else 0, h) := fun z => by rw [if_pos z]
  have b49 : (w.toInt = 6 ∨ w.toInt = 7 ∨ w.toInt = 9) → fX7_hasNumber_49 t p w p h = some (if hasN n m p w then 1 else 0, h) := by
    intro hw
    unfold fX7_hasNumber_49
    rw [hm]
    simp only [i_lt, i_le, e0, nI_toInt (show m < 2 ^ 31 by omega)]
    by_cases c1 : p.toInt < 0
    · rw [if_pos c1]; exact t0 (by unfold hasN; omega)
    · rw [if_neg c1]
      by_cases c2 : (m : Int) ≤ p.toInt
      · rw [if_pos c2]; exact t0 (by unfold hasN; omega)
      · rw [if_neg c2]; exact t1 (by unfold hasN; omega)
  have b15 : (w.toInt < 0 ∨ 5 < w.toInt) → fX7_hasNumber_15 t p w p w h = some (if hasN n m p w then 1 else 0, h) := by
    intro hw
    unfold fX7_hasNumber_15
    simp only [i_eq, e0, e6, e7, e8, e9]
    by_cases c1 : w.toInt = 8
    · rw [if_pos c1]
      by_cases c2 : p.toInt = 0
      · rw [if_pos c2]; exact t1 (by unfold hasN; omega)
      · rw [if_neg c2]; exact t0 (by unfold hasN; omega)
    · rw [if_neg c1]
      by_cases c2 : w.toInt = 6
      · rw [if_pos c2]; exact b49 (by omega)
      · rw [if_neg c2]
        by_cases c3 : w.toInt = 7
        · rw [if_pos c3]; exact b49 (by omega)
        · rw [if_neg c3]
          by_cases c4 : w.toInt = 9
          · rw [if_pos c4]; exact b49 (by omega)
          · rw [if_neg c4]; exact t0 (by unfold hasN; omega)
  unfold fX7_hasNumber
  simp only [i_lt, e0, e5]
  by_cases c1 : w.toInt < 0
  · rw [if_pos c1]; exact b15 (by omega)
  · rw [if_neg c1]
    by_cases c2 : 5 < w.toInt
    · rw [if_pos c2]; exact b15 (by omega)
    · rw [if_neg c2, c_hasGuest hn hn9, b2_some]
      by_cases c3 : 0 ≤ p.toInt ∧ p.toInt < n
      · rw [if_pos c3]
        rw [if_pos (show isB (1 : Int32) = true by decide)]
        exact t1 (by unfold hasN; omega)
      · rw [if_neg c3]
        rw [if_pos (show isB (0 : Int32) = true by decide)]
        exact t0 (by unfold hasN; omega)
/-- where a number of the tray at t lies -/
def cadr (t w : Nat) : Nat := if w < 6 then t + 1 + w else if w = 6 then t + 8 else if w = 7 then t + 9 else t + 7
theorem c_numbersOf {t w : Nat} {h : AH} (ht : isT t) (hw : w < 10) (hw8 : w ≠ 8) : fX7_numbersOf t (nI w) h = some (cadr t w, h) := by
  obtain ⟨r0, r1, r2, r3, r4, r5, r6, r7, r8⟩ := rfT ht
  unfold fX7_numbersOf
  rw [r0, r1, r2, r3, r4, r5, r6, r7, r8]
  have c : w = 0 ∨ w = 1 ∨ w = 2 ∨ w = 3 ∨ w = 4 ∨ w = 5 ∨ w = 6 ∨ w = 7 ∨ w = 9 := by omega
  rcases c with rfl | rfl | rfl | rfl | rfl | rfl | rfl | rfl | rfl <;> rfl
theorem KD_t {t : Nat} (ht : isT t) : ∀ w, w < 10 → KD (cadr t w) = (20, if w < 6 then 9 else 13) := by
  rcases ht with rfl | rfl <;> decide +kernel
theorem c_setNumber {t n m a w : Nat} {h : AH} {v : Int32} (ht : isT t) (hn : h.1 t 9 = nI n) (hm : h.1 t 10 = nI m) (hn9 : n ≤ 9) (hm9 : m ≤ 13) (hv : vld n m a w) : fX7_setNumber t (nI a) (nI w) v h = some (if w = 8 then wI h t 11 v else wI h (cadr t w) a v) := by
  have hw : w < 9 := by unfold vld at hv; omega
  have ha : a < 13 := by unfold vld at hv; omega
  unfold fX7_setNumber
  rw [c_hasNumber hn hm hn9 hm9, b2_some, if_pos (show hasN n m (nI a) (nI w) by unfold hasN; unfold vld at hv; rw [nI_toInt (by omega), nI_toInt (by omega)]; omega), if_neg (by decide)]
  by_cases c8 : w = 8
  · subst c8
    rw [if_pos rfl]
    rw [if_pos (show nI 8 = (8 : Int32) from rfl)]
    rfl
  · rw [if_neg (by rw [show (8 : Int32) = nI 8 from rfl, nI_eq (by omega) (by omega)]; exact c8), if_neg c8, c_numbersOf ht (by omega) c8, b2_some, KD_t ht w (by omega)]
    have hi : inb (nI a) (if w < 6 then 9 else 13) = true := by
      by_cases q : w < 6
      · rw [if_pos q]; exact inb_nI (by unfold vld at hv; omega) (by decide)
      · rw [if_neg q]; exact inb_nI (by omega) (by decide)
    rw [if_pos ⟨rfl, hi⟩, ix_nI (by omega)]
    rfl
/-! judge and fits -/
theorem sim_thinkH {f g : AH → Option (Int32 × AH)} (A : AH → Nat → Nat → (Nat → Nat → Int32) → (Nat → Nat → Int32) → Int32 → LawF → Int32)
    (hA : ∀ (n m : Nat) (num sl : Nat → Nat → Int32) (mn : Int32) (Λ : LawF) (h h' : AH), Fr Scr h h' → A h' n m num sl mn Λ = A h n m num sl mn Λ)
    (hc : ∀ (n m B : Nat) (num sl : Nat → Nat → Int32) (mn : Int32) (Λ : LawF) (h : AH), TI h n m num sl mn → Oth h n m B Λ → Ok (f h) (fun q => q.1 = A h n m num sl mn Λ ∧ Fr Scr h q.2))
    (hm : ∀ (n m B : Nat) (num sl : Nat → Nat → Int32) (mn : Int32) (Λ : LawF) (h : AH), TI h n m num sl mn → Oth h n m B Λ → Ok (g h) (fun q => q.1 = A h n m num sl mn Λ ∧ Fr Scr h q.2)) : Sim f g := by
  refine sim_of (fun n m B num sl mn Λ h T O => ?_)
  refine ok_mono (hc n m B num sl mn Λ h T O) (fun q hq => ?_)
  obtain ⟨T1, O1⟩ := scr_t T O hq.2
  refine ok_mono (hm n m B num sl mn Λ q.2 T1 O1) (fun q2 hq2 => ?_)
  obtain ⟨T2, O2⟩ := scr_t T1 O1 hq2.2
  exact ⟨by rw [hq.1, hq2.1, hA n m num sl mn Λ _ _ hq.2], n, m, B, num, sl, mn, Λ, T2, O2⟩
theorem Oth.sh {h : AH} {n m B : Nat} {Λ : LawF} (O : Oth h n m B Λ) : ∀ s, s < 6 → Shl h B s := O.2.2.2.2.2.1
theorem rfS : ∀ s, s < 6 → rf 46 s = 47 + 2 * s ∧ rf (47 + 2 * s) 4 = 48 + 2 * s := by decide +kernel
theorem c_isShelf (p : Int32) (h : AH) : fX9_isShelf p h = some (if 0 ≤ p.toInt ∧ p.toInt < 6 then 1 else 0, h) := by
  have e0 : (0 : Int32).toInt = 0 := by decide
  have e6 : (6 : Int32).toInt = 6 := by decide
  unfold fX9_isShelf
  simp only [i_lt, i_le, e0, e6]
  by_cases c1 : p.toInt < 0
  · rw [if_pos c1, if_neg (by omega)]
  · rw [if_neg c1]
    by_cases c2 : 6 ≤ p.toInt
    · rw [if_pos c2, if_neg (by omega)]
    · rw [if_neg c2, if_pos (by omega)]
theorem m_isShelf (p : Int32) (h : AH) : fX10_isShelf p h = some (if 0 ≤ p.toInt ∧ p.toInt < 6 then 1 else 0, h) := by
  have e0 : (0 : Int32).toInt = 0 := by decide
  have e5 : (5 : Int32).toInt = 5 := by decide
  unfold fX10_isShelf
  rw [m_isIn, b2_some, e0, e5]
  by_cases c : 0 ≤ p.toInt ∧ p.toInt < 6
  · rw [if_pos (show 0 ≤ p.toInt ∧ p.toInt ≤ 5 by omega), if_pos c]; rfl
  · rw [if_neg (show ¬ (0 ≤ p.toInt ∧ p.toInt ≤ 5) by omega), if_neg c]; rfl
def shB (h : AH) (s : Nat) : Int32 := if h.1 (47 + 2 * s) 0 = 0 then -11 else if h.1 (47 + 2 * s) 0 = 2 ∧ h.1 (47 + 2 * s) 2 = 0 then 0 else -12
theorem c_refusal {s : Nat} {h : AH} : fX9_refusalOfBytes (47 + 2 * s) h = some (shB h s, h) := by
  unfold fX9_refusalOfBytes fX5_isRowOf shB
  by_cases c1 : h.1 (47 + 2 * s) 0 = 0
  · rw [if_pos c1, if_pos c1]
  · rw [if_neg c1, if_neg c1]
    by_cases c2 : h.1 (47 + 2 * s) 0 = 2
    · rw [if_pos c2]
      by_cases c3 : h.1 (47 + 2 * s) 2 = 0
      · rw [if_pos c3, if_pos ⟨c2, c3⟩]; rfl
      · rw [if_neg c3, if_neg (fun z => c3 z.2)]; rfl
    · rw [if_neg c2, if_neg (fun z => c2 z.1)]; rfl
theorem m_bytesIn {s B : Nat} {h : AH} (hs : s < 6) (hB : B ≤ 50) (S : Shl h B s) : fX10_bytesIn (nI s) h = some (if shB h s = 0 then 1 else shB h s, h) := by
  unfold fX10_bytesIn
  rw [if_pos (inb_nI (by omega) (by decide)), ix_nI (by omega)]
  unfold shB
  rcases S.1 with ⟨a, b⟩ | ⟨a, i, hi, b, c⟩ | ⟨a, q, hq, b, c, -⟩
  · rw [b, a, if_pos rfl, if_pos rfl]; rfl
  · rw [a, c, if_neg (fun z => nI_nm1 (show 10 + i < 2 ^ 31 by omega) z.symm), if_neg (nI_ne0 (by omega) (by omega))]; rfl
  · rw [a, b, c, if_neg (fun z => nI_nm1 (show q < 2 ^ 31 by omega) z.symm), if_neg (show ¬ (2 : Int32) = 0 by decide)]
    by_cases c0 : nI q = 0
    · have e : (if (2 : Int32) = 2 ∧ nI q = 0 then (0 : Int32) else -12) = 0 := if_pos ⟨rfl, c0⟩
      rw [if_pos c0, e]; rfl
    · have e : (if (2 : Int32) = 2 ∧ nI q = 0 then (0 : Int32) else -12) = -12 := if_neg (fun z => c0 z.2)
      rw [if_neg c0, e]; rfl
noncomputable def othV (e : Nat → Int64) (z : Nat) (l : List (Nat × Int32)) : Int32 := fndV (fun x => l.length ≤ x ∨ ¬ (e x = 9 ∨ e x = (nI (l.getD x (0, 0)).1).toInt64)) nI (min 9 z) 0
theorem lgc (x y : Int64) : lg_cmp x y = 0 ↔ x = y := by
  unfold lg_cmp
  by_cases c1 : x > y
  · rw [if_pos c1]
    constructor
    · intro z; exact absurd z (by decide)
    · intro z; subst z; exact absurd c1 (by simp)
  · rw [if_neg c1]
    by_cases c2 : x = y
    · rw [if_pos c2]; simp [c2]
    · rw [if_neg c2]
      constructor
      · intro z; exact absurd z (by decide)
      · intro z; exact absurd z c2
theorem c_otherwise {s z : Nat} {h : AH} {l : List (Nat × Int32)} (hs : s < 6) (hz : z ≤ 60) (ez : h.1 (47 + 2 * s) 3 = nI z) (hl : l.length ≤ 9) (G : GoA h l) : fX6_firstOtherwise (47 + 2 * s) h = some (othV (h.2 (48 + 2 * s)) z l, h) := by
  refine ok_eq ?_
  unfold fX6_firstOtherwise othV
  have hA := fndV_s (fun x => l.length ≤ x ∨ ¬ (h.2 (48 + 2 * s) x = 9 ∨ h.2 (48 + 2 * s) x = (nI (l.getD x (0, 0)).1).toInt64)) nI (min 9 z) 0
  revert hA
  generalize fndV (fun x => l.length ≤ x ∨ ¬ (h.2 (48 + 2 * s) x = 9 ∨ h.2 (48 + 2 * s) x = (nI (l.getD x (0, 0)).1).toInt64)) nI (min 9 z) 0 = aA
  intro hA
  refine L1 (f := fX6_firstOtherwise_2 (47 + 2 * s)) (b := fX6_firstOtherwise_2_b (47 + 2 * s)) (fun _ => rfl) (fun r x h' => ∃ c, c + r = min 9 z ∧ x = nI c ∧ h' = h ∧ fndL (fun x => l.length ≤ x ∨ ¬ (h.2 (48 + 2 * s) x = 9 ∨ h.2 (48 + 2 * s) x = (nI (l.getD x (0, 0)).1).toInt64)) nI r c aA) ?_ (min 9 z) FU 0 h (by unfold FU; omega) ⟨0, by omega, rfl, rfl, hA⟩
  rintro r x h' ⟨c, hc, rfl, rfl, hA⟩ Q hQ
  unfold fX6_firstOtherwise_2_b
  rw [ez, G.1, (rfS s hs).2]
  refine ok_if (fun d1 => ?_) (fun d1 => ?_)
  · rw [nI_leI (by omega) (by omega)] at d1
    have r0 : r = 0 := by omega
    subst r0
    exact ok_some ⟨Eq.symm hA, rfl⟩
  · rw [nI_leI (by omega) (by omega)] at d1
    refine ok_if (fun d2 => ?_) (fun d2 => ?_)
    · rw [show (9 : Int32) = nI 9 from rfl, nI_leI (by omega) (by omega)] at d2
      have r0 : r = 0 := by omega
      subst r0
      exact ok_some ⟨Eq.symm hA, rfl⟩
    · rw [show (9 : Int32) = nI 9 from rfl, nI_leI (by omega) (by omega)] at d2
      obtain ⟨r, rfl⟩ : ∃ r', r = r' + 1 := ⟨r - 1, by omega⟩
      refine ok_if (fun d3 => ?_) (fun d3 => ?_)
      · rw [nI_leI (by omega) (by omega)] at d3
        refine ok_some ⟨?_, rfl⟩
        rcases hA with ⟨_, q⟩ | ⟨q, _⟩
        · exact q.symm
        · exact absurd (Or.inl d3) q
      · rw [nI_leI (by omega) (by omega)] at d3
        refine ok_t (inb_nI (by omega) (by decide)) ?_
        rw [ix_nI (show c < 2 ^ 31 by omega), nI_1]
        refine ok_if (fun d4 => ?_) (fun d4 => ?_)
        · rw [lgc] at d4
          refine hQ r _ _ (by omega) ⟨c + 1, by omega, rfl, rfl, ?_⟩
          rcases hA with ⟨q, _⟩ | ⟨_, q⟩
          · exact absurd q (fun z => z.elim (fun z => d3 z) (fun z => z (Or.inl d4)))
          · exact q
        · rw [lgc] at d4
          refine ok_t (inb_nI (by omega) (by decide)) ?_
          rw [G.2.1 c (by omega)]
          refine ok_if (fun d5 => ?_) (fun d5 => ?_)
          · rw [lgc] at d5
            refine hQ r _ _ (by omega) ⟨c + 1, by omega, rfl, rfl, ?_⟩
            rcases hA with ⟨q, _⟩ | ⟨_, q⟩
            · exact absurd q (fun z => z.elim (fun z => d3 z) (fun z => z (Or.inr d5)))
            · exact q
          · rw [lgc] at d5
            refine ok_some ⟨?_, rfl⟩
            rcases hA with ⟨_, q⟩ | ⟨q, _⟩
            · exact q.symm
            · exact absurd (Or.inr (fun z => z.elim d4 d5)) q
theorem m_byteAt {s z c : Nat} {h : AH} (hs : s < 6) (hz : z ≤ 60) (ez : h.1 76 s = nI z) (hc : c < z) : fX10_byteAt (nI s) (nI c) h = some ((h.2 77 (60 * s + c)).toInt32, h) := by
  unfold fX10_byteAt
  have e : (60 : Int32) * nI s + nI c = nI (60 * s + c) := by rw [show (60 : Int32) = nI 60 from rfl, pk_mul, nI_add]
  rw [if_pos (inb_nI (by omega) (by decide)), ix_nI (by omega), ez, if_neg (by rw [nI_leI (by omega) (by omega)]; omega), e, if_pos (inb_nI (by omega) (by decide)), ix_nI (by omega)]
theorem m_wrong9 {s z : Nat} {h : AH} {l : List (Nat × Int32)} (hs : s < 6) (hz : z ≤ 60) (ez : h.1 76 s = nI z) (hl : l.length ≤ 9) (he : ∀ i, i < 60 → h.2 77 (60 * s + i) = h.2 (48 + 2 * s) i) (hb : ∀ i, i < 60 → (h.2 (48 + 2 * s) i).toInt32.toInt64 = h.2 (48 + 2 * s) i) (G : GoM h l) : fX10_wrong_9 (nI s) FU (nI s) (nI l.length) 0 h = some (othV (h.2 (48 + 2 * s)) z l, h) := by
  refine ok_eq ?_
  unfold othV
  have ex : ∀ (x : Int64) (v : Int32), x.toInt32.toInt64 = x → (x.toInt32 = v ↔ x = v.toInt64) := by
    intro x v hx
    constructor
    · intro q; rw [← hx, q]
    · intro q; rw [q]; simp
  have hA := fndV_s (fun x => l.length ≤ x ∨ ¬ (h.2 (48 + 2 * s) x = 9 ∨ h.2 (48 + 2 * s) x = (nI (l.getD x (0, 0)).1).toInt64)) nI (min 9 z) 0
  revert hA
  generalize fndV (fun x => l.length ≤ x ∨ ¬ (h.2 (48 + 2 * s) x = 9 ∨ h.2 (48 + 2 * s) x = (nI (l.getD x (0, 0)).1).toInt64)) nI (min 9 z) 0 = aA
  intro hA
  refine L3 (f := fX10_wrong_9 (nI s)) (b := fX10_wrong_9_b (nI s)) (fun _ => rfl) (fun r x y w h' => ∃ c, c + r = min 9 z ∧ x = nI s ∧ y = nI l.length ∧ w = nI c ∧ h' = h ∧ fndL (fun x => l.length ≤ x ∨ ¬ (h.2 (48 + 2 * s) x = 9 ∨ h.2 (48 + 2 * s) x = (nI (l.getD x (0, 0)).1).toInt64)) nI r c aA) ?_ (min 9 z) FU (nI s) (nI l.length) 0 h (by unfold FU; omega) ⟨0, by omega, rfl, rfl, rfl, rfl, hA⟩
  rintro r x y w h' ⟨c, hc, rfl, rfl, rfl, rfl, hA⟩ Q hQ
  unfold fX10_wrong_9_b
  have ej : jmin 9 (nI z) = nI (min 9 z) := by
    unfold jmin
    by_cases q : z < 9
    · rw [if_pos (by rw [show (9 : Int32) = nI 9 from rfl, nI_ltI (by omega) (by omega)]; exact q), show min 9 z = z by omega]
    · rw [if_neg (by rw [show (9 : Int32) = nI 9 from rfl, nI_ltI (by omega) (by omega)]; exact q), show min 9 z = 9 by omega]; rfl
  refine ok_t (inb_nI (by omega) (by decide)) ?_
  rw [ix_nI (show s < 2 ^ 31 by omega), ez, ej]
  refine ok_if (fun d1 => ?_) (fun d1 => ?_)
  · rw [nI_leI (by omega) (by omega)] at d1
    have r0 : r = 0 := by omega
    subst r0
    exact ok_some ⟨Eq.symm hA, rfl⟩
  · rw [nI_leI (by omega) (by omega)] at d1
    obtain ⟨r, rfl⟩ : ∃ r', r = r' + 1 := ⟨r - 1, by omega⟩
    refine ok_if (fun d3 => ?_) (fun d3 => ?_)
    · rw [nI_leI (by omega) (by omega)] at d3
      refine ok_some ⟨?_, rfl⟩
      rcases hA with ⟨_, q⟩ | ⟨q, _⟩
      · exact q.symm
      · exact absurd (Or.inl d3) q
    · rw [nI_leI (by omega) (by omega)] at d3
      rw [m_byteAt hs hz ez (show c < z by omega), b2_some, he c (by omega), nI_1]
      have hbc := hb c (by omega)
      refine ok_if (fun d4 => ?_) (fun d4 => ?_)
      · rw [ex _ _ hbc] at d4
        refine hQ r _ _ _ _ (by omega) ⟨c + 1, by omega, rfl, rfl, rfl, rfl, ?_⟩
        rcases hA with ⟨q, _⟩ | ⟨_, q⟩
        · exact absurd q (fun z => z.elim (fun z => d3 z) (fun z => z (Or.inl d4)))
        · exact q
      · rw [ex _ _ hbc] at d4
        rw [m_byteAt hs hz ez (show c < z by omega), b2_some, he c (by omega)]
        refine ok_t (inb_nI (by omega) (by decide)) ?_
        rw [ix_nI (show c < 2 ^ 31 by omega), G.1 c (by omega)]
        refine ok_if (fun d5 => ?_) (fun d5 => ?_)
        · rw [ex _ _ hbc] at d5
          refine hQ r _ _ _ _ (by omega) ⟨c + 1, by omega, rfl, rfl, rfl, rfl, ?_⟩
          rcases hA with ⟨q, _⟩ | ⟨_, q⟩
          · exact absurd q (fun z => z.elim (fun z => d3 z) (fun z => z (Or.inr d5)))
          · exact q
        · rw [ex _ _ hbc] at d5
          refine ok_some ⟨?_, rfl⟩
          rcases hA with ⟨_, q⟩ | ⟨q, _⟩
          · exact q.symm
          · exact absurd (Or.inr (fun z => z.elim d4 d5)) q
theorem Oth.b50 {h : AH} {n m B : Nat} {Λ : LawF} (O : Oth h n m B Λ) : B ≤ 50 := O.2.2.2.2.1.1
noncomputable def jdV (h : AH) (s : Nat) (l : List (Nat × Int32)) : Int32 := othV (h.2 (48 + 2 * s)) (h.1 (47 + 2 * s) 3).toInt.toNat l
theorem c_judge {n m B s : Nat} {num sl num2 : Nat → Nat → Int32} {mn : Int32} {Λ : LawF} {h h1 : AH} (T : TI h n m num sl mn) (O : Oth h n m B Λ) (hs : s < 6) (hg : goneOK n num2) (F1 : Fr Scr h h1) (C1 : CRep 19 h1 n m num2 sl mn) : Ok (fX6_allGo 9 h1) (fun h2 => fX6_firstOtherwise (47 + 2 * s) h2 = some (jdV h s (GL Λ n m sl (num2, mn)), h2) ∧ Fr Scr h h2) := by
  have hn9 := T.n9
  refine ok_mono (c_allGo (ov := 9) hn9 (by have := T.m12; omega) T.by hg O.ir C1 (O.cl.scr F1)) (fun h2 hh => ?_)
  obtain ⟨G2, F2⟩ := hh
  have F2 : Fr Scr h h2 := F1.tr (F2.mono St_scr)
  have G2 : GoA h2 (GL Λ n m sl (num2, mn)) := G2
  obtain ⟨z, hz, e1, e2⟩ := (O.sh s hs).2.1
  have ez : h2.1 (47 + 2 * s) 3 = nI z := by rw [F2.1 _ _ (by unfold Scr; omega)]; exact e1
  have hl : (GL Λ n m sl (num2, mn)).length ≤ 9 := by rw [GL_len]; show lftN num2 n ≤ 9; have := lftN_le num2 n; omega
  rw [c_otherwise hs hz ez hl G2]
  refine ⟨?_, F2⟩
  unfold jdV
  rw [e1, nI_toInt (by omega), F2.2]
  rfl
theorem m_judge {n m B s : Nat} {num sl num2 : Nat → Nat → Int32} {mn : Int32} {Λ : LawF} {h h1 : AH} {S : Nat → Nat → Prop} (T : TI h n m num sl mn) (O : Oth h n m B Λ) (hs : s < 6) (hb : shB h s = 0) (F1 : Fr S h h1) (hS : ∀ o k, S o k → Scr o k ∨ o = 60) (hS2 : ∀ o k, Scr o k → S o k) (M1 : MRep h1 n m num2 sl mn) : Ok (fX10_wrong (nI s) h1) (fun q => q.1 = jdV h s (GL Λ n m sl (num2, mn)) ∧ Fr S h q.2 ∧ ∀ k, q.2.1 60 k = h1.1 60 k) := by
  have hn9 := T.n9
  unfold fX10_wrong
  have hL : ML h1 Λ := O.ml.fr F1 (fun o k q z => by have := hS o k z; unfold Scr at this; omega)
  refine ok_b2 (m_goAll (k := 0) (ov := -1) hn9 (Or.inl T.m12) (by omega) M1 hL) (fun v h2 hh => ?_)
  obtain ⟨ev, G2, F2⟩ := hh
  have ev : v = nI (goS Λ n m sl (-1) n num2 mn).length := ev
  rw [goS_m1 hn9] at ev
  have G2 : GoM h2 (goS Λ n m sl (-1) n num2 mn) := G2
  rw [goS_m1 hn9] at G2
  have ev : v = nI (GL Λ n m sl (num2, mn)).length := ev
  have G2 : GoM h2 (GL Λ n m sl (num2, mn)) := G2
  have F2 : Fr Sq h1 h2 := F2
  have F3 : Fr S h h2 := F1.tr (F2.mono (fun o k q => hS2 o k (Sq_scr o k q)))
  have hS3 : ∀ o k, ¬ Scr o k → o ≠ 60 → h2.1 o k = h.1 o k := fun o k q1 q2 => F3.1 o k (fun z => (hS o k z).elim q1 q2)
  obtain ⟨sa, ⟨z, hz, e1, e2⟩, se⟩ := O.sh s hs
  have ez : h2.1 76 s = nI z := by rw [hS3 _ _ (by unfold Scr; omega) (by omega)]; exact e2
  have hl : (GL Λ n m sl (num2, mn)).length ≤ 9 := by rw [GL_len]; show lftN num2 n ≤ 9; have := lftN_le num2 n; omega
  have hby : ∀ i, i < 60 → (h.2 (48 + 2 * s) i).toInt32.toInt64 = h.2 (48 + 2 * s) i := by
    unfold shB at hb
    rcases sa with ⟨a, b⟩ | ⟨a, i, hi, b, c⟩ | ⟨a, q, hq, b, c, d⟩
    · rw [if_pos a] at hb; exact absurd hb (by decide)
    · rw [a, if_neg (by decide), if_neg (fun z => absurd z.1 (by decide))] at hb; exact absurd hb (by decide)
    · apply d
      rw [a, if_neg (by decide)] at hb
      split at hb
      · rename_i w
        rw [b] at w
        exact nI_inj (by omega) (by omega) (w.2.trans (show (0 : Int32) = nI 0 from rfl))
      · exact absurd hb (by decide)
  rw [ev, m_wrong9 hs hz ez hl (by rw [F3.2]; exact se) (by rw [F3.2]; exact hby) G2]
  refine ok_some ⟨?_, F3, fun k => F2.1 60 k (fun q => by unfold Sq Sl Sg at q; omega)⟩
  unfold jdV
  rw [e1, nI_toInt (by omega), F3.2]
  rfl
theorem sh_scr {h h' : AH} {s : Nat} (hs : s < 6) (F : Fr Scr h h') : shB h' s = shB h s ∧ ∀ l, jdV h' s l = jdV h s l := by
  unfold shB jdV
  rw [F.1 _ _ (show ¬ Scr (47 + 2 * s) 0 by unfold Scr; omega), F.1 _ _ (show ¬ Scr (47 + 2 * s) 2 by unfold Scr; omega), F.1 _ _ (show ¬ Scr (47 + 2 * s) 3 by unfold Scr; omega), F.2]
  exact ⟨rfl, fun _ => rfl⟩
theorem op_judge (p : Int32) : Sim (fX9_judge p) (fX10_judge p) := by
  refine sim_thinkH (fun h n m num sl mn Λ => if 0 ≤ p.toInt ∧ p.toInt < 6 then if shB h p.toInt.toNat = 0 then jdV h p.toInt.toNat (GL Λ n m sl (num, mn)) else shB h p.toInt.toNat else -1) (fun n m num sl mn Λ h h' F => ?_) (fun n m B num sl mn Λ h T O => ?_) (fun n m B num sl mn Λ h T O => ?_)
  · by_cases c : 0 ≤ p.toInt ∧ p.toInt < 6
    · obtain ⟨e1, e2⟩ := sh_scr (s := p.toInt.toNat) (by omega) F
      rw [if_pos c, if_pos c, e1, e2]
    · rw [if_neg c, if_neg c]
  · unfold fX9_judge
    rw [c_isShelf, b2_some]
    by_cases c : 0 ≤ p.toInt ∧ p.toInt < 6
    · rw [if_pos c, if_pos c]
      refine ok_f (by decide) ?_
      obtain ⟨ep, hp⟩ := nI_of_rg (p := p) (a := 5) (by omega) (by omega) (by decide)
      obtain ⟨s, es⟩ : ∃ s, s = p.toInt.toNat := ⟨_, rfl⟩
      rw [← es] at ep hp ⊢
      rw [ep]
      refine ok_t (inb_nI (by omega) (by decide)) ?_
      rw [ix_nI (by omega), (rfS s (by omega)).1, c_refusal, b2_some]
      by_cases c2 : shB h s = 0
      · rw [if_pos c2, if_pos c2]
        refine ok_bV (c_start (k := 0) T.n9 T.m12 T.by (by omega) T.c) (fun h1 hh => ?_)
        obtain ⟨C1, F1⟩ := hh
        refine ok_bV (c_judge T O (show s < 6 by omega) T.gone (F1.mono St_scr) C1) (fun h2 hh => ?_)
        rw [hh.1, b2_some]
        exact ok_some ⟨rfl, hh.2⟩
      · rw [if_neg c2, if_neg c2]
        exact ok_some ⟨rfl, Fr.rf⟩
    · rw [if_neg c, if_neg c]
      exact ok_t rfl (ok_some ⟨rfl, Fr.rf⟩)
  · unfold fX10_judge
    rw [m_isShelf, b2_some]
    by_cases c : 0 ≤ p.toInt ∧ p.toInt < 6
    · rw [if_pos c, if_pos c]
      refine ok_f (by decide) ?_
      obtain ⟨ep, hp⟩ := nI_of_rg (p := p) (a := 5) (by omega) (by omega) (by decide)
      obtain ⟨s, es⟩ : ∃ s, s = p.toInt.toNat := ⟨_, rfl⟩
      rw [← es] at ep hp ⊢
      rw [ep]
      have hs : s < 6 := by omega
      rw [m_bytesIn hs O.b50 (O.sh s hs), b2_some]
      by_cases c2 : shB h s = 0
      · rw [if_pos c2, if_pos c2]
        refine ok_t (by decide) ?_
        refine ok_b2 (m_judge (S := Scr) T O hs c2 Fr.rf (fun o k q => Or.inl q) (fun o k q => q) T.m) (fun v h2 hh => ?_)
        exact ok_some ⟨hh.1, hh.2.1⟩
      · rw [if_neg c2, if_neg c2]
        refine ok_f ?_ ?_
        · unfold shB
          split
          · decide
          · split
            · rename_i q1 q2; exact absurd (by unfold shB; rw [if_neg q1, if_pos q2]) c2
            · decide
        · rw [m_bytesIn hs O.b50 (O.sh s hs), b2_some, if_neg c2]
          exact ok_some ⟨rfl, Fr.rf⟩
    · rw [if_neg c, if_neg c]
      exact ok_t rfl (ok_some ⟨rfl, Fr.rf⟩)
