/-! ===== a tray's state: n guests, m slips, num guest what, sl slip (0 at, 1 weight, 2 by), mn the minute ===== -/
def Fr (S : Nat → Nat → Prop) (h h' : AH) : Prop := (∀ o k, ¬ S o k → h'.1 o k = h.1 o k) ∧ h'.2 = h.2
theorem Fr.rf {S : Nat → Nat → Prop} {h : AH} : Fr S h h := ⟨fun _ _ _ => rfl, rfl⟩
theorem Fr.tr {S : Nat → Nat → Prop} {h h1 h2 : AH} (a : Fr S h h1) (b : Fr S h1 h2) : Fr S h h2 := ⟨fun o k q => (b.1 o k q).trans (a.1 o k q), b.2.trans a.2⟩
theorem Fr.mono {S T : Nat → Nat → Prop} {h h1 : AH} (a : Fr S h h1) (hst : ∀ o k, S o k → T o k) : Fr T h h1 := ⟨fun o k q => a.1 o k (fun z => q (hst o k z)), a.2⟩
theorem Fr.w {S : Nat → Nat → Prop} {h h1 : AH} {o k : Nat} {v : Int32} (a : Fr S h h1) (hs : S o k) : Fr S h (wI h1 o k v) := ⟨fun o' k' q => by
  rw [wI_rd, if_neg (fun z => q (by rw [z.1, z.2]; exact hs))]
  exact a.1 o' k' q, a.2⟩
def isT (t : Nat) : Prop := t = 1 ∨ t = 19
theorem rfT {t : Nat} (ht : isT t) : rf t 0 = t + 1 ∧ rf t 1 = t + 2 ∧ rf t 2 = t + 3 ∧ rf t 3 = t + 4 ∧ rf t 4 = t + 5 ∧ rf t 5 = t + 6 ∧ rf t 6 = t + 7 ∧ rf t 7 = t + 8 ∧ rf t 8 = t + 9 := by
  rcases ht with rfl | rfl <;> decide +kernel
def CRep (t : Nat) (h : AH) (n m : Nat) (num sl : Nat → Nat → Int32) (mn : Int32) : Prop :=
  h.1 t 9 = nI n ∧ h.1 t 10 = nI m ∧ h.1 t 11 = mn ∧ (∀ i, i < n → h.1 (t + 1) i = num i 0 ∧ h.1 (t + 2) i = num i 1 ∧ h.1 (t + 3) i = num i 2 ∧ h.1 (t + 4) i = num i 3 ∧ h.1 (t + 6) i = num i 5) ∧ (∀ s, s < m → h.1 (t + 7) s = sl s 2 ∧ h.1 (t + 8) s = sl s 0 ∧ h.1 (t + 9) s = sl s 1)
theorem CRep.fr {S : Nat → Nat → Prop} {t : Nat} {h h' : AH} {n m : Nat} {num sl : Nat → Nat → Int32} {mn : Int32} (C : CRep t h n m num sl mn) (F : Fr S h h') (hS : ∀ o k, t ≤ o → o ≤ t + 9 → ¬ S o k) : CRep t h' n m num sl mn := by
  obtain ⟨a, b, c, d, e⟩ := C
  refine ⟨?_, ?_, ?_, fun i hi => ?_, fun s hs => ?_⟩
  · rw [F.1 _ _ (hS _ _ (by omega) (by omega))]; exact a
  · rw [F.1 _ _ (hS _ _ (by omega) (by omega))]; exact b
  · rw [F.1 _ _ (hS _ _ (by omega) (by omega))]; exact c
  · rw [F.1 (t + 1) i (hS _ _ (by omega) (by omega)), F.1 (t + 2) i (hS _ _ (by omega) (by omega)), F.1 (t + 3) i (hS _ _ (by omega) (by omega)), F.1 (t + 4) i (hS _ _ (by omega) (by omega)), F.1 (t + 6) i (hS _ _ (by omega) (by omega))]
    exact d i hi
  · rw [F.1 (t + 7) s (hS _ _ (by omega) (by omega)), F.1 (t + 8) s (hS _ _ (by omega) (by omega)), F.1 (t + 9) s (hS _ _ (by omega) (by omega))]
    exact e s hs
def sumS (sl : Nat → Nat → Int32) (mn : Int32) (i : Nat) : Nat → Int32
  | 0 => 0
  | s + 1 => sumS sl mn i s + (if sl s 0 = mn ∧ sl s 2 = nI i then sl s 1 else 0)
def numS (sl : Nat → Nat → Int32) (mn : Int32) (num : Nat → Nat → Int32) (s : Nat) : Nat → Nat → Int32 := fun i k => if k = 0 ∧ num i 5 = 0 then num i 0 + sumS sl mn i s else num i k
def pmN (n m : Nat) (sl : Nat → Nat → Int32) (mn : Int32) (num : Nat → Nat → Int32) : Nat → Nat → Int32 := fun i k => if k = 0 ∧ i < n ∧ num i 5 = 0 then jmax 0 (jmin 99 (num i 0 + sumS sl mn i m - num i 1)) else num i k
def pmM (mn : Int32) : Int32 := jmin 199 (mn + 1)
theorem c_hasGuest {t : Nat} {h : AH} {n : Nat} (hn : h.1 t 9 = nI n) (hn9 : n ≤ 9) (g : Int32) : fX7_hasGuest t g h = some (if 0 ≤ g.toInt ∧ g.toInt < n then 1 else 0, h) := by
  unfold fX7_hasGuest
  rw [hn]
  simp only [i_lt, i_le, nI_toInt (show n < 2 ^ 31 by omega)]
  by_cases h1 : g.toInt < (0 : Int32).toInt
  · have h1' : g.toInt < 0 := h1
    rw [if_pos h1, if_neg (by omega)]
  · have h1' : ¬ g.toInt < 0 := h1
    rw [if_neg h1]
    by_cases h2 : (n : Int) ≤ g.toInt
    · rw [if_pos h2, if_neg (by omega)]
    · rw [if_neg h2, if_pos (by omega)]
theorem c_isLeft {t : Nat} {h : AH} {n m : Nat} {num sl : Nat → Nat → Int32} {mn : Int32} (ht : isT t) (hn9 : n ≤ 9) (C : CRep t h n m num sl mn) {i : Nat} (hi : i < n) : fX7_isLeft t (nI i) h = some (if num i 5 = 0 then 1 else 0, h) := by
  unfold fX7_isLeft
  rw [c_hasGuest C.1 hn9, b2_some, nI_toInt (show i < 2 ^ 31 by omega), if_pos (show (0 : Int) ≤ (i : Int) ∧ (i : Int) < (n : Int) by omega), if_neg (show ¬ (1 : Int32) = 0 by decide), if_pos (inb_nI (show i < 9 by omega) (by decide)), ix_nI (show i < 2 ^ 31 by omega), (rfT ht).2.2.2.2.2.1, (C.2.2.2.1 i hi).2.2.2.2]
  split <;> rfl
theorem c_isLeftN {t : Nat} {h : AH} {n : Nat} (hn : h.1 t 9 = nI n) (hn9 : n ≤ 9) {g : Int32} (hg : ¬ (0 ≤ g.toInt ∧ g.toInt < n)) : fX7_isLeft t g h = some (0, h) := by
  unfold fX7_isLeft
  rw [c_hasGuest hn hn9, b2_some, if_neg hg, if_pos rfl]
theorem c_pass1 {t n m : Nat} {sl : Nat → Nat → Int32} {mn : Int32} {num : Nat → Nat → Int32} {h : AH} {P : AH → Prop} (ht : isT t) (hn9 : n ≤ 9) (hm : m ≤ 13) (hby : ∀ s, s < m → ∃ j, j < n ∧ sl s 2 = nI j)
    (hend : ∀ h', CRep t h' n m (numS sl mn num m) sl mn → Fr (fun o k => o = t + 1 ∨ (o = t ∧ k = 11)) h h' → Ok (fX7_passMinute_64 t FU 0 h') P) :
    ∀ (r s F : Nat) (h' : AH), s + r = m → r < F → CRep t h' n m (numS sl mn num s) sl mn → Fr (fun o k => o = t + 1 ∨ (o = t ∧ k = 11)) h h' → Ok (fX7_passMinute_2 t F (nI s) h') P := by
  intro r
  induction r with
  | zero =>
    intro s F h' hs hF C hFr
    obtain ⟨F, rfl⟩ : ∃ F', F = F' + 1 := ⟨F - 1, by omega⟩
    show Ok (fX7_passMinute_2_b t (fX7_passMinute_2 t F) (nI s) h') P
    unfold fX7_passMinute_2_b
    rw [C.2.1]
    have e : s = m := by omega
    subst e
    exact ok_t (nI_le (Nat.le_refl s) (by omega)) (hend h' C hFr)
  | succ r ih =>
    intro s F h' hs hF C hFr
    obtain ⟨F, rfl⟩ : ∃ F', F = F' + 1 := ⟨F - 1, by omega⟩
    show Ok (fX7_passMinute_2_b t (fX7_passMinute_2 t F) (nI s) h') P
    unfold fX7_passMinute_2_b
    obtain ⟨r0, r1, r2, r3, r4, r5, r6, r7, r8⟩ := rfT ht
    have hsm : s < m := by omega
    obtain ⟨e2, e0, e1⟩ := C.2.2.2.2 s hsm
    rw [C.2.1]
    refine ok_f (by rw [nI_leI (by omega) (by omega)]; omega) ?_
    refine ok_t (inb_nI (by omega) (by decide)) ?_
    rw [ix_nI (by omega), r7, r6, r0, r8, e0, C.2.2.1, nI_1]
    obtain ⟨j, hj, ej⟩ := hby s hsm
    refine ok_if (fun c => ?_) (fun c => ?_)
    · rw [e2, ej, c_isLeft ht hn9 C hj, b2_some]
      have h5 : numS sl mn num s j 5 = num j 5 := by unfold numS; rw [if_neg (by omega)]
      rw [h5]
      refine ok_if (fun c2 => ?_) (fun c2 => ?_)
      · have g5 : ¬ num j 5 = 0 := by
          intro q
          rw [if_pos q] at c2
          exact absurd c2 (by decide)
        refine ih (s + 1) F h' (by omega) (by omega) ?_ hFr
        obtain ⟨a, b, cc, dd, ee⟩ := C
        refine ⟨a, b, cc, fun i hi => ?_, ee⟩
        have := dd i hi
        have en : ∀ k, numS sl mn num (s + 1) i k = numS sl mn num s i k := by
          intro k
          unfold numS
          by_cases hk : k = 0 ∧ num i 5 = 0
          · rw [if_pos hk, if_pos hk]
            show _ + (sumS sl mn i s + _) = _
            rw [if_neg]
            · simp
            · rintro ⟨_, q⟩
              rw [ej] at q
              have := nI_inj (by omega) (by omega) q
              subst this
              exact g5 hk.2
          · rw [if_neg hk, if_neg hk]
        rw [en 0, en 1, en 2, en 3, en 5]
        exact this
      · have g5 : num j 5 = 0 := by
          apply Classical.byContradiction
          intro q
          rw [if_neg q] at c2
          exact c2 rfl
        rw [e2, ej, ix_nI (show j < 2 ^ 31 by omega)]
        refine ok_t (inb_nI (by omega) (by decide)) ?_
        refine ok_let ?_
        refine ih (s + 1) F _ (by omega) (by omega) ?_ (hFr.w (Or.inl rfl))
        rw [(C.2.2.2.1 j hj).1, e1]
        obtain ⟨a, b, cc, dd, ee⟩ := C
        refine ⟨?_, ?_, ?_, fun i hi => ?_, fun z hz => ?_⟩
        · rw [wI_rd, if_neg (by omega)]; exact a
        · rw [wI_rd, if_neg (by omega)]; exact b
        · rw [wI_rd, if_neg (by omega)]; exact cc
        · obtain ⟨d0, d1, d2, d3, d5⟩ := dd i hi
          have en : ∀ k, k ≠ 0 → numS sl mn num (s + 1) i k = numS sl mn num s i k := by
            intro k hk
            unfold numS
            rw [if_neg (by omega), if_neg (by omega)]
          refine ⟨?_, ?_, ?_, ?_, ?_⟩
          · rw [wI_rd]
            by_cases hij : i = j
            · subst hij
              rw [if_pos ⟨rfl, rfl⟩]
              unfold numS
              rw [if_pos ⟨rfl, g5⟩, if_pos ⟨rfl, g5⟩]
              show _ = _ + (sumS sl mn i s + _)
              rw [if_pos ⟨by rw [← c], ej⟩, Int32.add_assoc]
            · rw [if_neg (by omega), d0]
              unfold numS
              by_cases hk : (0 : Nat) = 0 ∧ num i 5 = 0
              · rw [if_pos hk, if_pos hk]
                show _ = _ + (sumS sl mn i s + _)
                rw [if_neg]
                · simp
                · rintro ⟨_, q⟩
                  rw [ej] at q
                  exact hij (nI_inj (by omega) (by omega) q).symm
              · rw [if_neg hk, if_neg hk]
          · rw [wI_rd, if_neg (by omega), en 1 (by decide)]; exact d1
          · rw [wI_rd, if_neg (by omega), en 2 (by decide)]; exact d2
          · rw [wI_rd, if_neg (by omega), en 3 (by decide)]; exact d3
          · rw [wI_rd, if_neg (by omega), en 5 (by decide)]; exact d5
        · rw [wI_rd, if_neg (by omega), wI_rd, if_neg (by omega), wI_rd, if_neg (by omega)]
          exact ee z hz
    · refine ih (s + 1) F h' (by omega) (by omega) ?_ hFr
      obtain ⟨a, b, cc, dd, ee⟩ := C
      refine ⟨a, b, cc, fun i hi => ?_, ee⟩
      have := dd i hi
      have en : ∀ k, numS sl mn num (s + 1) i k = numS sl mn num s i k := by
        intro k
        unfold numS
        by_cases hk : k = 0 ∧ num i 5 = 0
        · rw [if_pos hk, if_pos hk]
          show _ + (sumS sl mn i s + _) = _
          rw [if_neg (fun q => c q.1)]
          simp
        · rw [if_neg hk, if_neg hk]
      rw [en 0, en 1, en 2, en 3, en 5]
      exact this
