def pm2 (sl : Nat → Nat → Int32) (mn : Int32) (m : Nat) (num : Nat → Nat → Int32) (c : Nat) : Nat → Nat → Int32 := fun i k => if k = 0 ∧ i < c ∧ num i 5 = 0 then jmax 0 (jmin 99 (num i 0 + sumS sl mn i m - num i 1)) else numS sl mn num m i k
theorem pm2_end {n m : Nat} {sl : Nat → Nat → Int32} {mn : Int32} {num : Nat → Nat → Int32} {i k : Nat} (hi : i < n) : pm2 sl mn m num n i k = pmN n m sl mn num i k := by
  unfold pm2 pmN numS
  by_cases h : k = 0 ∧ num i 5 = 0
  · rw [if_pos ⟨h.1, hi, h.2⟩, if_pos ⟨h.1, hi, h.2⟩]
  · rw [if_neg (fun z => h ⟨z.1, z.2.2⟩), if_neg h, if_neg (fun z => h ⟨z.1, z.2.2⟩)]
theorem c_pass2 {t n m : Nat} {sl : Nat → Nat → Int32} {mn : Int32} {num : Nat → Nat → Int32} {h : AH} (ht : isT t) (hn9 : n ≤ 9) :
    ∀ (r c F : Nat) (h' : AH), c + r = n → r < F → CRep t h' n m (pm2 sl mn m num c) sl mn → Fr (fun o k => o = t + 1 ∨ (o = t ∧ k = 11)) h h' → Ok (fX7_passMinute_64 t F (nI c) h') (fun h' => CRep t h' n m (pmN n m sl mn num) sl (pmM mn) ∧ Fr (fun o k => o = t + 1 ∨ (o = t ∧ k = 11)) h h') := by
  intro r
  induction r with
  | zero =>
    intro c F h' hc hF C hFr
    obtain ⟨F, rfl⟩ : ∃ F', F = F' + 1 := ⟨F - 1, by omega⟩
    show Ok (fX7_passMinute_64_b t (fX7_passMinute_64 t F) (nI c) h') _
    unfold fX7_passMinute_64_b
    rw [C.1]
    have e : c = n := by omega
    subst e
    refine ok_t (nI_le (Nat.le_refl c) (by omega)) (ok_let (ok_some ⟨?_, hFr.w (Or.inr ⟨rfl, rfl⟩)⟩))
    obtain ⟨a, b, cc, dd, ee⟩ := C
    refine ⟨?_, ?_, ?_, fun i hi => ?_, fun z hz => ?_⟩
    · rw [wI_rd, if_neg (by omega)]; exact a
    · rw [wI_rd, if_neg (by omega)]; exact b
    · rw [wI_rd, if_pos ⟨rfl, rfl⟩, cc]; rfl
    · rw [wI_rd, if_neg (by omega), wI_rd, if_neg (by omega), wI_rd, if_neg (by omega), wI_rd, if_neg (by omega), wI_rd, if_neg (by omega), ← pm2_end hi, ← pm2_end hi, ← pm2_end hi, ← pm2_end hi, ← pm2_end hi]
      exact dd i hi
    · rw [wI_rd, if_neg (by omega), wI_rd, if_neg (by omega), wI_rd, if_neg (by omega)]
      exact ee z hz
  | succ r ih =>
    intro c F h' hc hF C hFr
    obtain ⟨F, rfl⟩ : ∃ F', F = F' + 1 := ⟨F - 1, by omega⟩
    show Ok (fX7_passMinute_64_b t (fX7_passMinute_64 t F) (nI c) h') _
    unfold fX7_passMinute_64_b
    obtain ⟨r0, r1, r2, r3, r4, r5, r6, r7, r8⟩ := rfT ht
    have hcn : c < n := by omega
    obtain ⟨d0, d1, d2, d3, d5⟩ := C.2.2.2.1 c hcn
    rw [C.1]
    refine ok_f (by rw [nI_leI (by omega) (by omega)]; omega) ?_
    refine ok_t (inb_nI (by omega) (by decide)) ?_
    rw [ix_nI (show c < 2 ^ 31 by omega), r5, r0, r1, d5, d0, d1, nI_1]
    have p5 : pm2 sl mn m num c c 5 = num c 5 := by unfold pm2 numS; rw [if_neg (by omega), if_neg (by omega)]
    have p1 : pm2 sl mn m num c c 1 = num c 1 := by unfold pm2 numS; rw [if_neg (by omega), if_neg (by omega)]
    rw [p5, p1]
    refine ok_if (fun g => ?_) (fun g => ?_)
    · have p0 : pm2 sl mn m num c c 0 = num c 0 + sumS sl mn c m := by unfold pm2 numS; rw [if_neg (by omega), if_pos ⟨rfl, g⟩]
      rw [p0]
      refine ok_let ?_
      refine ih (c + 1) F _ (by omega) (by omega) ?_ (hFr.w (Or.inl rfl))
      obtain ⟨a, b, cc, dd, ee⟩ := C
      refine ⟨?_, ?_, ?_, fun i hi => ?_, fun z hz => ?_⟩
      · rw [wI_rd, if_neg (by omega)]; exact a
      · rw [wI_rd, if_neg (by omega)]; exact b
      · rw [wI_rd, if_neg (by omega)]; exact cc
      · have en : ∀ k, ¬ (i = c ∧ k = 0) → pm2 sl mn m num (c + 1) i k = pm2 sl mn m num c i k := by
          intro k hk
          unfold pm2
          by_cases q : k = 0 ∧ i < c ∧ num i 5 = 0
          · rw [if_pos q, if_pos ⟨q.1, by omega, q.2.2⟩]
          · rw [if_neg q, if_neg (fun z => q ⟨z.1, by omega, z.2.2⟩)]
        obtain ⟨f0, f1, f2, f3, f5⟩ := dd i hi
        refine ⟨?_, ?_, ?_, ?_, ?_⟩
        · rw [wI_rd]
          by_cases hic : i = c
          · subst hic
            rw [if_pos ⟨rfl, rfl⟩]
            unfold pm2
            rw [if_pos ⟨rfl, by omega, g⟩]
          · rw [if_neg (by omega), en 0 (by omega)]; exact f0
        · rw [wI_rd, if_neg (by omega), en 1 (by omega)]; exact f1
        · rw [wI_rd, if_neg (by omega), en 2 (by omega)]; exact f2
        · rw [wI_rd, if_neg (by omega), en 3 (by omega)]; exact f3
        · rw [wI_rd, if_neg (by omega), en 5 (by omega)]; exact f5
      · rw [wI_rd, if_neg (by omega), wI_rd, if_neg (by omega), wI_rd, if_neg (by omega)]
        exact ee z hz
    · refine ih (c + 1) F h' (by omega) (by omega) ?_ hFr
      obtain ⟨a, b, cc, dd, ee⟩ := C
      refine ⟨a, b, cc, fun i hi => ?_, ee⟩
      have en : ∀ k, pm2 sl mn m num (c + 1) i k = pm2 sl mn m num c i k := by
        intro k
        unfold pm2
        by_cases q : k = 0 ∧ i < c ∧ num i 5 = 0
        · rw [if_pos q, if_pos ⟨q.1, by omega, q.2.2⟩]
        · rw [if_neg q, if_neg]
          rintro ⟨z1, z2, z3⟩
          by_cases hic : i = c
          · subst hic; exact g z3
          · exact q ⟨z1, by omega, z3⟩
      rw [en 0, en 1, en 2, en 3, en 5]
      exact dd i hi
/-- Tray.passMinute: a minute passes -/
theorem c_pass {t n m : Nat} {sl : Nat → Nat → Int32} {mn : Int32} {num : Nat → Nat → Int32} {h : AH} (ht : isT t) (hn9 : n ≤ 9) (hm : m ≤ 13) (hby : ∀ s, s < m → ∃ j, j < n ∧ sl s 2 = nI j) (C : CRep t h n m num sl mn) : Ok (fX7_passMinute t h) (fun h' => CRep t h' n m (pmN n m sl mn num) sl (pmM mn) ∧ Fr (fun o k => o = t + 1 ∨ (o = t ∧ k = 11)) h h') := by
  unfold fX7_passMinute
  refine c_pass1 (n := n) (m := m) (sl := sl) (mn := mn) (num := num) (h := h) ht hn9 hm hby (fun h' C' F' => ?_) m 0 FU h (by omega) (by unfold FU; omega) ?_ Fr.rf
  · refine c_pass2 ht hn9 n 0 FU h' (by omega) (by unfold FU; omega) ?_ F'
    obtain ⟨a, b, cc, dd, ee⟩ := C'
    refine ⟨a, b, cc, fun i hi => ?_, ee⟩
    have en : ∀ k, pm2 sl mn m num 0 i k = numS sl mn num m i k := by
      intro k; unfold pm2; rw [if_neg (by omega)]
    rw [en, en, en, en, en]
    exact dd i hi
  · obtain ⟨a, b, cc, dd, ee⟩ := C
    refine ⟨a, b, cc, fun i hi => ?_, ee⟩
    have en : ∀ k, numS sl mn num 0 i k = num i k := by
      intro k
      unfold numS
      by_cases q : k = 0 ∧ num i 5 = 0
      · rw [if_pos q, q.1]; show _ + (0 : Int32) = _; simp
      · rw [if_neg q]
    rw [en, en, en, en, en]
    exact dd i hi
/-! ===== the model's state ===== -/
def MSl (h : AH) (m : Nat) (sl : Nat → Nat → Int32) : Prop :=
  (h.1 59 23 = -1 ∧ h.1 59 3 = nI m ∧ ∀ s, s < m → ∀ j, j < 3 → h.1 60 (54 + 3 * s + j) = sl s j) ∨
  (∃ m', m = m' + 1 ∧ h.1 59 3 = nI m' ∧ (∀ s, s < m' → ∀ j, j < 3 → h.1 60 (54 + 3 * s + j) = sl s j) ∧ sl m' 2 = h.1 59 23 ∧ sl m' 0 = h.1 59 24 ∧ sl m' 1 = h.1 59 25)
def MRep (h : AH) (n m : Nat) (num sl : Nat → Nat → Int32) (mn : Int32) : Prop :=
  h.1 59 2 = nI n ∧ (∀ i, i < n → ∀ k, k < 6 → h.1 60 (6 * i + k) = num i k) ∧ h.1 60 93 = mn ∧ MSl h m sl
theorem m_slot {s j : Nat} {J : Int32} (hJ : J = nI j) (hs : s < 13) (hj : j < 3) : inb (54 + 3 * nI s + J) 94 = true ∧ ix (54 + 3 * nI s + J) = 54 + 3 * s + j ∨ 12 ≤ s := by
  by_cases h12 : s < 12
  · left
    have e : (54 : Int32) + 3 * nI s + J = nI (54 + 3 * s + j) := by
      rw [hJ, show (3 : Int32) = nI 3 from rfl, pk_mul, show (54 : Int32) = nI 54 from rfl, nI_add, nI_add]
    rw [e]
    exact ⟨inb_nI (by omega) (by decide), ix_nI (by omega)⟩
  · right; omega
theorem m_slot0 {s : Nat} (hs : s < 12) : inb (54 + 3 * nI s) 94 = true ∧ ix (54 + 3 * nI s) = 54 + 3 * s := by
  have e : (54 : Int32) + 3 * nI s = nI (54 + 3 * s) := by
    rw [show (3 : Int32) = nI 3 from rfl, pk_mul, show (54 : Int32) = nI 54 from rfl, nI_add]
  rw [e]
  exact ⟨inb_nI (by omega) (by decide), ix_nI (by omega)⟩
theorem m_slotJ {s j : Nat} {J : Int32} (hJ : J = nI j) (hs : s < 12) (hj : j < 3) : inb (54 + 3 * nI s + J) 94 = true ∧ ix (54 + 3 * nI s + J) = 54 + 3 * s + j := by
  rcases m_slot (s := s) hJ (by omega) hj with q | q
  · exact q
  · omega
/-- the model's inner loop over the slips that stand -/
theorem m_gm_in {i0 m' : Nat} {Q : Int32 → AH → Option AH} {sl : Nat → Nat → Int32} {mn : Int32} {h : AH} {P : AH → Prop} (hm : m' ≤ 12) (hi0 : i0 < 9) (h3 : h.1 59 3 = nI m') (hsl : ∀ s, s < m' → ∀ j, j < 3 → h.1 60 (54 + 3 * s + j) = sl s j) (hmn : h.1 60 93 = mn) (x0 : Int32)
    (hend : Ok (if h.1 59 23 = nI i0 then if h.1 59 24 = mn then fX10_goMinute_131 Q (nI i0) (x0 + sumS sl mn i0 m' + h.1 59 25) h else fX10_goMinute_131 Q (nI i0) (x0 + sumS sl mn i0 m') h else fX10_goMinute_131 Q (nI i0) (x0 + sumS sl mn i0 m') h) P) :
    ∀ (r s F : Nat), s + r = m' → r < F → Ok (fX10_goMinute_34 Q F (nI i0) (x0 + sumS sl mn i0 s) (nI s) h) P := by
  intro r
  have e93 : ix (93 : Int32) = 93 := by decide
  induction r with
  | zero =>
    intro s F hs hF
    obtain ⟨F, rfl⟩ : ∃ F', F = F' + 1 := ⟨F - 1, by omega⟩
    show Ok (fX10_goMinute_34_b Q (fX10_goMinute_34 Q F) (nI i0) (x0 + sumS sl mn i0 s) (nI s) h) P
    unfold fX10_goMinute_34_b
    have e : s = m' := by omega
    subst e
    rw [h3, e93, hmn]
    exact ok_t (nI_le (Nat.le_refl s) (by omega)) hend
  | succ r ih =>
    intro s F hs hF
    obtain ⟨F, rfl⟩ : ∃ F', F = F' + 1 := ⟨F - 1, by omega⟩
    show Ok (fX10_goMinute_34_b Q (fX10_goMinute_34 Q F) (nI i0) (x0 + sumS sl mn i0 s) (nI s) h) P
    unfold fX10_goMinute_34_b
    have hsm : s < m' := by omega
    have s0 := hsl s hsm 0 (by decide)
    have s1 := hsl s hsm 1 (by decide)
    have s2 := hsl s hsm 2 (by decide)
    rw [h3]
    refine ok_f (by rw [nI_leI (by omega) (by omega)]; omega) ?_
    refine ok_let ?_
    refine ok_t (m_slot0 (by omega)).1 ?_
    rw [(m_slot0 (show s < 12 by omega)).2, e93, hmn, (m_slotJ (J := 2) (j := 2) rfl (show s < 12 by omega) (by decide)).2, (m_slotJ (J := 1) (j := 1) rfl (show s < 12 by omega) (by decide)).2, s1, s2, show h.1 60 (54 + 3 * s) = sl s 0 from s0, nI_1]
    have ihs := ih (s + 1) F (by omega) (by omega)
    have es : sumS sl mn i0 (s + 1) = sumS sl mn i0 s + (if sl s 0 = mn ∧ sl s 2 = nI i0 then sl s 1 else 0) := rfl
    rw [es] at ihs
    refine ok_if (fun c1 => ?_) (fun c1 => ?_)
    · refine ok_t (m_slotJ rfl (by omega) (by decide)).1 ?_
      refine ok_if (fun c2 => ?_) (fun c2 => ?_)
      · refine ok_t (m_slotJ rfl (by omega) (by decide)).1 (ok_let ?_)
        rw [if_pos ⟨c1, c2⟩, ← Int32.add_assoc] at ihs
        exact ihs
      · refine ok_let ?_
        rw [if_neg (fun z => c2 z.2), ← Int32.add_assoc] at ihs
        exact ihs
    · refine ok_let ?_
      rw [if_neg (fun z => c1 z.1), ← Int32.add_assoc] at ihs
      exact ihs
