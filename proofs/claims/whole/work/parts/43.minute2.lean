theorem ring1 (a f s : Int32) : a - f + s = a + s - f := by
  rw [Int32.sub_eq_add_neg, Int32.sub_eq_add_neg, Int32.add_assoc, Int32.add_comm (-f) s, ← Int32.add_assoc]
theorem nI_nm1 {i : Nat} (hi : i < 2 ^ 31) : ¬ (-1 : Int32) = nI i := by
  rw [i_eq, nI_toInt hi]
  have : (-1 : Int32).toInt = -1 := by decide
  rw [this]
  omega
theorem MSl.fr {h h' : AH} {m : Nat} {sl : Nat → Nat → Int32} (M : MSl h m sl) (e3 : h'.1 59 3 = h.1 59 3) (e23 : h'.1 59 23 = h.1 59 23) (e24 : h'.1 59 24 = h.1 59 24) (e25 : h'.1 59 25 = h.1 59 25) (e60 : ∀ k, 54 ≤ k → k < 93 → h'.1 60 k = h.1 60 k) (hm : m ≤ 12 ∨ ∃ m', m = m' + 1 ∧ m' ≤ 12 ∧ h.1 59 3 = nI m') : MSl h' m sl := by
  rcases M with ⟨a, b, c⟩ | ⟨m', a, b, c, d, e, f⟩
  · refine Or.inl ⟨e23.trans a, e3.trans b, fun s hs j hj => ?_⟩
    have hm12 : m ≤ 12 := by
      rcases hm with q | ⟨m', q1, q2, q3⟩
      · exact q
      · have := nI_inj (by omega) (by omega) (q3.symm.trans b)
        omega
    rw [e60 _ (by omega) (by omega)]
    exact c s hs j hj
  · have hm12 : m' ≤ 12 := by
      rcases hm with q | ⟨m2, q1, q2, q3⟩ <;> omega
    refine Or.inr ⟨m', a, e3.trans b, fun s hs j hj => ?_, d.trans e23.symm, e.trans e24.symm, f.trans e25.symm⟩
    rw [e60 _ (by omega) (by omega)]
    exact c s hs j hj
def mOK (h : AH) (m : Nat) : Prop := m ≤ 12 ∨ ∃ m', m = m' + 1 ∧ m' ≤ 12 ∧ h.1 59 3 = nI m'
def pmC (m : Nat) (sl : Nat → Nat → Int32) (mn : Int32) (num : Nat → Nat → Int32) (c : Nat) : Nat → Nat → Int32 := fun i k => if k = 0 ∧ i < c ∧ num i 5 = 0 then jmax 0 (jmin 99 (num i 0 + sumS sl mn i m - num i 1)) else num i k
theorem m_pass {n m : Nat} {sl : Nat → Nat → Int32} {mn : Int32} {num : Nat → Nat → Int32} {h : AH} (hn9 : n ≤ 9) (hm : mOK h m) (M : MRep h n m num sl mn) : Ok (fX10_goMinute h) (fun h' => MRep h' n m (pmN n m sl mn num) sl (pmM mn) ∧ Fr (fun o k => o = 60 ∧ k < 94) h h') := by
  have e93 : ix (93 : Int32) = 93 := by decide
  have key : ∀ (r c F : Nat) (h' : AH), c + r = n → r < F → MRep h' n m (pmC m sl mn num c) sl mn → Fr (fun o k => o = 60 ∧ k < 94) h h' → Ok (fX10_goMinute_2 F (nI c) h') (fun h' => MRep h' n m (pmN n m sl mn num) sl (pmM mn) ∧ Fr (fun o k => o = 60 ∧ k < 94) h h') := by
    intro r
    induction r with
    | zero =>
      intro c F h' hc hF M hFr
      obtain ⟨F, rfl⟩ : ∃ F', F = F' + 1 := ⟨F - 1, by omega⟩
      show Ok (fX10_goMinute_2_b (fX10_goMinute_2 F) (nI c) h') _
      unfold fX10_goMinute_2_b
      rw [M.1]
      have e : c = n := by omega
      subst e
      refine ok_t (nI_le (Nat.le_refl c) (by omega)) (ok_let (ok_some ⟨?_, hFr.w ⟨rfl, by rw [e93]; decide⟩⟩))
      rw [e93]
      obtain ⟨a, b, d, f⟩ := M
      refine ⟨?_, fun i hi k hk => ?_, ?_, ?_⟩
      · rw [wI_rd, if_neg (by omega)]; exact a
      · rw [wI_rd, if_neg (by omega), b i hi k hk]
        unfold pmC pmN
        rfl
      · rw [wI_rd, if_pos ⟨rfl, rfl⟩, d]; rfl
      · refine f.fr (by rw [wI_rd, if_neg (by omega)]) (by rw [wI_rd, if_neg (by omega)]) (by rw [wI_rd, if_neg (by omega)]) (by rw [wI_rd, if_neg (by omega)]) (fun k h1 h2 => by rw [wI_rd, if_neg (by omega)]) ?_
        rw [hFr.1 59 3 (by omega)]
        exact hm
    | succ r ih =>
      intro c F h' hc hF M hFr
      obtain ⟨F, rfl⟩ : ∃ F', F = F' + 1 := ⟨F - 1, by omega⟩
      show Ok (fX10_goMinute_2_b (fX10_goMinute_2 F) (nI c) h') _
      unfold fX10_goMinute_2_b
      have hcn : c < n := by omega
      rw [M.1]
      refine ok_f (by rw [nI_leI (by omega) (by omega)]; omega) ?_
      rw [m_isHere (by omega), b2_some, nI_1]
      have b5 := M.2.1 c hcn 5 (by decide)
      have b0 := M.2.1 c hcn 0 (by decide)
      have b1 := M.2.1 c hcn 1 (by decide)
      have p5 : pmC m sl mn num c c 5 = num c 5 := by unfold pmC; rw [if_neg (by omega)]
      have p0 : pmC m sl mn num c c 0 = num c 0 := by unfold pmC; rw [if_neg (by omega)]
      have p1 : pmC m sl mn num c c 1 = num c 1 := by unfold pmC; rw [if_neg (by omega)]
      rw [p5] at b5
      rw [p0] at b0
      rw [p1] at b1
      rw [b5]
      refine ok_if (fun g => ?_) (fun g => ?_)
      · have g5 : ¬ num c 5 = 0 := by
          intro q
          rw [if_pos q] at g
          exact absurd g (by decide)
        refine ih (c + 1) F h' (by omega) (by omega) ?_ hFr
        obtain ⟨a, b, d, f⟩ := M
        refine ⟨a, fun i hi k hk => ?_, d, f⟩
        rw [b i hi k hk]
        unfold pmC
        by_cases q : k = 0 ∧ i < c ∧ num i 5 = 0
        · rw [if_pos q, if_pos ⟨q.1, by omega, q.2.2⟩]
        · rw [if_neg q, if_neg]
          rintro ⟨z1, z2, z3⟩
          by_cases hic : i = c
          · subst hic; exact g5 z3
          · exact q ⟨z1, by omega, z3⟩
      · have g5 : num c 5 = 0 := by
          apply Classical.byContradiction
          intro q
          rw [if_neg q] at g
          exact g rfl
        rw [m_number (K := 0) (k := 0) rfl (show c < 9 by omega) (by decide), b2_some, m_number (K := 1) (k := 1) rfl (show c < 9 by omega) (by decide), b2_some, b0, b1]
        refine ok_let ?_
        have fin : Ok (fX10_goMinute_131 (fX10_goMinute_2 F) (nI c) (num c 0 - num c 1 + sumS sl mn c m) h') (fun h' => MRep h' n m (pmN n m sl mn num) sl (pmM mn) ∧ Fr (fun o k => o = 60 ∧ k < 94) h h') := by
          unfold fX10_goMinute_131
          rw [m_bound, b2_some, m_change (K := 0) (k := 0) rfl (show c < 9 by omega) (by decide), bV_some, nI_1, ring1]
          refine ih (c + 1) F _ (by omega) (by omega) ?_ (hFr.w ⟨rfl, by omega⟩)
          obtain ⟨a, b, d, f⟩ := M
          refine ⟨?_, fun i hi k hk => ?_, ?_, ?_⟩
          · rw [wI_rd, if_neg (by omega)]; exact a
          · rw [wI_rd]
            by_cases q : i = c ∧ k = 0
            · rw [if_pos (by omega)]
              unfold pmC
              rw [if_pos ⟨q.2, by omega, by rw [q.1]; exact g5⟩, q.1]
            · rw [if_neg (by omega), b i hi k hk]
              unfold pmC
              by_cases z : k = 0 ∧ i < c ∧ num i 5 = 0
              · rw [if_pos z, if_pos ⟨z.1, by omega, z.2.2⟩]
              · rw [if_neg z, if_neg (fun w => z ⟨w.1, by omega, w.2.2⟩)]
          · rw [wI_rd, if_neg (by omega)]; exact d
          · refine f.fr (by rw [wI_rd, if_neg (by omega)]) (by rw [wI_rd, if_neg (by omega)]) (by rw [wI_rd, if_neg (by omega)]) (by rw [wI_rd, if_neg (by omega)]) (fun k h1 h2 => by rw [wI_rd, if_neg (by omega)]) ?_
            rw [hFr.1 59 3 (by omega)]
            exact hm
        have hm' : mOK h' m := by
          unfold mOK
          rw [hFr.1 59 3 (by omega)]
          exact hm
        have e0 : num c 0 - num c 1 = num c 0 - num c 1 + sumS sl mn c 0 := by show _ = _ + (0 : Int32); simp
        rw [e0, show (0 : Int32) = nI 0 from rfl]
        rcases M.2.2.2 with ⟨f1, f2, f3⟩ | ⟨m', f1, f2, f3, f4, f5, f6⟩
        · have m12 : m ≤ 12 := by
            rcases hm' with q | ⟨m', q1, q2, q3⟩
            · exact q
            · have := nI_inj (by omega) (by omega) (q3.symm.trans f2)
              omega
          refine m_gm_in m12 (by omega) f2 f3 M.2.2.1 (num c 0 - num c 1) ?_ m 0 FU (by omega) (by unfold FU; omega)
          rw [f1]
          exact ok_f (nI_nm1 (by omega)) fin
        · have m12 : m' ≤ 12 := by
            rcases hm' with q | ⟨m2, q1, q2, q3⟩ <;> omega
          refine m_gm_in m12 (by omega) f2 f3 M.2.2.1 (num c 0 - num c 1) ?_ m' 0 FU (by omega) (by unfold FU; omega)
          subst f1
          have es : sumS sl mn c (m' + 1) = sumS sl mn c m' + (if sl m' 0 = mn ∧ sl m' 2 = nI c then sl m' 1 else 0) := rfl
          rw [es] at fin
          rw [← f4, ← f5, ← f6]
          refine ok_if (fun c1 => ?_) (fun c1 => ?_)
          · refine ok_if (fun c2 => ?_) (fun c2 => ?_)
            · rw [if_pos ⟨c2, c1⟩, ← Int32.add_assoc] at fin
              exact fin
            · rw [if_neg (fun z => c2 z.1), ← Int32.add_assoc] at fin
              have e9 : num c 0 - num c 1 + sumS sl mn c m' + 0 = num c 0 - num c 1 + sumS sl mn c m' := by simp
              rw [e9] at fin
              exact fin
          · rw [if_neg (fun z => c1 z.2), ← Int32.add_assoc] at fin
            have e9 : num c 0 - num c 1 + sumS sl mn c m' + 0 = num c 0 - num c 1 + sumS sl mn c m' := by simp
            rw [e9] at fin
            exact fin
  unfold fX10_goMinute
  refine key n 0 FU h (by omega) (by unfold FU; omega) ?_ Fr.rf
  obtain ⟨a, b, d, f⟩ := M
  refine ⟨a, fun i hi k hk => ?_, d, f⟩
  rw [b i hi k hk]
  unfold pmC
  rw [if_neg (by omega)]
