/-! upside: pairs in the order, and pairs of numbers -/
def prs (u : Nat → Nat → Bool) : List Nat → Nat
  | [] => 0
  | x :: xs => xs.countP (u x) + prs u xs
def wgt (f : Nat → Int32) (u : Nat → Nat → Bool) (j x : Nat) : Bool := if (f x).toInt < (f j).toInt then u j x else u x j
theorem prs_ins (f : Nat → Int32) (u : Nat → Nat → Bool) (c : Nat) : ∀ L : List Nat, L.Pairwise (bef f) → prs u (insL f c L) = prs u L + L.countP (wgt f u c)
  | [], _ => rfl
  | x :: xs, hp => by
    have hp' := List.pairwise_cons.mp hp
    unfold insL
    split
    · rename_i h1
      show (x :: xs).countP (u c) + prs u (x :: xs) = _
      have e : (x :: xs).countP (u c) = (x :: xs).countP (wgt f u c) := by
        apply List.countP_congr
        intro z hz
        have hz2 : (f z).toInt < (f c).toInt := by
          rcases List.mem_cons.mp hz with rfl | hz
          · exact h1
          · have := hp'.1 z hz
            unfold bef at this
            omega
        unfold wgt
        rw [if_pos hz2]
      rw [e]
      omega
    · rename_i h1
      show (insL f c xs).countP (u x) + prs u (insL f c xs) = xs.countP (u x) + prs u xs + (x :: xs).countP (wgt f u c)
      rw [cntP_ins, prs_ins f u c xs hp'.2, List.countP_cons]
      have e : wgt f u c x = u x c := by unfold wgt; rw [if_neg h1]
      rw [e]
      omega
def cntI (num : Nat → Nat → Int32) (p : Nat → Bool) : Nat → Nat
  | 0 => 0
  | c + 1 => cntI num p c + (if num c 5 = 0 ∧ p c = true then 1 else 0)
theorem cntI_ord (f : Nat → Int32) (num : Nat → Nat → Int32) (p : Nat → Bool) : ∀ c, (ordL f num c).countP p = cntI num p c
  | 0 => rfl
  | c + 1 => by
    show (if num c 5 = 0 then insL f c (ordL f num c) else ordL f num c).countP _ = cntI num p c + (if num c 5 = 0 ∧ p c = true then 1 else 0)
    by_cases h : num c 5 = 0
    · rw [if_pos h, cntP_ins, cntI_ord f num p c]
      by_cases h2 : p c = true
      · rw [if_pos h2, if_pos ⟨h, h2⟩]
      · rw [if_neg h2, if_neg (fun q => h2 q.2)]
    · rw [if_neg h, cntI_ord f num p c, if_neg (fun q => h q.1)]; rfl
def WW (num : Nat → Nat → Int32) (f : Nat → Int32) (u : Nat → Nat → Bool) (i j : Nat) : Nat := if num i 5 = 0 ∧ num j 5 = 0 ∧ wgt f u j i = true then 1 else 0
def RR (w : Nat → Nat → Nat) (i : Nat) : Nat → Nat
  | 0 => 0
  | j + 1 => RR w i j + (if i < j then w i j else 0)
def AA (w : Nat → Nat → Nat) (n : Nat) : Nat → Nat
  | 0 => 0
  | i + 1 => AA w n i + RR w i n
def CC (w : Nat → Nat → Nat) (j : Nat) : Nat → Nat
  | 0 => 0
  | i + 1 => CC w j i + w i j
def BB (w : Nat → Nat → Nat) : Nat → Nat
  | 0 => 0
  | j + 1 => BB w j + CC w j j
theorem RR_0 (w : Nat → Nat → Nat) (i : Nat) : ∀ j, j ≤ i + 1 → RR w i j = 0
  | 0, _ => rfl
  | j + 1, h => by
    show RR w i j + (if i < j then w i j else 0) = 0
    rw [RR_0 w i j (by omega), if_neg (by omega)]
theorem AA_up (w : Nat → Nat → Nat) (n : Nat) : ∀ c, c ≤ n → AA w (n + 1) c = AA w n c + CC w n c
  | 0, _ => rfl
  | c + 1, h => by
    show AA w (n + 1) c + (RR w c n + (if c < n then w c n else 0)) = AA w n c + RR w c n + (CC w n c + w c n)
    rw [AA_up w n c (by omega), if_pos (by omega)]
    omega
theorem AA_BB (w : Nat → Nat → Nat) : ∀ n, AA w n n = BB w n
  | 0 => rfl
  | n + 1 => by
    show AA w (n + 1) n + RR w n (n + 1) = BB w n + CC w n n
    rw [AA_up w n n (Nat.le_refl n), RR_0 w n (n + 1) (Nat.le_refl _), AA_BB w n]
    rfl
theorem CC_cnt (num : Nat → Nat → Int32) (f : Nat → Int32) (u : Nat → Nat → Bool) (j : Nat) : ∀ c, CC (WW num f u) j c = if num j 5 = 0 then cntI num (wgt f u j) c else 0
  | 0 => by
    show 0 = _
    split <;> rfl
  | c + 1 => by
    show CC (WW num f u) j c + WW num f u c j = _
    rw [CC_cnt num f u j c]
    unfold WW
    by_cases h : num j 5 = 0
    · rw [if_pos h, if_pos h]
      show _ = cntI num (wgt f u j) c + (if num c 5 = 0 ∧ wgt f u j c = true then 1 else 0)
      by_cases h2 : num c 5 = 0 ∧ wgt f u j c = true
      · rw [if_pos h2, if_pos ⟨h2.1, h, h2.2⟩]
      · rw [if_neg h2, if_neg (fun q => h2 ⟨q.1, q.2.2⟩)]
    · rw [if_neg h, if_neg h, if_neg (fun q => h q.2.1)]
theorem prs_ord (num : Nat → Nat → Int32) (f : Nat → Int32) (u : Nat → Nat → Bool) : ∀ n, prs u (ordL f num n) = AA (WW num f u) n n := by
  have key : ∀ n, prs u (ordL f num n) = BB (WW num f u) n := by
    intro n
    induction n with
    | zero => rfl
    | succ n ih =>
      show prs u (if num n 5 = 0 then insL f n (ordL f num n) else ordL f num n) = BB (WW num f u) n + CC (WW num f u) n n
      rw [CC_cnt]
      by_cases h : num n 5 = 0
      · rw [if_pos h, if_pos h, prs_ins f u n _ (ordL_srt f num n), ih, cntI_ord]
      · rw [if_neg h, if_neg h, ih]; rfl
  intro n
  rw [key, AA_BB]
theorem RR_le {w : Nat → Nat → Nat} (hw : ∀ i j, w i j ≤ 1) (i : Nat) : ∀ j, RR w i j ≤ j
  | 0 => Nat.le_refl 0
  | j + 1 => by
    have := RR_le hw i j
    have := hw i j
    show RR w i j + _ ≤ _
    split <;> omega
theorem AA_le {w : Nat → Nat → Nat} (hw : ∀ i j, w i j ≤ 1) (n : Nat) : ∀ i, AA w n i ≤ n * i
  | 0 => Nat.le_refl 0
  | i + 1 => by
    have h1 := AA_le hw n i
    have h2 := RR_le hw i n
    show AA w n i + RR w i n ≤ n * (i + 1)
    rw [Nat.mul_add]
    omega
theorem WW_le (num : Nat → Nat → Int32) (f : Nat → Int32) (u : Nat → Nat → Bool) (i j : Nat) : WW num f u i j ≤ 1 := by
  unfold WW
  split <;> omega
theorem sub_small {a b : Int32} (ha : 0 ≤ a.toInt ∧ a.toInt ≤ 99) (hb : 0 ≤ b.toInt ∧ b.toInt ≤ 99) : (a - b).toInt = a.toInt - b.toInt := by
  obtain ⟨ea, ha'⟩ := nI_of_rg (a := 99) ha.1 ha.2 (by decide)
  obtain ⟨eb, hb'⟩ := nI_of_rg (a := 99) hb.1 hb.2 (by decide)
  rw [ea, eb, pk_sub_toInt (by omega) (by omega), nI_toInt (by omega), nI_toInt (by omega)]
def uU (num : Nat → Nat → Int32) (a b : Nat) : Bool := decide ((num a 0).toInt < (num b 0).toInt)
def uT (f : Nat → Int32) (a b : Nat) : Bool := decide (f a = f b)
theorem rg0 {v : Int32} (h : rgK 0 v) : 0 ≤ v.toInt ∧ v.toInt ≤ 99 := by
  unfold rgK at h
  have e1 : (ST 200 0).toInt = 0 := by decide +kernel
  have e2 : (ST 201 0).toInt = 99 := by decide +kernel
  rw [e1, e2] at h
  exact h
theorem c_upside {n m B : Nat} {num sl : Nat → Nat → Int32} {mn w : Int32} {Λ : LawF} {h : AH} (T : TI h n m num sl mn) (O : Oth h n m B Λ) : Ok (fX9_upside_16 w FU w 0 0 0 h) (fun q => q.1 = (if w = 0 then nI (AA (WW num (rd Λ n num mn) (uU num)) n n) else nI (AA (WW num (rd Λ n num mn) (uT (rd Λ n num mn))) n n)) ∧ Fr Scr h q.2) := by
  have hn9 := T.n9
  have e0 : (0 : Int32).toInt = 0 := by decide
  have z0 : ∀ v : Int32, v + 0 = v := fun v => by simp
  obtain ⟨f, ef⟩ : ∃ f, f = rd Λ n num mn := ⟨_, rfl⟩
  rw [← ef]
  have hf : ∀ i, 0 ≤ (f i).toInt ∧ (f i).toInt ≤ 99 := fun i => by rw [ef]; exact O.ir _ _ _ _ _ _
  obtain ⟨wu, ewu⟩ : ∃ wu, wu = WW num f (uU num) := ⟨_, rfl⟩
  obtain ⟨wt, ewt⟩ : ∃ wt, wt = WW num f (uT f) := ⟨_, rfl⟩
  rw [← ewu, ← ewt]
  refine L4 (f := fX9_upside_16 w) (b := fX9_upside_16_b w) (fun _ => rfl) (fun r x y z u h' => ∃ i, i + r = n ∧ x = w ∧ y = nI (AA wu n i) ∧ z = nI (AA wt n i) ∧ u = nI i ∧ Fr Scr h h') ?_ n FU w 0 0 0 h (by unfold FU; omega) ⟨0, by omega, rfl, rfl, rfl, rfl, Fr.rf⟩
  rintro r x y z u h' ⟨i, hi, rfl, rfl, rfl, rfl, F'⟩ Q hQ
  obtain ⟨T', O'⟩ := scr_t T O F'
  unfold fX9_upside_16_b
  rw [T'.c.1]
  refine ok_if (fun d1 => ?_) (fun d1 => ?_)
  · rw [nI_leI (by omega) (by omega)] at d1
    have e : i = n := by omega
    subst e
    by_cases d2 : x = 0
    · rw [if_pos d2, if_pos d2]; exact ok_some ⟨rfl, F'⟩
    · rw [if_neg d2, if_neg d2]; exact ok_some ⟨rfl, F'⟩
  · rw [nI_leI (by omega) (by omega)] at d1
    have hin : i < n := by omega
    refine ok_let ?_
    rw [nI_1]
    refine L5 (f := fX9_upside_34 x Q) (b := fX9_upside_34_b x Q) (fun _ => rfl) (fun r2 a b c d e h2 => ∃ j, j + r2 = n ∧ i < j ∧ a = x ∧ b = nI (AA wu n i + RR wu i j) ∧ c = nI (AA wt n i + RR wt i j) ∧ d = nI i ∧ e = nI j ∧ Fr Scr h h2) ?_ (n - (i + 1)) FU x _ _ (nI i) (nI (i + 1)) h' (by unfold FU; omega) ⟨i + 1, by omega, by omega, rfl, by rw [RR_0 wu i (i + 1) (Nat.le_refl _)]; rfl, by rw [RR_0 wt i (i + 1) (Nat.le_refl _)]; rfl, rfl, rfl, F'⟩
    rintro r2 a b c d e h2 ⟨j, hj, hij, rfl, rfl, rfl, rfl, rfl, F2⟩ Q2 hQ2
    obtain ⟨T2, O2⟩ := scr_t T O F2
    unfold fX9_upside_34_b
    rw [T2.c.1]
    refine ok_if (fun d2 => ?_) (fun d2 => ?_)
    · rw [nI_leI (by omega) (by omega)] at d2
      have e : j = n := by omega
      subst e
      rw [nI_1]
      exact hQ (r - 1) _ _ _ _ _ (by omega) ⟨i + 1, by omega, rfl, rfl, rfl, rfl, F2⟩
    · rw [nI_leI (by omega) (by omega)] at d2
      have hjn : j < n := by omega
      have su : RR wu i (j + 1) = RR wu i j + wu i j := by show RR wu i j + (if i < j then wu i j else 0) = _; rw [if_pos hij]
      have st : RR wt i (j + 1) = RR wt i j + wt i j := by show RR wt i j + (if i < j then wt i j else 0) = _; rw [if_pos hij]
      rw [c_isLeft (Or.inl rfl) hn9 T2.c hin, b2_some, nI_1]
      by_cases q1 : num i 5 = 0
      · rw [if_pos q1]
        refine ok_f (by decide) ?_
        rw [c_isLeft (Or.inl rfl) hn9 T2.c hjn, b2_some]
        by_cases q2 : num j 5 = 0
        · rw [if_pos q2]
          refine ok_f (by decide) ?_
          refine ok_bv (O2.cl 1 n m num sl mn h2 (Or.inl rfl) hn9 T.gone T2.c rfl rfl i hin) (fun h3 F3 => ?_)
          have F3 : Fr Scr h h3 := F2.tr (F3.mono (fun o k q => St_scr o k (Or.inl q)))
          obtain ⟨T3, O3⟩ := scr_t T O F3
          refine ok_bv (O3.cl 1 n m num sl mn h3 (Or.inl rfl) hn9 T.gone T3.c rfl rfl j hjn) (fun h4 F4 => ?_)
          have F4 : Fr Scr h h4 := F3.tr (F4.mono (fun o k q => St_scr o k (Or.inl q)))
          obtain ⟨T4, O4⟩ := scr_t T O F4
          rw [← ef]
          have hs := sub_small (hf i) (hf j)
          have hr := sub_small (rg0 (T.1.2.2.1 i hin 0 (by decide))) (rg0 (T.1.2.2.1 j hjn 0 (by decide)))
          have vu1 : (f i).toInt < (f j).toInt → wu i j = if (num j 0).toInt < (num i 0).toInt then 1 else 0 := by
            intro k1
            rw [ewu]
            unfold WW wgt uU
            simp [q1, q2, k1]
          have vu2 : ¬ (f i).toInt < (f j).toInt → wu i j = if (num i 0).toInt < (num j 0).toInt then 1 else 0 := by
            intro k1
            rw [ewu]
            unfold WW wgt uU
            simp [q1, q2, k1]
          have vt : wt i j = if f i = f j then 1 else 0 := by
            have e : wgt f (uT f) j i = decide (f i = f j) := by
              unfold wgt uT
              split
              · exact decide_eq_decide.mpr ⟨Eq.symm, Eq.symm⟩
              · rfl
            rw [ewt]
            unfold WW
            rw [e]
            by_cases k2 : f i = f j
            · rw [if_pos ⟨q1, q2, decide_eq_true k2⟩, if_pos k2]
            · rw [if_neg (fun z => k2 (of_decide_eq_true z.2.2)), if_neg k2]
          have go : ∀ (s x6 : Int32), (s = 0 ↔ (f i).toInt < (f j).toInt) → (x6 = 0 ↔ f i = f j) → Ok (fX9_upside_109 a Q Q2 a (nI (AA wu n i + RR wu i j)) (nI (AA wt n i + RR wt i j)) (nI i) (nI j) x6 s h4) (fun q => q.1 = (if a = 0 then nI (AA wu n n) else nI (AA wt n n)) ∧ Fr Scr h q.2) := by
            intro s x6 hs hx
            have go2 : ∀ v : Nat, v = wt i j → Ok (fX9_upside_122 a Q Q2 a (nI (AA wu n i + RR wu i j)) (nI i) (nI j) s (nI v) (nI (AA wt n i + RR wt i j)) h4) (fun q => q.1 = (if a = 0 then nI (AA wu n n) else nI (AA wt n n)) ∧ Fr Scr h q.2) := by
              intro v hv
              unfold fX9_upside_122
              refine ok_let (ok_t (inb_nI (by omega) (by decide)) (ok_t (inb_nI (by omega) (by decide)) (ok_let ?_)))
              rw [ix_nI (by omega), ix_nI (by omega), (T4.c.2.2.2.1 i hin).1, (T4.c.2.2.2.1 j hjn).1, nI_add, hv, nI_1, nI_1]
              have fin : ∀ e : Nat, e = wu i j → Ok (Q2 a (nI (AA wu n i + RR wu i j + e)) (nI (AA wt n i + RR wt i j + wt i j)) (nI i) (nI (j + 1)) h4) (fun q => q.1 = (if a = 0 then nI (AA wu n n) else nI (AA wt n n)) ∧ Fr Scr h q.2) := by
                intro e he
                refine hQ2 (r2 - 1) _ _ _ _ _ _ (by omega) ⟨j + 1, by omega, by omega, rfl, ?_, ?_, rfl, rfl, F4⟩
                · rw [he, su, Nat.add_assoc]
                · rw [st, Nat.add_assoc]
              refine ok_if (fun k1 => ?_) (fun k1 => ?_)
              · have k1 := hs.mp k1
                have vu := vu1 k1
                refine ok_if (fun k2 => ?_) (fun k2 => ?_)
                · rw [i_le, hr, e0] at k2
                  rw [z0]
                  exact ok_let (fin 0 (by rw [vu, if_neg (by omega)]))
                · rw [i_le, hr, e0] at k2
                  exact ok_let (fin 1 (by rw [vu, if_pos (by omega)]))
              · have k1 : ¬ (f i).toInt < (f j).toInt := fun z => k1 (hs.mpr z)
                have vu := vu2 k1
                refine ok_if (fun k2 => ?_) (fun k2 => ?_)
                · rw [i_le, hr, e0] at k2
                  rw [z0]
                  exact ok_let (fin 0 (by rw [vu, if_neg (by omega)]))
                · rw [i_le, hr, e0] at k2
                  exact ok_let (fin 1 (by rw [vu, if_pos (by omega)]))
            unfold fX9_upside_109
            refine ok_if (fun k1 => ?_) (fun k1 => ?_)
            · exact go2 1 (by rw [vt, if_pos (hx.mp k1)])
            · exact go2 0 (by rw [vt, if_neg (fun z => k1 (hx.mpr z))])
          have hx : f i - f j = 0 ↔ f i = f j := by
            rw [i_eq, hs, e0, i_eq]
            omega
          refine ok_let (ok_if (fun k1 => ?_) (fun k1 => ?_))
          · rw [i_lt, hs, e0] at k1
            exact go 0 _ ⟨fun _ => by omega, fun _ => rfl⟩ hx
          · rw [i_lt, hs, e0] at k1
            exact go 1 _ ⟨fun z => absurd z (by decide), fun z => by omega⟩ hx
        · rw [if_neg q2]
          refine ok_t rfl ?_
          refine hQ2 (r2 - 1) _ _ _ _ _ _ (by omega) ⟨j + 1, by omega, by omega, rfl, ?_, ?_, rfl, rfl, F2⟩
          · rw [su, ewu]; unfold WW; rw [if_neg (fun z => q2 z.2.1)]; rfl
          · rw [st, ewt]; unfold WW; rw [if_neg (fun z => q2 z.2.1)]; rfl
      · rw [if_neg q1]
        refine ok_t rfl ?_
        refine hQ2 (r2 - 1) _ _ _ _ _ _ (by omega) ⟨j + 1, by omega, by omega, rfl, ?_, ?_, rfl, rfl, F2⟩
        · rw [su, ewu]; unfold WW; rw [if_neg (fun z => q1 z.1)]; rfl
        · rw [st, ewt]; unfold WW; rw [if_neg (fun z => q1 z.1)]; rfl
