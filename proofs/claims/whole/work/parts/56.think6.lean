/-! held -/
theorem goS_gone {Λ : LawF} {n m : Nat} {sl : Nat → Nat → Int32} {o1 o2 : Int32} : ∀ (F : Nat) (num : Nat → Nat → Int32) (mn : Int32), (∀ i, i < n → num i 5 = 0 → ¬ nI i = o1) → (∀ i, i < n → num i 5 = 0 → ¬ nI i = o2) → goS Λ n m sl o1 F num mn = goS Λ n m sl o2 F num mn
  | 0, _, _, _, _ => rfl
  | F + 1, num, mn, h1, h2 => by
    unfold goS
    by_cases c : ordL (rd Λ n num mn) num n = []
    · rw [if_pos c, if_pos c]
    · rw [if_neg c, if_neg c]
      have hm := (ordL_mem _ num n _).mp (getD_mem (List.length_pos_iff.mpr c))
      have e : nxt (ordL (rd Λ n num mn) num n) o1 = nxt (ordL (rd Λ n num mn) num n) o2 := by
        unfold nxt
        rw [if_neg (fun q => h1 _ hm.1 hm.2 q.1), if_neg (fun q => h2 _ hm.1 hm.2 q.1)]
      have key : ∀ (i w : Nat), pmN n m sl mn (setN num w 5 1) i 5 = 0 → num i 5 = 0 := by
        intro i w q
        rw [pmN_5 (by decide)] at q
        unfold setN at q
        split at q
        · exact absurd q (by decide)
        · exact q
      rw [e, goS_gone F _ _ (fun i hi q => h1 i hi (key i _ q)) (fun i hi q => h2 i hi (key i _ q))]
def hldP (R : Nat → Int32) (b : Int32) : Nat → Int32 × Int32
  | 0 => (9, b)
  | c + 1 => if (hldP R b c).2 ≤ R c then hldP R b c else (nI c, R c)
theorem hldP_le (R : Nat → Int32) (b : Int32) : ∀ c, (hldP R b c).2 ≤ b
  | 0 => by rw [i_le]; exact Int.le_refl _
  | c + 1 => by
    have ih := hldP_le R b c
    have es : hldP R b (c + 1) = if (hldP R b c).2 ≤ R c then hldP R b c else (nI c, R c) := rfl
    rw [es]
    split
    · exact ih
    · rename_i q
      show R c ≤ b
      rw [i_le] at *
      omega
def Rov (Λ : LawF) (n m : Nat) (sl : Nat → Nat → Int32) (num : Nat → Nat → Int32) (mn ov : Int32) : Int32 := sumR (goS Λ n m sl ov n num mn) 0
theorem c_regret {n m B : Nat} {num sl : Nat → Nat → Int32} {mn ov : Int32} {Λ : LawF} {h : AH} (T : TI h n m num sl mn) (O : Oth h n m B Λ) : Ok (fX6_regretOfGoers ov h) (fun q => q.1 = Rov Λ n m sl num mn ov ∧ Fr Scr h q.2) := by
  unfold fX6_regretOfGoers
  refine ok_bV (c_start (k := 0) T.n9 T.m12 T.by (by omega) T.c) (fun h1 hh => ?_)
  obtain ⟨C1, F1⟩ := hh
  have F1 := F1.mono St_scr
  refine ok_bV (c_allGo T.n9 (by have := T.m12; omega) T.by (it_gone 0 _ T.gone) O.ir C1 (O.cl.scr F1)) (fun h2 hh => ?_)
  obtain ⟨G2, F2⟩ := hh
  exact ok_some ⟨G2.2.2, F1.tr (F2.mono St_scr)⟩
theorem m_regret {n m B : Nat} {num sl : Nat → Nat → Int32} {mn ov : Int32} {Λ : LawF} {h : AH} (T : TI h n m num sl mn) (O : Oth h n m B Λ) : Ok (fX10_goAll 0 ov h) (fun q => q.2.1 59 29 = Rov Λ n m sl num mn ov ∧ Fr Scr h q.2) := by
  refine ok_mono (m_goAll (k := 0) (ov := ov) T.n9 T.mok (by omega) T.m O.ml) (fun q hq => ?_)
  exact ⟨hq.2.1.2, hq.2.2.mono Sq_scr⟩
theorem op_held (w : Int32) : Sim (fX9_held w) (fX10_held w) := by
  have e0 : (0 : Int32).toInt = 0 := by decide
  have e1 : (1 : Int32).toInt = 1 := by decide
  refine sim_think (fun n m num sl mn Λ => if 0 ≤ w.toInt ∧ w.toInt ≤ 1 then if w = 0 then (hldP (fun c => Rov Λ n m sl num mn (nI c)) (Rov Λ n m sl num mn 9) n).1 else (hldP (fun c => Rov Λ n m sl num mn (nI c)) (Rov Λ n m sl num mn 9) n).2 else -1) (fun n m B num sl mn Λ h T O => ?_) (fun n m B num sl mn Λ h T O => ?_)
  · unfold fX9_held
    have hn9 := T.n9
    rw [c_choice, b2_some]
    by_cases c3 : 0 ≤ w.toInt ∧ w.toInt ≤ 1
    · rw [if_pos c3, if_pos c3]
      refine ok_f (by decide) ?_
      refine ok_b2 (c_regret (ov := 9) T O) (fun v h1 hh => ?_)
      obtain ⟨ev, F1⟩ := hh
      have ev : v = Rov Λ n m sl num mn 9 := ev
      have F1 : Fr Scr h h1 := F1
      refine L4 (f := fX9_held_25 w) (b := fX9_held_25_b w) (fun _ => rfl) (fun r x y z u h' => ∃ c, c + r = n ∧ x = w ∧ (y, z) = hldP (fun c => Rov Λ n m sl num mn (nI c)) (Rov Λ n m sl num mn 9) c ∧ u = nI c ∧ Fr Scr h h') ?_ n FU w 9 v 0 h1 (by unfold FU; omega) ⟨0, by omega, rfl, by rw [ev]; rfl, rfl, F1⟩
      rintro r x y z u h' ⟨c, hc, rfl, hyz, rfl, F'⟩ Q hQ
      obtain ⟨T', O'⟩ := scr_t T O F'
      unfold fX9_held_25_b
      rw [T'.c.1]
      refine ok_if (fun d1 => ?_) (fun d1 => ?_)
      · rw [nI_leI (by omega) (by omega)] at d1
        have e9 : c = n := by omega
        subst e9
        rw [← hyz]
        by_cases d2 : x = 0
        · rw [if_pos d2, if_pos d2]; exact ok_some ⟨rfl, F'⟩
        · rw [if_neg d2, if_neg d2]; exact ok_some ⟨rfl, F'⟩
      · rw [nI_leI (by omega) (by omega)] at d1
        refine ok_b2 (c_regret (ov := nI c) T' O') (fun v2 h2 hh => ?_)
        obtain ⟨ev2, F2⟩ := hh
        have ev2 : v2 = Rov Λ n m sl num mn (nI c) := ev2
        have F2 : Fr Scr h h2 := F'.tr F2
        have es : hldP (fun c => Rov Λ n m sl num mn (nI c)) (Rov Λ n m sl num mn 9) (c + 1) = if (hldP (fun c => Rov Λ n m sl num mn (nI c)) (Rov Λ n m sl num mn 9) c).2 ≤ Rov Λ n m sl num mn (nI c) then hldP (fun c => Rov Λ n m sl num mn (nI c)) (Rov Λ n m sl num mn 9) c else (nI c, Rov Λ n m sl num mn (nI c)) := rfl
        rw [← hyz] at es
        rw [ev2, nI_1]
        refine ok_if (fun d3 => ?_) (fun d3 => ?_)
        · exact hQ (r - 1) _ _ _ _ _ (by omega) ⟨c + 1, by omega, rfl, by rw [es, if_pos d3], rfl, F2⟩
        · exact hQ (r - 1) _ _ _ _ _ (by omega) ⟨c + 1, by omega, rfl, by rw [es, if_neg d3], rfl, F2⟩
    · rw [if_neg c3, if_neg c3]
      exact ok_t rfl (ok_some ⟨rfl, Fr.rf⟩)
  · unfold fX10_held
    have hn9 := T.n9
    rw [m_isIn, b2_some, e0, e1]
    by_cases c3 : 0 ≤ w.toInt ∧ w.toInt ≤ 1
    · rw [if_pos c3, if_pos c3]
      refine ok_f (by decide) ?_
      refine ok_b2 (m_regret (ov := -1) T O) (fun v h1 hh => ?_)
      obtain ⟨ev, F1⟩ := hh
      have ev : h1.1 59 29 = Rov Λ n m sl num mn 9 := by
        rw [show h1.1 59 29 = Rov Λ n m sl num mn (-1) from ev]
        unfold Rov
        rw [goS_m1 hn9]
      have F1 : Fr Scr h h1 := F1
      refine ok_let ?_
      rw [ev]
      refine L4 (f := fX10_held_29 w) (b := fX10_held_29_b w) (fun _ => rfl) (fun r x y z u h' => ∃ c, c + r = n ∧ x = w ∧ (y, z) = hldP (fun c => Rov Λ n m sl num mn (nI c)) (Rov Λ n m sl num mn 9) c ∧ u = nI c ∧ Fr Scr h h') ?_ n FU w 9 _ 0 h1 (by unfold FU; omega) ⟨0, by omega, rfl, rfl, rfl, F1⟩
      rintro r x y z u h' ⟨c, hc, rfl, hyz, rfl, F'⟩ Q hQ
      obtain ⟨T', O'⟩ := scr_t T O F'
      unfold fX10_held_29_b
      rw [T'.m.1]
      refine ok_if (fun d1 => ?_) (fun d1 => ?_)
      · rw [nI_leI (by omega) (by omega)] at d1
        have e9 : c = n := by omega
        subst e9
        rw [← hyz]
        by_cases d2 : x = 0
        · rw [if_pos d2, if_pos d2]; exact ok_some ⟨rfl, F'⟩
        · rw [if_neg d2, if_neg d2]; exact ok_some ⟨rfl, F'⟩
      · rw [nI_leI (by omega) (by omega)] at d1
        have hcn : c < n := by omega
        have es : hldP (fun c => Rov Λ n m sl num mn (nI c)) (Rov Λ n m sl num mn 9) (c + 1) = if (hldP (fun c => Rov Λ n m sl num mn (nI c)) (Rov Λ n m sl num mn 9) c).2 ≤ Rov Λ n m sl num mn (nI c) then hldP (fun c => Rov Λ n m sl num mn (nI c)) (Rov Λ n m sl num mn 9) c else (nI c, Rov Λ n m sl num mn (nI c)) := rfl
        have hb := hldP_le (fun c => Rov Λ n m sl num mn (nI c)) (Rov Λ n m sl num mn 9) c
        rw [← hyz] at es hb
        rw [m_isHere (by omega), b2_some, T'.m.2.1 c hcn 5 (by decide)]
        by_cases c5 : num c 5 = 0
        · rw [if_pos c5]
          refine ok_f (by decide) ?_
          refine ok_b2 (m_regret (ov := nI c) T' O') (fun v2 h2 hh => ?_)
          obtain ⟨ev2, F2⟩ := hh
          have ev2 : h2.1 59 29 = Rov Λ n m sl num mn (nI c) := ev2
          have F2 : Fr Scr h h2 := F'.tr F2
          rw [ev2]
          refine ok_if (fun d3 => ?_) (fun d3 => ?_)
          · unfold fX10_held_69
            refine ok_let ?_
            rw [ev2, nI_1]
            refine hQ (r - 1) _ _ _ _ _ (by omega) ⟨c + 1, by omega, rfl, ?_, rfl, F2⟩
            rw [es, if_pos d3]
            unfold jmin
            by_cases d4 : z < Rov Λ n m sl num mn (nI c)
            · rw [if_pos d4]
            · rw [if_neg d4]
              have d3' : z ≤ Rov Λ n m sl num mn (nI c) := d3
              rw [i_le] at d3'
              rw [i_lt] at d4
              rw [i_eq.mpr (show (Rov Λ n m sl num mn (nI c)).toInt = z.toInt by omega)]
          · unfold fX10_held_69
            refine ok_let ?_
            rw [ev2, nI_1]
            refine hQ (r - 1) _ _ _ _ _ (by omega) ⟨c + 1, by omega, rfl, ?_, rfl, F2⟩
            rw [es, if_neg d3]
            unfold jmin
            rw [if_neg (by rw [i_le] at d3; rw [i_lt]; omega)]
        · rw [if_neg c5]
          refine ok_t rfl ?_
          rw [nI_1]
          refine hQ (r - 1) _ _ _ _ _ (by omega) ⟨c + 1, by omega, rfl, ?_, rfl, F'⟩
          have eR : Rov Λ n m sl num mn (nI c) = Rov Λ n m sl num mn 9 := by
            unfold Rov
            rw [goS_gone n num mn (o2 := 9) (fun i hi q z => c5 (by rw [← nI_inj (by omega) (by omega) z]; exact q)) (fun i hi _ => lt9 hi hn9)]
          rw [es, eR, if_pos hb]
    · rw [if_neg c3, if_neg c3]
      exact ok_t rfl (ok_some ⟨rfl, Fr.rf⟩)
