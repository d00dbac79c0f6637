/-- the model's tries, in its order: as he does, up, down -/
def wyN (c : Nat) : Nat := if c = 0 then 2 else c - 1
def pmx (v : Nat → Int) (t : Bool) : Nat → Int × Nat
  | 0 => (if t then -2147483648 else 2147483647, 2)
  | c + 1 => if (if t then v c ≤ (pmx v t c).1 else (pmx v t c).1 ≤ v c) then pmx v t c else (v c, wyN c)
theorem pmx_t {v : Nat → Int} {c : Nat} : pmx v true (c + 1) = if v c ≤ (pmx v true c).1 then pmx v true c else (v c, wyN c) := by
  show (if (if true = true then v c ≤ (pmx v true c).1 else (pmx v true c).1 ≤ v c) then pmx v true c else (v c, wyN c)) = _
  simp
theorem pmx_f {v : Nat → Int} {c : Nat} : pmx v false (c + 1) = if (pmx v false c).1 ≤ v c then pmx v false c else (v c, wyN c) := by
  show (if (if false = true then v c ≤ (pmx v false c).1 else (pmx v false c).1 ≤ v c) then pmx v false c else (v c, wyN c)) = _
  simp
def tv (E : Nat → Nat → Int) (d : Nat) (t : Bool) (a b c : Nat) : Int := if t then mmI E d false (aft a (wyN c)) b else mmI E d true a (aft b (wyN c))
theorem pmx_mm {E : Nat → Nat → Int} (hE : ∀ a b, -9 ≤ E a b ∧ E a b ≤ 9) (d : Nat) (t : Bool) (a b : Nat) : (pmx (tv E d t a b) t 3).1 = mmI E (d + 1) t a b := by
  cases t with
  | true =>
    have h0 := mm_rg hE d false (aft a 0) b
    have h1 := mm_rg hE d false (aft a 1) b
    have h2 := mm_rg hE d false (aft a 2) b
    have e0 : tv E d true a b 0 = mmI E d false (aft a 2) b := rfl
    have e1 : tv E d true a b 1 = mmI E d false (aft a 0) b := rfl
    have e2 : tv E d true a b 2 = mmI E d false (aft a 1) b := rfl
    have em : mmI E (d + 1) true a b = max (max (max (-9) (mmI E d false (aft a 0) b)) (mmI E d false (aft a 1) b)) (mmI E d false (aft a 2) b) := rfl
    have p0 : (pmx (tv E d true a b) true 0).1 = -2147483648 := rfl
    have p1 : (pmx (tv E d true a b) true 1).1 = mmI E d false (aft a 2) b := by
      rw [pmx_t, p0, e0, if_neg (by omega)]
    have p2 : (pmx (tv E d true a b) true 2).1 = max (mmI E d false (aft a 2) b) (mmI E d false (aft a 0) b) := by
      rw [pmx_t, p1, e1]
      split
      · rw [p1]; omega
      · show mmI E d false (aft a 0) b = _; omega
    rw [pmx_t, p2, e2, em]
    split
    · rw [p2]; omega
    · show mmI E d false (aft a 1) b = _; omega
  | false =>
    have h0 := mm_rg hE d true a (aft b 0)
    have h1 := mm_rg hE d true a (aft b 1)
    have h2 := mm_rg hE d true a (aft b 2)
    have e0 : tv E d false a b 0 = mmI E d true a (aft b 2) := rfl
    have e1 : tv E d false a b 1 = mmI E d true a (aft b 0) := rfl
    have e2 : tv E d false a b 2 = mmI E d true a (aft b 1) := rfl
    have em : mmI E (d + 1) false a b = min (min (min 9 (mmI E d true a (aft b 0))) (mmI E d true a (aft b 1))) (mmI E d true a (aft b 2)) := rfl
    have p0 : (pmx (tv E d false a b) false 0).1 = 2147483647 := rfl
    have p1 : (pmx (tv E d false a b) false 1).1 = mmI E d true a (aft b 2) := by
      rw [pmx_f, p0, e0, if_neg (by omega)]
    have p2 : (pmx (tv E d false a b) false 2).1 = min (mmI E d true a (aft b 2)) (mmI E d true a (aft b 0)) := by
      rw [pmx_f, p1, e1]
      split
      · rw [p1]; omega
      · show mmI E d true a (aft b 0) = _; omega
    rw [pmx_f, p2, e2, em]
    split
    · rw [p2]; omega
    · show mmI E d true a (aft b 1) = _; omega
/-- the looks of the one on turn are z -/
def cfT (num : Nat → Nat → Int32) (i j a b : Nat) (t : Bool) (z : Nat) : Nat → Nat → Int32 := if t then cfg num i j z b else cfg num i j a z
theorem cfT_set {num : Nat → Nat → Int32} {i j a b z z' : Nat} {t : Bool} (hij : i ≠ j) : setN (cfT num i j a b t z) (if t then i else j) 2 (nI z') = cfT num i j a b t z' := by
  cases t with
  | true =>
    show setN (cfg num i j z b) i 2 (nI z') = cfg num i j z' b
    funext x y
    unfold cfg setN
    by_cases c1 : x = i ∧ y = 2
    · rw [if_pos c1, if_neg (by omega), if_pos c1]
    · rw [if_neg c1]
      by_cases c2 : x = j ∧ y = 2
      · rw [if_pos c2, if_pos c2]
      · rw [if_neg c2, if_neg c2, if_neg c1, if_neg c1]
  | false =>
    show setN (cfg num i j a z) j 2 (nI z') = cfg num i j a z'
    unfold cfg
    rw [setN_setN]
def TS (i j : Nat) (o k : Nat) : Prop := Scr o k ∨ (o = 60 ∧ (k = 6 * i + 2 ∨ k = 6 * j + 2))
theorem RGT_s (n : Nat) (a : List Int32) (h : AH) : RGT (n + 1) 0 a h = fX10_turns (RGT n) (a.getD 0 0) (a.getD 1 0) (a.getD 2 0) (a.getD 3 0) h := rfl
theorem m_turns {n m B i j p : Nat} {num sl : Nat → Nat → Int32} {mn : Int32} {Λ : LawF} {h : AH} (T : TI h n m num sl mn) (O : Oth h n m B Λ) (hi : i < n) (hj : j < n) (hij : i ≠ j) (hi5 : num i 5 = 0) (hj5 : num j 5 = 0) (hp : p ≤ 100) : ∀ (d N k : Nat) (a b : Nat) (h' : AH), d < N → k + d = p → a ≤ 9 → b ≤ 9 → Fr (TS i j) h h' → MRep h' n m (cfg num i j a b) sl mn → Ok (RGT N 0 [nI i, nI j, nI k, nI p] h') (fun q => q.1.toInt = mmI (EdV Λ n m sl num mn i j) d (decide (k % 2 = 0)) a b ∧ MRep q.2 n m (cfg num i j a b) sl mn ∧ Fr (TS i j) h q.2 ∧ (∀ d', d = d' + 1 → q.2.1 59 34 = nI (pmx (tv (EdV Λ n m sl num mn i j) d' (decide (k % 2 = 0)) a b) (decide (k % 2 = 0)) 3).2))
  | 0, N, k, a, b, h', hN, hk, ha, hb, F', M' => by
    have hn9 := T.n9
    obtain ⟨N, rfl⟩ : ∃ N', N = N' + 1 := ⟨N - 1, by omega⟩
    have ek : k = p := by omega
    subst ek
    rw [RGT_s]
    unfold fX10_turns
    refine ok_t rfl ?_
    have hL : ML h' Λ := O.ml.fr F' (fun o k q z => by unfold TS Scr at z; omega)
    refine ok_b2 (m_goAll (k := 0) (ov := -1) hn9 (Or.inl T.m12) (by omega) M' hL) (fun v h2 hh => ?_)
    obtain ⟨ev, G2, F2⟩ := hh
    have ev : v = nI (goS Λ n m sl (-1) n (cfg num i j a b) mn).length := ev
    rw [goS_m1 hn9] at ev
    have G2 : GoM h2 (goS Λ n m sl (-1) n (cfg num i j a b) mn) := G2
    rw [goS_m1 hn9] at G2
    have ev : v = nI (GL Λ n m sl (cfg num i j a b, mn)).length := ev
    have G2 : GoM h2 (GL Λ n m sl (cfg num i j a b, mn)) := G2
    have F2 : Fr Sq h' h2 := F2
    have hl : (GL Λ n m sl (cfg num i j a b, mn)).length ≤ 9 := by rw [GL_len]; show lftN (cfg num i j a b) n ≤ 9; have := lftN_le (cfg num i j a b) n; omega
    have pi := (GL_pos (Λ := Λ) (n := n) (m := m) (g := i) (sl := sl) (q := (cfg num i j a b, mn))).mpr ⟨hi, by show cfg num i j a b i 5 = 0; rw [cfg_5 (by decide)]; exact hi5⟩
    have pj := (GL_pos (Λ := Λ) (n := n) (m := m) (g := j) (sl := sl) (q := (cfg num i j a b, mn))).mpr ⟨hj, by show cfg num i j a b j 5 = 0; rw [cfg_5 (by decide)]; exact hj5⟩
    have g0 : [nI i, nI j, nI k, nI k].getD 0 0 = nI i := rfl
    have g1 : [nI i, nI j, nI k, nI k].getD 1 0 = nI j := rfl
    rw [ev, g0, g1, m_went (by omega) hl (GL_b hn9) G2, b2_some, if_pos pj, m_went (by omega) hl (GL_b hn9) G2, b2_some, if_pos pi]
    refine ok_some ⟨?_, ?_, F'.tr (F2.mono (fun o k q => Or.inl (Sq_scr o k q))), fun d' z => by omega⟩
    · show (nI (posG j (GL Λ n m sl (cfg num i j a b, mn))) - nI (posG i (GL Λ n m sl (cfg num i j a b, mn)))).toInt = _
      rw [pk_sub_toInt (by omega) (by omega)]
      rfl
    · exact M'.fr F2 (fun k q => by unfold Sq Sl Sg at q; omega) (fun q => by unfold Sq Sl Sg at q; omega) (fun q => by unfold Sq Sl Sg at q; omega) (fun q => by unfold Sq Sl Sg at q; omega) (fun q => by unfold Sq Sl Sg at q; omega) (fun q => by unfold Sq Sl Sg at q; omega)
  | d + 1, N, k, a, b, h', hN, hk, ha, hb, F', M' => by
    have hn9 := T.n9
    have hm12 := T.m12
    obtain ⟨N, rfl⟩ : ∃ N', N = N' + 1 := ⟨N - 1, by omega⟩
    have ih := m_turns T O hi hj hij hi5 hj5 hp d N (k + 1)
    obtain ⟨t, et⟩ : ∃ t, t = decide (k % 2 = 0) := ⟨_, rfl⟩
    have et2 : decide ((k + 1) % 2 = 0) = !t := by
      rw [et]
      by_cases q : k % 2 = 0
      · rw [decide_eq_true q, decide_eq_false (by omega)]; rfl
      · rw [decide_eq_false q, decide_eq_true (by omega)]; rfl
    rw [et2] at ih
    rw [← et]
    obtain ⟨E, eE⟩ : ∃ E, E = EdV Λ n m sl num mn i j := ⟨_, rfl⟩
    rw [← eE] at ih ⊢
    have hE : ∀ a b, -9 ≤ E a b ∧ E a b ≤ 9 := by rw [eE]; exact EdV_rg hn9
    obtain ⟨g, eg⟩ : ∃ g, g = (if t then i else j) := ⟨_, rfl⟩
    obtain ⟨z0, ez⟩ : ∃ z0, z0 = (if t then a else b) := ⟨_, rfl⟩
    have hg : g < n := by rw [eg]; split <;> assumption
    have hz9 : z0 ≤ 9 := by rw [ez]; split <;> assumption
    have hgS : ∀ o q, o = 60 ∧ q = 6 * g + 2 → TS i j o q := by
      intro o q z
      unfold TS
      rw [eg] at z
      cases t with
      | true => exact Or.inr ⟨z.1, Or.inl z.2⟩
      | false => exact Or.inr ⟨z.1, Or.inr z.2⟩
    have c0 : cfT num i j a b t z0 = cfg num i j a b := by rw [ez]; cases t <;> rfl
    have hlook : ∀ h2, MRep h2 n m (cfg num i j a b) sl mn → h2.1 60 (6 * g + 2) = nI z0 := by
      intro h2 M2
      rw [M2.2.1 g hg 2 (by decide), eg, ez]
      cases t with
      | true =>
        show cfg num i j a b i 2 = nI a
        unfold cfg
        rw [setN_ne (by omega), setN_eq]
      | false =>
        show cfg num i j a b j 2 = nI b
        unfold cfg
        rw [setN_eq]
    have setM : ∀ (h2 : AH) (z z' : Nat), MRep h2 n m (cfT num i j a b t z) sl mn → MRep (wI h2 60 (6 * g + 2) (nI z')) n m (cfT num i j a b t z') sl mn := by
      intro h2 z z' M2
      have := m_setIn (v := nI z') hn9 hg (show 2 < 6 by decide) (Or.inl hm12) M2
      rw [eg, cfT_set hij] at this
      rw [eg]
      exact this
    -- the loop
    have loop : ∀ (P0 P1 P2 P3 : Int32), Ok (fX10_turns_86 (RGT N) P0 P1 P2 P3 FU (nI i) (nI j) (nI k) (nI p) (if t then 1 else 0) (nI g) (nI z0) (if t then -2147483648 else 2147483647) 2 0 h') (fun q => q.1.toInt = mmI E (d + 1) t a b ∧ MRep q.2 n m (cfg num i j a b) sl mn ∧ Fr (TS i j) h q.2 ∧ (∀ d', d + 1 = d' + 1 → q.2.1 59 34 = nI (pmx (tv E d' t a b) t 3).2)) := by
      intro P0 P1 P2 P3
      refine L10 (f := fX10_turns_86 (RGT N) P0 P1 P2 P3) (b := fX10_turns_86_b (RGT N) P0 P1 P2 P3) (fun _ => rfl) (fun r x1 x2 x3 x4 x5 x6 x7 x8 x9 x10 h2 => ∃ c, c + r = 3 ∧ x1 = nI i ∧ x2 = nI j ∧ x3 = nI k ∧ x4 = nI p ∧ x5 = (if t then 1 else 0) ∧ x6 = nI g ∧ x7 = nI z0 ∧ x8.toInt = (pmx (tv E d t a b) t c).1 ∧ x9 = nI (pmx (tv E d t a b) t c).2 ∧ x10 = nI c ∧ (∃ z, MRep h2 n m (cfT num i j a b t z) sl mn) ∧ Fr (TS i j) h h2) ?_ 3 FU _ _ _ _ _ _ _ _ _ _ h' (by unfold FU; omega) ⟨0, by omega, rfl, rfl, rfl, rfl, rfl, rfl, rfl, ?_, rfl, rfl, ⟨z0, by rw [c0]; exact M'⟩, F'⟩
      · rintro r x1 x2 x3 x4 x5 x6 x7 x8 x9 x10 h2 ⟨c, hc, rfl, rfl, rfl, rfl, rfl, rfl, rfl, h8, rfl, rfl, ⟨z, M2⟩, F2⟩ Q hQ
        unfold fX10_turns_86_b
        refine ok_if (fun d1 => ?_) (fun d1 => ?_)
        · rw [show (3 : Int32) = nI 3 from rfl, nI_leI (by omega) (by omega)] at d1
          have e : c = 3 := by omega
          subst e
          rw [m_change (K := 2) (k := 2) rfl (show g < 9 by omega) (by decide), bV_some]
          refine ok_let (ok_some ⟨?_, ?_, ?_, fun d' hd' => ?_⟩)
          · rw [← pmx_mm hE]; exact h8
          · have := setM h2 z z0 M2
            rw [c0] at this
            exact this.fr (S := fun o k => o = 59 ∧ k = 34) (Fr.rf.w ⟨rfl, rfl⟩) (fun k q => by omega) (fun q => by omega) (fun q => by omega) (fun q => by omega) (fun q => by omega) (fun q => by omega)
          · exact (F2.w (hgS _ _ ⟨rfl, rfl⟩)).w (Or.inl (by unfold Scr; omega))
          · have : d' = d := by omega
            subst this
            rw [wI_rd, if_pos ⟨rfl, rfl⟩]
        · rw [show (3 : Int32) = nI 3 from rfl, nI_leI (by omega) (by omega)] at d1
          -- one try
          have tr : Ok (fX10_turns_147 (RGT N) P0 P1 P2 P3 Q (nI i) (nI j) (nI k) (nI p) (if t then 1 else 0) (nI g) (nI z0) x8 (nI (pmx (tv E d t a b) t c).2) (nI c) (nI (wyN c)) (nI (aft z0 (wyN c))) 2 (nI g) h2) (fun q => q.1.toInt = mmI E (d + 1) t a b ∧ MRep q.2 n m (cfg num i j a b) sl mn ∧ Fr (TS i j) h q.2 ∧ (∀ d', d + 1 = d' + 1 → q.2.1 59 34 = nI (pmx (tv E d' t a b) t 3).2)) := by
            unfold fX10_turns_147
            rw [m_change (K := 2) (k := 2) rfl (show g < 9 by omega) (by decide), bV_some, nI_1]
            have M3 := setM h2 z (aft z0 (wyN c)) M2
            have F3 : Fr (TS i j) h (wI h2 60 (6 * g + 2) (nI (aft z0 (wyN c)))) := F2.w (hgS _ _ ⟨rfl, rfl⟩)
            have hrec : Ok (RGT N 0 [nI i, nI j, nI (k + 1), nI p] (wI h2 60 (6 * g + 2) (nI (aft z0 (wyN c))))) (fun q => q.1.toInt = tv E d t a b c ∧ MRep q.2 n m (cfT num i j a b t (aft z0 (wyN c))) sl mn ∧ Fr (TS i j) h q.2) := by
              cases t with
              | true =>
                have e1 : z0 = a := ez
                subst e1
                exact ok_mono (ih (aft z0 (wyN c)) b _ (by omega) (by omega) (aft_le ha) hb F3 M3) (fun q hq => ⟨hq.1, hq.2.1, hq.2.2.1⟩)
              | false =>
                have e1 : z0 = b := ez
                subst e1
                exact ok_mono (ih a (aft z0 (wyN c)) _ (by omega) (by omega) ha (aft_le hb) F3 M3) (fun q hq => ⟨hq.1, hq.2.1, hq.2.2.1⟩)
            refine ok_b2 hrec (fun v h4 hh => ?_)
            obtain ⟨ev, M4, F4⟩ := hh
            have ev : v.toInt = tv E d t a b c := ev
            have keep : pmx (tv E d t a b) t (c + 1) = pmx (tv E d t a b) t c → Ok (fX10_turns_195 (RGT N) P0 P1 P2 P3 Q (nI i) (nI j) (nI k) (nI p) (if t then 1 else 0) (nI g) (nI z0) x8 (nI (pmx (tv E d t a b) t c).2) (nI c) (nI (wyN c)) v 0 h4) (fun q => q.1.toInt = mmI E (d + 1) t a b ∧ MRep q.2 n m (cfg num i j a b) sl mn ∧ Fr (TS i j) h q.2 ∧ (∀ d', d + 1 = d' + 1 → q.2.1 59 34 = nI (pmx (tv E d' t a b) t 3).2)) := by
              intro e
              unfold fX10_turns_195
              refine ok_t rfl ?_
              unfold fX10_turns_209
              refine ok_t rfl ?_
              rw [nI_1]
              exact hQ (r - 1) _ _ _ _ _ _ _ _ _ _ _ (by omega) ⟨c + 1, by omega, rfl, rfl, rfl, rfl, rfl, rfl, rfl, by rw [e]; exact h8, by rw [e], rfl, ⟨_, M4⟩, F4⟩
            have take : pmx (tv E d t a b) t (c + 1) = (tv E d t a b c, wyN c) → Ok (fX10_turns_195 (RGT N) P0 P1 P2 P3 Q (nI i) (nI j) (nI k) (nI p) (if t then 1 else 0) (nI g) (nI z0) x8 (nI (pmx (tv E d t a b) t c).2) (nI c) (nI (wyN c)) v 1 h4) (fun q => q.1.toInt = mmI E (d + 1) t a b ∧ MRep q.2 n m (cfg num i j a b) sl mn ∧ Fr (TS i j) h q.2 ∧ (∀ d', d + 1 = d' + 1 → q.2.1 59 34 = nI (pmx (tv E d' t a b) t 3).2)) := by
              intro e
              unfold fX10_turns_195
              refine ok_f (by decide) ?_
              unfold fX10_turns_209
              refine ok_f (by decide) ?_
              rw [nI_1]
              exact hQ (r - 1) _ _ _ _ _ _ _ _ _ _ _ (by omega) ⟨c + 1, by omega, rfl, rfl, rfl, rfl, rfl, rfl, rfl, by rw [e]; exact ev, by rw [e], rfl, ⟨_, M4⟩, F4⟩
            cases t with
            | true =>
              refine ok_f (by decide) ?_
              refine ok_if (fun q => keep ?_) (fun q => take ?_)
              · rw [i_le, ev, h8] at q
                rw [pmx_t, if_pos q]
              · rw [i_le, ev, h8] at q
                rw [pmx_t, if_neg q]
            | false =>
              refine ok_t rfl ?_
              refine ok_if (fun q => keep ?_) (fun q => take ?_)
              · rw [i_le, ev, h8] at q
                rw [pmx_f, if_pos q]
              · rw [i_le, ev, h8] at q
                rw [pmx_f, if_neg q]
          have c105 : ∀ s : Int32, s = nI (wyN c) → Ok (fX10_turns_105 (RGT N) P0 P1 P2 P3 Q (nI i) (nI j) (nI k) (nI p) (if t then 1 else 0) (nI g) (nI z0) x8 (nI (pmx (tv E d t a b) t c).2) (nI c) s h2) (fun q => q.1.toInt = mmI E (d + 1) t a b ∧ MRep q.2 n m (cfg num i j a b) sl mn ∧ Fr (TS i j) h q.2 ∧ (∀ d', d + 1 = d' + 1 → q.2.1 59 34 = nI (pmx (tv E d' t a b) t 3).2)) := by
            intro s es
            subst es
            unfold fX10_turns_105
            have cc : c = 0 ∨ c = 1 ∨ c = 2 := by omega
            rcases cc with rfl | rfl | rfl
            · exact ok_t (by decide) tr
            · refine ok_f (by decide) (ok_t (by decide) ?_)
              rw [aft_up hz9]
              exact tr
            · refine ok_f (by decide) (ok_f (by decide) ?_)
              rw [aft_dn hz9]
              exact tr
          have cc : c = 0 ∨ c = 1 ∨ c = 2 := by omega
          rcases cc with rfl | rfl | rfl
          · exact ok_t rfl (c105 2 rfl)
          · exact ok_f (by decide) (c105 _ (by decide))
          · exact ok_f (by decide) (c105 _ (by decide))
      · cases t <;> rfl
    rw [RGT_s]
    unfold fX10_turns
    refine ok_f (show ¬ nI k = nI p from fun z => by have := nI_inj (by omega) (by omega) z; omega) ?_
    have er : jrem (nI k) 2 = nI (k % 2) := rem_nI rfl (by decide) (by decide) (by omega)
    show Ok (if jrem (nI k) 2 = 0 then fX10_turns_41 (RGT N) (nI i) (nI j) (nI k) (nI p) (nI i) (nI j) (nI k) (nI p) 1 h' else fX10_turns_41 (RGT N) (nI i) (nI j) (nI k) (nI p) (nI i) (nI j) (nI k) (nI p) 0 h') _
    rw [er]
    cases t with
    | true =>
      have q : k % 2 = 0 := of_decide_eq_true et.symm
      refine ok_t (by rw [q]; rfl) ?_
      unfold fX10_turns_41
      refine ok_f (by decide) ?_
      unfold fX10_turns_53
      have e1 : g = i := eg
      have e2 := hlook h' M'
      rw [e1] at e2
      rw [m_number (K := 2) (k := 2) rfl (show i < 9 by omega) (by decide), b2_some, e2]
      refine ok_f (by decide) ?_
      have := loop (nI i) (nI j) (nI k) (nI p)
      rw [e1] at this
      exact this
    | false =>
      have q : ¬ k % 2 = 0 := of_decide_eq_false et.symm
      refine ok_f (nI_ne0 (by omega) (by omega)) ?_
      unfold fX10_turns_41
      refine ok_t rfl ?_
      unfold fX10_turns_53
      have e1 : g = j := eg
      have e2 := hlook h' M'
      rw [e1] at e2
      rw [m_number (K := 2) (k := 2) rfl (show j < 9 by omega) (by decide), b2_some, e2]
      refine ok_t rfl ?_
      have := loop (nI i) (nI j) (nI k) (nI p)
      rw [e1] at this
      exact this
