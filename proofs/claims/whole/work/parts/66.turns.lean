theorem L10 {α : Type} {f : Nat → Int32 → Int32 → Int32 → Int32 → Int32 → Int32 → Int32 → Int32 → Int32 → Int32 → AH → Option α} {b : (Int32 → Int32 → Int32 → Int32 → Int32 → Int32 → Int32 → Int32 → Int32 → Int32 → AH → Option α) → Int32 → Int32 → Int32 → Int32 → Int32 → Int32 → Int32 → Int32 → Int32 → Int32 → AH → Option α} {P : α → Prop} (hf : ∀ F, f (F + 1) = b (f F)) (I : Nat → Int32 → Int32 → Int32 → Int32 → Int32 → Int32 → Int32 → Int32 → Int32 → Int32 → AH → Prop)
    (hs : ∀ r x1 x2 x3 x4 x5 x6 x7 x8 x9 x10 h, I r x1 x2 x3 x4 x5 x6 x7 x8 x9 x10 h → ∀ Q : Int32 → Int32 → Int32 → Int32 → Int32 → Int32 → Int32 → Int32 → Int32 → Int32 → AH → Option α, (∀ r' x1' x2' x3' x4' x5' x6' x7' x8' x9' x10' h', r' < r → I r' x1' x2' x3' x4' x5' x6' x7' x8' x9' x10' h' → Ok (Q x1' x2' x3' x4' x5' x6' x7' x8' x9' x10' h') P) → Ok (b Q x1 x2 x3 x4 x5 x6 x7 x8 x9 x10 h) P) : ∀ r F x1 x2 x3 x4 x5 x6 x7 x8 x9 x10 h, r < F → I r x1 x2 x3 x4 x5 x6 x7 x8 x9 x10 h → Ok (f F x1 x2 x3 x4 x5 x6 x7 x8 x9 x10 h) P := by
  intro r
  induction r using Nat.strongRecOn with
  | _ r ih =>
    intro F x1 x2 x3 x4 x5 x6 x7 x8 x9 x10 h hF hI
    obtain ⟨F, rfl⟩ : ∃ F', F = F' + 1 := ⟨F - 1, by omega⟩
    rw [hf F]
    exact hs r x1 x2 x3 x4 x5 x6 x7 x8 x9 x10 h hI (f F) (fun r' x1' x2' x3' x4' x5' x6' x7' x8' x9' x10' h' hr hi => ih r' hr F x1' x2' x3' x4' x5' x6' x7' x8' x9' x10' h' (by omega) hi)
/-! byTurns -/
def aft (a w : Nat) : Nat := if w = 2 then a else if w = 0 then min 9 (a + 2) else a - 2
theorem aft_le {a w : Nat} (h : a ≤ 9) : aft a w ≤ 9 := by
  unfold aft
  split
  · exact h
  · split <;> omega
def mmI (E : Nat → Nat → Int) : Nat → Bool → Nat → Nat → Int
  | 0, _, a, b => E a b
  | d + 1, true, a, b => max (max (max (-9) (mmI E d false (aft a 0) b)) (mmI E d false (aft a 1) b)) (mmI E d false (aft a 2) b)
  | d + 1, false, a, b => min (min (min 9 (mmI E d true a (aft b 0))) (mmI E d true a (aft b 1))) (mmI E d true a (aft b 2))
theorem mm_rg {E : Nat → Nat → Int} (hE : ∀ a b, -9 ≤ E a b ∧ E a b ≤ 9) : ∀ d t a b, -9 ≤ mmI E d t a b ∧ mmI E d t a b ≤ 9
  | 0, _, a, b => hE a b
  | d + 1, true, a, b => by
    have h0 := mm_rg hE d false (aft a 0) b
    have h1 := mm_rg hE d false (aft a 1) b
    have h2 := mm_rg hE d false (aft a 2) b
    show -9 ≤ max (max (max (-9) (mmI E d false (aft a 0) b)) (mmI E d false (aft a 1) b)) (mmI E d false (aft a 2) b) ∧ max (max (max (-9) (mmI E d false (aft a 0) b)) (mmI E d false (aft a 1) b)) (mmI E d false (aft a 2) b) ≤ 9
    omega
  | d + 1, false, a, b => by
    have h0 := mm_rg hE d true a (aft b 0)
    have h1 := mm_rg hE d true a (aft b 1)
    have h2 := mm_rg hE d true a (aft b 2)
    show -9 ≤ min (min (min 9 (mmI E d true a (aft b 0))) (mmI E d true a (aft b 1))) (mmI E d true a (aft b 2)) ∧ min (min (min 9 (mmI E d true a (aft b 0))) (mmI E d true a (aft b 1))) (mmI E d true a (aft b 2)) ≤ 9
    omega
/-- both guests' looks in thought -/
def cfg (num : Nat → Nat → Int32) (i j a b : Nat) : Nat → Nat → Int32 := setN (setN num i 2 (nI a)) j 2 (nI b)
def EdV (Λ : LawF) (n m : Nat) (sl num : Nat → Nat → Int32) (mn : Int32) (i j a b : Nat) : Int := (posG j (GL Λ n m sl (cfg num i j a b, mn)) : Int) - posG i (GL Λ n m sl (cfg num i j a b, mn))
theorem cfg_5 {num : Nat → Nat → Int32} {i j a b g k : Nat} (hk : k ≠ 2) : cfg num i j a b g k = num g k := by
  unfold cfg
  rw [setN_ne (by omega), setN_ne (by omega)]
theorem cfg_gone {n i j a b : Nat} {num : Nat → Nat → Int32} (h : goneOK n num) : goneOK n (cfg num i j a b) := fun q hq => by rw [cfg_5 (by decide)]; exact h q hq
theorem EdV_rg {Λ : LawF} {n m : Nat} {sl num : Nat → Nat → Int32} {mn : Int32} {i j : Nat} (hn9 : n ≤ 9) (a b : Nat) : -9 ≤ EdV Λ n m sl num mn i j a b ∧ EdV Λ n m sl num mn i j a b ≤ 9 := by
  have h1 := posG_le (g := i) (l := GL Λ n m sl (cfg num i j a b, mn))
  have h2 := posG_le (g := j) (l := GL Λ n m sl (cfg num i j a b, mn))
  rw [GL_len] at h1 h2
  have h3 : lftN (cfg num i j a b, mn).1 n ≤ n := lftN_le _ n
  unfold EdV
  omega
theorem jmin_toInt (x y : Int32) : (jmin x y).toInt = min x.toInt y.toInt := by
  unfold jmin
  split
  · rename_i q; rw [i_lt] at q; omega
  · rename_i q; rw [i_lt] at q; omega
theorem jmax_toInt (x y : Int32) : (jmax x y).toInt = max x.toInt y.toInt := by
  unfold jmax
  split
  · rename_i q; rw [i_lt] at q; omega
  · rename_i q; rw [i_lt] at q; omega
theorem aft_up {a : Nat} (ha : a ≤ 9) : jmin 9 (nI a + 2) = nI (aft a 0) := by
  rw [i_eq, jmin_toInt, show (2 : Int32) = nI 2 from rfl, nI_add, nI_toInt (by omega), nI_toInt (by unfold aft; rw [if_neg (by decide), if_pos rfl]; omega)]
  have : (9 : Int32).toInt = 9 := by decide
  unfold aft
  rw [if_neg (by decide), if_pos rfl, this]
  omega
theorem aft_dn {a : Nat} (ha : a ≤ 9) : jmax 0 (nI a - 2) = nI (aft a 1) := by
  rw [i_eq, jmax_toInt, show (2 : Int32) = nI 2 from rfl, pk_sub_toInt (by omega) (by omega), nI_toInt (by unfold aft; rw [if_neg (by decide), if_neg (by decide)]; omega)]
  have : (0 : Int32).toInt = 0 := by decide
  unfold aft
  rw [if_neg (by decide), if_neg (by decide), this]
  omega
theorem c_after {a w : Nat} {h : AH} (ha : a ≤ 9) (hw : w ≤ 2) : fX8_afterTurn (nI a) (nI w) h = some (nI (aft a w), h) := by
  unfold fX8_afterTurn
  have c : w = 0 ∨ w = 1 ∨ w = 2 := by omega
  rcases c with rfl | rfl | rfl
  · rw [if_neg (by decide), if_pos (by decide), aft_up ha]
  · rw [if_neg (by decide), if_neg (by decide), aft_dn ha]
  · rw [if_pos (by decide)]; rfl
/-- the table of ends, in the class -/
def Mem (E : Nat → Nat → Int) (i j : Nat) (h : AH) : Prop := h.1 30 1 = nI i ∧ h.1 30 2 = nI j ∧ ∀ a b, a ≤ 9 → b ≤ 9 → h.1 31 (10 * a + b) = -2000000000 ∨ (h.1 31 (10 * a + b)).toInt = E a b
theorem c_end {n m B i j a b : Nat} {num sl : Nat → Nat → Int32} {mn : Int32} {Λ : LawF} {h h' : AH} (T : TI h n m num sl mn) (O : Oth h n m B Λ) (hi : i < n) (hj : j < n) (hij : i ≠ j) (hi5 : num i 5 = 0) (hj5 : num j 5 = 0) (ha : a ≤ 9) (hb : b ≤ 9) (F' : Fr Scr h h') (Mm : Mem (EdV Λ n m sl num mn i j) i j h') : Ok (fX8_endOf (nI a) (nI b) h') (fun q => q.1.toInt = EdV Λ n m sl num mn i j a b ∧ Mem (EdV Λ n m sl num mn i j) i j q.2 ∧ Fr Scr h q.2) := by
  have hn9 := T.n9
  have hm12 := T.m12
  obtain ⟨T', O'⟩ := scr_t T O F'
  obtain ⟨m1, m2, m3⟩ := Mm
  unfold fX8_endOf
  have ex : nI a * 10 + nI b = nI (10 * a + b) := by rw [show (10 : Int32) = nI 10 from rfl, pk_mul, nI_add, Nat.mul_comm]
  rw [ex]
  have eix : ix (nI (10 * a + b)) = 10 * a + b := ix_nI (by omega)
  have e111 : ∀ h2 : AH, fX8_endOf_111 (nI a) (nI b) (nI (10 * a + b)) h2 = some (h2.1 31 (10 * a + b), h2) := by
    intro h2
    unfold fX8_endOf_111
    rw [if_pos (inb_nI (by omega) (by decide)), eix]
  refine ok_let (ok_f (by rw [show (0 : Int32) = nI 0 from rfl, nI_ltI (by omega) (by omega)]; omega) (ok_t (by rw [show (100 : Int32) = nI 100 from rfl, nI_ltI (by omega) (by omega)]; omega) (ok_t (inb_nI (by omega) (by decide)) ?_)))
  rw [eix]
  refine ok_if (fun d1 => ?_) (fun d1 => ?_)
  · refine ok_bV (c_start (k := 0) hn9 hm12 T'.by (by omega) T'.c) (fun h1 hh => ?_)
    obtain ⟨C1, F1⟩ := hh
    have C1 : CRep 19 h1 n m num sl mn := C1
    have G1 : Fr St h' h1 := F1
    have o1 : h1.1 30 1 = nI i := by rw [G1.1 30 1 (by unfold St Sr; omega)]; exact m1
    rw [o1]
    refine ok_t (inb_nI (by omega) (by decide)) (ok_let ?_)
    rw [ix_nI (show i < 2 ^ 31 by omega)]
    have G2 : Fr St h' (wI h1 22 i (nI a)) := G1.w (by unfold St Sr; omega)
    have C2 : CRep 19 (wI h1 22 i (nI a)) n m (setN num i 2 (nI a)) sl mn := c_setIn (k := 2) hi (by omega) C1
    have o2 : (wI h1 22 i (nI a)).1 30 2 = nI j := by rw [G2.1 30 2 (by unfold St Sr; omega)]; exact m2
    rw [o2]
    refine ok_t (inb_nI (by omega) (by decide)) (ok_let ?_)
    rw [ix_nI (show j < 2 ^ 31 by omega)]
    have G3 : Fr St h' (wI (wI h1 22 i (nI a)) 22 j (nI b)) := G2.w (by unfold St Sr; omega)
    have C3 : CRep 19 (wI (wI h1 22 i (nI a)) 22 j (nI b)) n m (cfg num i j a b) sl mn := c_setIn (k := 2) hj (by omega) C2
    revert G3 C3
    generalize wI (wI h1 22 i (nI a)) 22 j (nI b) = h3
    intro G3 C3
    refine ok_bV (c_allGo (ov := 9) hn9 (by omega) T.by (cfg_gone T.gone) O.ir C3 (O'.cl.scr (G3.mono St_scr))) (fun h4 hh => ?_)
    obtain ⟨GA, F4⟩ := hh
    have GA : GoA h4 (GL Λ n m sl (cfg num i j a b, mn)) := GA
    have G4 : Fr St h' h4 := G3.tr F4
    have o3 : h4.1 30 1 = nI i := by rw [G4.1 30 1 (by unfold St Sr; omega)]; exact m1
    have o4 : h4.1 30 2 = nI j := by rw [G4.1 30 2 (by unfold St Sr; omega)]; exact m2
    have hl : (GL Λ n m sl (cfg num i j a b, mn)).length ≤ 9 := by rw [GL_len]; show lftN (cfg num i j a b) n ≤ 9; have := lftN_le (cfg num i j a b) n; omega
    have pi := GL_pos (Λ := Λ) (n := n) (m := m) (g := i) (sl := sl) (q := (cfg num i j a b, mn))
    have pj := GL_pos (Λ := Λ) (n := n) (m := m) (g := j) (sl := sl) (q := (cfg num i j a b, mn))
    have pi := pi.mpr ⟨hi, by show cfg num i j a b i 5 = 0; rw [cfg_5 (by decide)]; exact hi5⟩
    have pj := pj.mpr ⟨hj, by show cfg num i j a b j 5 = 0; rw [cfg_5 (by decide)]; exact hj5⟩
    rw [o4, c_place (by omega) hl (GL_b hn9) GA, b2_some, if_pos pj, o3, c_place (by omega) hl (GL_b hn9) GA, b2_some, if_pos pi]
    refine ok_let ?_
    rw [e111]
    have ev : (nI (posG j (GL Λ n m sl (cfg num i j a b, mn))) - nI (posG i (GL Λ n m sl (cfg num i j a b, mn)))).toInt = EdV Λ n m sl num mn i j a b := by
      rw [pk_sub_toInt (by omega) (by omega)]; rfl
    have er : (wI h4 31 (10 * a + b) (nI (posG j (GL Λ n m sl (cfg num i j a b, mn))) - nI (posG i (GL Λ n m sl (cfg num i j a b, mn))))).1 31 (10 * a + b) = nI (posG j (GL Λ n m sl (cfg num i j a b, mn))) - nI (posG i (GL Λ n m sl (cfg num i j a b, mn))) := by rw [wI_rd, if_pos ⟨rfl, rfl⟩]
    refine ok_some ⟨by show ((wI h4 31 (10 * a + b) _).1 31 (10 * a + b)).toInt = _; rw [er]; exact ev, ⟨?_, ?_, fun c d hc hd => ?_⟩, (F'.tr (G4.mono St_scr)).w (by unfold Scr; omega)⟩
    · rw [wI_rd, if_neg (by omega)]; exact o3
    · rw [wI_rd, if_neg (by omega)]; exact o4
    · rw [wI_rd]
      by_cases e : (31 = 31 ∧ 10 * c + d = 10 * a + b)
      · rw [if_pos e]
        have e1 : c = a := by omega
        have e2 : d = b := by omega
        rw [e1, e2]
        exact Or.inr ev
      · rw [if_neg e, G4.1 31 _ (by unfold St Sr; omega)]
        exact m3 c d hc hd
  · rw [e111]
    refine ok_some ⟨?_, ⟨m1, m2, m3⟩, F'⟩
    rcases m3 a b ha hb with q | q
    · exact absurd q d1
    · exact q
theorem RGB_s (n : Nat) (a : List Int32) (h : AH) : RGB (n + 1) 0 a h = fX8_best (RGB n) (a.getD 0 0) (a.getD 1 0) (a.getD 2 0) (a.getD 3 0) h := rfl
theorem c_best {n m B i j : Nat} {num sl : Nat → Nat → Int32} {mn : Int32} {Λ : LawF} {h : AH} (T : TI h n m num sl mn) (O : Oth h n m B Λ) (hi : i < n) (hj : j < n) (hij : i ≠ j) (hi5 : num i 5 = 0) (hj5 : num j 5 = 0) : ∀ (d N : Nat) (t : Bool) (a b : Nat) (h' : AH), d < N → d ≤ 100 → a ≤ 9 → b ≤ 9 → Fr Scr h h' → Mem (EdV Λ n m sl num mn i j) i j h' → Ok (RGB N 0 [nI a, nI b, nI d, if t then 1 else 0] h') (fun q => q.1.toInt = mmI (EdV Λ n m sl num mn i j) d t a b ∧ Mem (EdV Λ n m sl num mn i j) i j q.2 ∧ Fr Scr h q.2)
  | 0, N, t, a, b, h', hN, _, ha, hb, F', Mm => by
    obtain ⟨N, rfl⟩ : ∃ N', N = N' + 1 := ⟨N - 1, by omega⟩
    rw [RGB_s]
    unfold fX8_best
    refine ok_f (by show ¬ (0 : Int32) < nI 0; decide) ?_
    refine ok_b2 (c_end T O hi hj hij hi5 hj5 ha hb F' Mm) (fun v h2 hh => ok_some hh)
  | d + 1, N, t, a, b, h', hN, hd, ha, hb, F', Mm => by
    obtain ⟨N, rfl⟩ : ∃ N', N = N' + 1 := ⟨N - 1, by omega⟩
    have ih := c_best T O hi hj hij hi5 hj5 d N
    have ed : nI (d + 1) - 1 = nI d := by rw [← nI_m1 (show d + 1 < 2 ^ 30 by omega), Int32.sub_eq_add_neg]
    have m9 : (-9 : Int32).toInt = -9 := by decide
    have p9 : (9 : Int32).toInt = 9 := by decide
    rw [RGB_s]
    unfold fX8_best
    refine ok_t (by show (0 : Int32) < nI (d + 1); rw [show (0 : Int32) = nI 0 from rfl, nI_ltI (by omega) (by omega)]; omega) ?_
    cases t with
    | true =>
      refine ok_f (by show ¬ (1 : Int32) = 0; decide) ?_
      refine L6 (f := fX8_best_28 (RGB N) (nI a) (nI b) (nI (d + 1)) 1) (b := fX8_best_28_b (RGB N) (nI a) (nI b) (nI (d + 1)) 1) (fun _ => rfl) (fun r x1 x2 x3 x4 x5 x6 h2 => ∃ c, c + r = 3 ∧ x1 = nI a ∧ x2 = nI b ∧ x3 = nI (d + 1) ∧ x4 = 1 ∧ x5.toInt = (if c = 0 then -9 else if c = 1 then max (-9) (mmI (EdV Λ n m sl num mn i j) d false (aft a 0) b) else if c = 2 then max (max (-9) (mmI (EdV Λ n m sl num mn i j) d false (aft a 0) b)) (mmI (EdV Λ n m sl num mn i j) d false (aft a 1) b) else mmI (EdV Λ n m sl num mn i j) (d + 1) true a b) ∧ x6 = nI c ∧ Mem (EdV Λ n m sl num mn i j) i j h2 ∧ Fr Scr h h2) ?_ 3 FU (nI a) (nI b) (nI (d + 1)) 1 (-9) 0 h' (by unfold FU; omega) ⟨0, by omega, rfl, rfl, rfl, rfl, by rw [m9, if_pos rfl], rfl, Mm, F'⟩
      rintro r x1 x2 x3 x4 x5 x6 h2 ⟨c, hc, rfl, rfl, rfl, rfl, h5, rfl, M2, F2⟩ Q hQ
      unfold fX8_best_28_b
      refine ok_if (fun d1 => ?_) (fun d1 => ?_)
      · rw [show (2 : Int32) = nI 2 from rfl, nI_ltI (by omega) (by omega)] at d1
        rw [if_neg (by omega), if_neg (by omega), if_neg (by omega)] at h5
        exact ok_some ⟨h5, M2, F2⟩
      · rw [show (2 : Int32) = nI 2 from rfl, nI_ltI (by omega) (by omega)] at d1
        refine ok_f (by decide) ?_
        rw [c_after ha (by omega), b2_some, ed]
        refine ok_b2 (ih false (aft a c) b h2 (by omega) (by omega) (aft_le ha) hb F2 M2) (fun v h3 hh => ?_)
        obtain ⟨ev, M3, F3⟩ := hh
        have ev : v.toInt = mmI (EdV Λ n m sl num mn i j) d false (aft a c) b := ev
        refine ok_let ?_
        rw [nI_1]
        refine hQ (r - 1) _ _ _ _ _ _ _ (by omega) ⟨c + 1, by omega, rfl, rfl, rfl, rfl, ?_, rfl, M3, F3⟩
        rw [jmax_toInt, h5, ev]
        have cc : c = 0 ∨ c = 1 ∨ c = 2 := by omega
        rcases cc with rfl | rfl | rfl
        · simp
        · simp
        · simp [mmI]
    | false =>
      refine ok_t (by show (0 : Int32) = 0; decide) ?_
      refine L6 (f := fX8_best_28 (RGB N) (nI a) (nI b) (nI (d + 1)) 0) (b := fX8_best_28_b (RGB N) (nI a) (nI b) (nI (d + 1)) 0) (fun _ => rfl) (fun r x1 x2 x3 x4 x5 x6 h2 => ∃ c, c + r = 3 ∧ x1 = nI a ∧ x2 = nI b ∧ x3 = nI (d + 1) ∧ x4 = 0 ∧ x5.toInt = (if c = 0 then 9 else if c = 1 then min 9 (mmI (EdV Λ n m sl num mn i j) d true a (aft b 0)) else if c = 2 then min (min 9 (mmI (EdV Λ n m sl num mn i j) d true a (aft b 0))) (mmI (EdV Λ n m sl num mn i j) d true a (aft b 1)) else mmI (EdV Λ n m sl num mn i j) (d + 1) false a b) ∧ x6 = nI c ∧ Mem (EdV Λ n m sl num mn i j) i j h2 ∧ Fr Scr h h2) ?_ 3 FU (nI a) (nI b) (nI (d + 1)) 0 9 0 h' (by unfold FU; omega) ⟨0, by omega, rfl, rfl, rfl, rfl, by rw [p9, if_pos rfl], rfl, Mm, F'⟩
      rintro r x1 x2 x3 x4 x5 x6 h2 ⟨c, hc, rfl, rfl, rfl, rfl, h5, rfl, M2, F2⟩ Q hQ
      unfold fX8_best_28_b
      refine ok_if (fun d1 => ?_) (fun d1 => ?_)
      · rw [show (2 : Int32) = nI 2 from rfl, nI_ltI (by omega) (by omega)] at d1
        rw [if_neg (by omega), if_neg (by omega), if_neg (by omega)] at h5
        exact ok_some ⟨h5, M2, F2⟩
      · rw [show (2 : Int32) = nI 2 from rfl, nI_ltI (by omega) (by omega)] at d1
        refine ok_t rfl ?_
        rw [c_after hb (by omega), b2_some, ed]
        refine ok_b2 (ih true a (aft b c) h2 (by omega) (by omega) ha (aft_le hb) F2 M2) (fun v h3 hh => ?_)
        obtain ⟨ev, M3, F3⟩ := hh
        have ev : v.toInt = mmI (EdV Λ n m sl num mn i j) d true a (aft b c) := ev
        refine ok_let ?_
        rw [nI_1]
        refine hQ (r - 1) _ _ _ _ _ _ _ (by omega) ⟨c + 1, by omega, rfl, rfl, rfl, rfl, ?_, rfl, M3, F3⟩
        rw [jmin_toInt, h5, ev]
        have cc : c = 0 ∨ c = 1 ∨ c = 2 := by omega
        rcases cc with rfl | rfl | rfl
        · simp
        · simp
        · simp [mmI]
