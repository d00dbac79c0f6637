theorem L6 {α : Type} {f : Nat → Int32 → Int32 → Int32 → Int32 → Int32 → Int32 → AH → Option α} {b : (Int32 → Int32 → Int32 → Int32 → Int32 → Int32 → AH → Option α) → Int32 → Int32 → Int32 → Int32 → Int32 → Int32 → AH → Option α} {P : α → Prop} (hf : ∀ F, f (F + 1) = b (f F)) (I : Nat → Int32 → Int32 → Int32 → Int32 → Int32 → Int32 → AH → Prop)
    (hs : ∀ r x1 x2 x3 x4 x5 x6 h, I r x1 x2 x3 x4 x5 x6 h → ∀ Q : Int32 → Int32 → Int32 → Int32 → Int32 → Int32 → AH → Option α, (∀ r' x1' x2' x3' x4' x5' x6' h', r' < r → I r' x1' x2' x3' x4' x5' x6' h' → Ok (Q x1' x2' x3' x4' x5' x6' h') P) → Ok (b Q x1 x2 x3 x4 x5 x6 h) P) : ∀ r F x1 x2 x3 x4 x5 x6 h, r < F → I r x1 x2 x3 x4 x5 x6 h → Ok (f F x1 x2 x3 x4 x5 x6 h) P := by
  intro r
  induction r using Nat.strongRecOn with
  | _ r ih =>
    intro F x1 x2 x3 x4 x5 x6 h hF hI
    obtain ⟨F, rfl⟩ : ∃ F', F = F' + 1 := ⟨F - 1, by omega⟩
    rw [hf F]
    exact hs r x1 x2 x3 x4 x5 x6 h hI (f F) (fun r' x1' x2' x3' x4' x5' x6' h' hr hi => ih r' hr F x1' x2' x3' x4' x5' x6' h' (by omega) hi)
theorem L7 {α : Type} {f : Nat → Int32 → Int32 → Int32 → Int32 → Int32 → Int32 → Int32 → AH → Option α} {b : (Int32 → Int32 → Int32 → Int32 → Int32 → Int32 → Int32 → AH → Option α) → Int32 → Int32 → Int32 → Int32 → Int32 → Int32 → Int32 → AH → Option α} {P : α → Prop} (hf : ∀ F, f (F + 1) = b (f F)) (I : Nat → Int32 → Int32 → Int32 → Int32 → Int32 → Int32 → Int32 → AH → Prop)
    (hs : ∀ r x1 x2 x3 x4 x5 x6 x7 h, I r x1 x2 x3 x4 x5 x6 x7 h → ∀ Q : Int32 → Int32 → Int32 → Int32 → Int32 → Int32 → Int32 → AH → Option α, (∀ r' x1' x2' x3' x4' x5' x6' x7' h', r' < r → I r' x1' x2' x3' x4' x5' x6' x7' h' → Ok (Q x1' x2' x3' x4' x5' x6' x7' h') P) → Ok (b Q x1 x2 x3 x4 x5 x6 x7 h) P) : ∀ r F x1 x2 x3 x4 x5 x6 x7 h, r < F → I r x1 x2 x3 x4 x5 x6 x7 h → Ok (f F x1 x2 x3 x4 x5 x6 x7 h) P := by
  intro r
  induction r using Nat.strongRecOn with
  | _ r ih =>
    intro F x1 x2 x3 x4 x5 x6 x7 h hF hI
    obtain ⟨F, rfl⟩ : ∃ F', F = F' + 1 := ⟨F - 1, by omega⟩
    rw [hf F]
    exact hs r x1 x2 x3 x4 x5 x6 x7 h hI (f F) (fun r' x1' x2' x3' x4' x5' x6' x7' h' hr hi => ih r' hr F x1' x2' x3' x4' x5' x6' x7' h' (by omega) hi)
theorem L8 {α : Type} {f : Nat → Int32 → Int32 → Int32 → Int32 → Int32 → Int32 → Int32 → Int32 → AH → Option α} {b : (Int32 → Int32 → Int32 → Int32 → Int32 → Int32 → Int32 → Int32 → AH → Option α) → Int32 → Int32 → Int32 → Int32 → Int32 → Int32 → Int32 → Int32 → AH → Option α} {P : α → Prop} (hf : ∀ F, f (F + 1) = b (f F)) (I : Nat → Int32 → Int32 → Int32 → Int32 → Int32 → Int32 → Int32 → Int32 → AH → Prop)
    (hs : ∀ r x1 x2 x3 x4 x5 x6 x7 x8 h, I r x1 x2 x3 x4 x5 x6 x7 x8 h → ∀ Q : Int32 → Int32 → Int32 → Int32 → Int32 → Int32 → Int32 → Int32 → AH → Option α, (∀ r' x1' x2' x3' x4' x5' x6' x7' x8' h', r' < r → I r' x1' x2' x3' x4' x5' x6' x7' x8' h' → Ok (Q x1' x2' x3' x4' x5' x6' x7' x8' h') P) → Ok (b Q x1 x2 x3 x4 x5 x6 x7 x8 h) P) : ∀ r F x1 x2 x3 x4 x5 x6 x7 x8 h, r < F → I r x1 x2 x3 x4 x5 x6 x7 x8 h → Ok (f F x1 x2 x3 x4 x5 x6 x7 x8 h) P := by
  intro r
  induction r using Nat.strongRecOn with
  | _ r ih =>
    intro F x1 x2 x3 x4 x5 x6 x7 x8 h hF hI
    obtain ⟨F, rfl⟩ : ∃ F', F = F' + 1 := ⟨F - 1, by omega⟩
    rw [hf F]
    exact hs r x1 x2 x3 x4 x5 x6 x7 x8 h hI (f F) (fun r' x1' x2' x3' x4' x5' x6' x7' x8' h' hr hi => ih r' hr F x1' x2' x3' x4' x5' x6' x7' x8' h' (by omega) hi)
theorem L9 {α : Type} {f : Nat → Int32 → Int32 → Int32 → Int32 → Int32 → Int32 → Int32 → Int32 → Int32 → AH → Option α} {b : (Int32 → Int32 → Int32 → Int32 → Int32 → Int32 → Int32 → Int32 → Int32 → AH → Option α) → Int32 → Int32 → Int32 → Int32 → Int32 → Int32 → Int32 → Int32 → Int32 → AH → Option α} {P : α → Prop} (hf : ∀ F, f (F + 1) = b (f F)) (I : Nat → Int32 → Int32 → Int32 → Int32 → Int32 → Int32 → Int32 → Int32 → Int32 → AH → Prop)
    (hs : ∀ r x1 x2 x3 x4 x5 x6 x7 x8 x9 h, I r x1 x2 x3 x4 x5 x6 x7 x8 x9 h → ∀ Q : Int32 → Int32 → Int32 → Int32 → Int32 → Int32 → Int32 → Int32 → Int32 → AH → Option α, (∀ r' x1' x2' x3' x4' x5' x6' x7' x8' x9' h', r' < r → I r' x1' x2' x3' x4' x5' x6' x7' x8' x9' h' → Ok (Q x1' x2' x3' x4' x5' x6' x7' x8' x9' h') P) → Ok (b Q x1 x2 x3 x4 x5 x6 x7 x8 x9 h) P) : ∀ r F x1 x2 x3 x4 x5 x6 x7 x8 x9 h, r < F → I r x1 x2 x3 x4 x5 x6 x7 x8 x9 h → Ok (f F x1 x2 x3 x4 x5 x6 x7 x8 x9 h) P := by
  intro r
  induction r using Nat.strongRecOn with
  | _ r ih =>
    intro F x1 x2 x3 x4 x5 x6 x7 x8 x9 h hF hI
    obtain ⟨F, rfl⟩ : ∃ F', F = F' + 1 := ⟨F - 1, by omega⟩
    rw [hf F]
    exact hs r x1 x2 x3 x4 x5 x6 x7 x8 x9 h hI (f F) (fun r' x1' x2' x3' x4' x5' x6' x7' x8' x9' h' hr hi => ih r' hr F x1' x2' x3' x4' x5' x6' x7' x8' x9' h' (by omega) hi)
/-! quotients and rests -/
theorem div_toInt {p D : Int32} {d : Nat} (hD : D = nI d) (hd : 0 < d) (hd2 : d < 2 ^ 31) : (0 ≤ p.toInt → (p / D).toInt = p.toInt / d) ∧ (p.toInt < 0 → (p / D).toInt ≤ 0) := by
  have eD : D.toInt = d := by rw [hD, nI_toInt hd2]
  have hne : D ≠ -1 := by
    intro z
    rw [z] at eD
    have : (-1 : Int32).toInt = -1 := by decide
    omega
  rw [Int32.toInt_div_of_ne_right p D hne, eD]
  constructor
  · intro h0
    rw [Int.tdiv_eq_ediv_of_nonneg h0]
  · intro h0
    have e : p.toInt = -(-p.toInt) := by omega
    rw [e, Int.neg_tdiv, Int.tdiv_eq_ediv_of_nonneg (by omega)]
    have := Int.ediv_nonneg (a := -p.toInt) (b := d) (by omega) (by omega)
    omega
theorem div_nI {a d : Nat} {D : Int32} (hD : D = nI d) (hd : 0 < d) (hd2 : d < 2 ^ 31) (ha : a < 2 ^ 31) : nI a / D = nI (a / d) := by
  have h1 := (div_toInt (p := nI a) hD hd hd2).1 (by rw [nI_toInt ha]; omega)
  rw [nI_toInt ha] at h1
  have : a / d ≤ a := Nat.div_le_self a d
  rw [i_eq, h1, nI_toInt (by omega)]
  rfl
theorem rem_nI {a d : Nat} {D : Int32} (hD : D = nI d) (hd : 0 < d) (hd2 : d < 2 ^ 31) (ha : a < 2 ^ 30) : jrem (nI a) D = nI (a % d) := by
  unfold jrem
  rw [div_nI hD hd hd2 (by omega), hD, pk_mul]
  have h1 : a / d * d ≤ a := Nat.div_mul_le_self a d
  have h2 := Nat.div_add_mod a d
  rw [Nat.mul_comm] at h2
  have h3 := Nat.mod_le a d
  rw [i_eq, pk_sub_toInt (by omega) (by omega), nI_toInt (by omega)]
  omega
/-! slipWhen -/
def bstP (R : Nat → Int32) (a : Int32 × Int32) : Nat → Int32 × Int32
  | 0 => a
  | c + 1 => if (bstP R a c).2 ≤ R c then bstP R a c else (nI c, R c)
def slA (m : Nat) (sl : Nat → Nat → Int32) (a w g : Int32) : Nat → Nat → Int32 := fun s j => if s = m then (if j = 0 then a else if j = 1 then w else g) else sl s j
theorem slA_by {n m j : Nat} {sl : Nat → Nat → Int32} {a w : Int32} (hby : ∀ s, s < m → ∃ j, j < n ∧ sl s 2 = nI j) (hj : j < n) : ∀ s, s < m + 1 → ∃ i, i < n ∧ slA m sl a w (nI j) s 2 = nI i := by
  intro s hs
  unfold slA
  by_cases e : s = m
  · rw [if_pos e, if_neg (by decide), if_neg (by decide)]; exact ⟨j, hj, rfl⟩
  · rw [if_neg e]; exact hby s (by omega)
noncomputable def slW (Λ : LawF) (n m : Nat) (sl num : Nat → Nat → Int32) (mn : Int32) (g : Nat) (w : Int32) (k c : Nat) : Int32 := nI (posG g (GL Λ n (m + 1) (slA m sl (mn + nI c) w (nI g)) (itP n (m + 1) (slA m sl (mn + nI c) w (nI g)) k (num, mn))))
theorem c_bySlip {n m B j k c : Nat} {num sl : Nat → Nat → Int32} {mn w : Int32} {Λ : LawF} {h : AH} (T : TI h n m num sl mn) (O : Oth h n m B Λ) (hj : j < n) (h5 : num j 5 = 0) (hk : k ≤ 100) : Ok (fX6_placeBySlip (nI j) (nI c) w (nI k) h) (fun q => q.1 = slW Λ n m sl num mn j w k c ∧ Fr Scr h q.2) := by
  have hn9 := T.n9
  have hm12 := T.m12
  unfold fX6_placeBySlip
  refine ok_bV (c_become hn9 hm12 T.c) (fun h1 hh => ?_)
  obtain ⟨C1, F1⟩ := hh
  have F1 := F1.mono St_scr
  have e11 : h1.1 1 11 = mn := by rw [F1.1 1 11 (by unfold Scr; omega)]; exact T.c.2.2.1
  rw [e11]
  obtain ⟨a, b, cc, dd, ee⟩ := C1
  have r6 : rf 19 6 = 26 ∧ rf 19 7 = 27 ∧ rf 19 8 = 28 := by decide +kernel
  have add : Ok (fX7_addSlip 19 (nI j) (mn + nI c) w h1) (fun q => CRep 19 q.2 n (m + 1) num (slA m sl (mn + nI c) w (nI j)) mn ∧ Fr Scr h q.2) := by
    unfold fX7_addSlip
    rw [b, r6.1, r6.2.1, r6.2.2]
    refine ok_t (by rw [show (13 : Int32) = nI 13 from rfl, nI_ltI (by omega) (by omega)]; omega) (ok_let (ok_t (inb_nI (by omega) (by decide)) (ok_let (ok_let (ok_let (ok_let (ok_some ?_)))))))
    rw [ix_nI (show m < 2 ^ 31 by omega)]
    refine ⟨⟨?_, ?_, ?_, fun i hi => ?_, fun s hs => ?_⟩, ?_⟩
    · simp [wI_rd]; exact a
    · simp [wI_rd]; rw [b, nI_1]
    · simp [wI_rd]; exact cc
    · simp [wI_rd]; exact dd i hi
    · simp only [wI_rd]
      unfold slA
      by_cases e : s = m
      · subst e; simp
      · simp [e]; exact ee s (by omega)
    · exact (((F1.w (by unfold Scr; omega)).w (by unfold Scr; omega)).w (by unfold Scr; omega)).w (by unfold Scr; omega)
  refine ok_b2 add (fun v h2 hh => ?_)
  obtain ⟨C2, F2⟩ := hh
  have F2 : Fr Scr h h2 := F2
  refine L3 (f := fX6_placeBySlip_33 (nI j) (nI c) w (nI k)) (b := fX6_placeBySlip_33_b (nI j) (nI c) w (nI k)) (fun _ => rfl) (fun r x y z h' => ∃ d, d + r = k ∧ x = nI j ∧ y = nI k ∧ z = nI d ∧ CRep 19 h' n (m + 1) (itP n (m + 1) (slA m sl (mn + nI c) w (nI j)) d (num, mn)).1 (slA m sl (mn + nI c) w (nI j)) (itP n (m + 1) (slA m sl (mn + nI c) w (nI j)) d (num, mn)).2 ∧ Fr Scr h h') ?_ k FU (nI j) (nI k) 0 h2 (by unfold FU; omega) ⟨0, by omega, rfl, rfl, rfl, C2, F2⟩
  rintro r x y z h' ⟨d, hd, rfl, rfl, rfl, C', F'⟩ Q hQ
  unfold fX6_placeBySlip_33_b
  refine ok_if (fun d1 => ?_) (fun d1 => ?_)
  · rw [nI_leI (by omega) (by omega)] at d1
    have e : d = k := by omega
    subst e
    refine ok_bV (c_allGo (ov := 9) hn9 (by omega) (slA_by T.by hj) (it_gone d _ T.gone) O.ir C' (O.cl.scr F')) (fun h3 hh => ?_)
    obtain ⟨G3, F3⟩ := hh
    have G3 : GoA h3 (GL Λ n (m + 1) (slA m sl (mn + nI c) w (nI j)) (itP n (m + 1) (slA m sl (mn + nI c) w (nI j)) d (num, mn))) := G3
    have hl : (GL Λ n (m + 1) (slA m sl (mn + nI c) w (nI j)) (itP n (m + 1) (slA m sl (mn + nI c) w (nI j)) d (num, mn))).length ≤ 9 := by rw [GL_len]; have := lftN_le (itP n (m + 1) (slA m sl (mn + nI c) w (nI j)) d (num, mn)).1 n; omega
    rw [c_place (by omega) hl (GL_b hn9) G3, b2_some, if_pos (GL_pos.mpr ⟨hj, by rw [it_5 _ _ _ _ (by decide)]; exact h5⟩)]
    exact ok_some ⟨rfl, F'.tr (F3.mono St_scr)⟩
  · rw [nI_leI (by omega) (by omega)] at d1
    refine ok_bV (c_pass (Or.inr rfl) hn9 (by omega) (slA_by T.by hj) C') (fun h3 hh => ?_)
    obtain ⟨C3, F3⟩ := hh
    rw [nI_1]
    exact hQ (r - 1) _ _ _ _ (by omega) ⟨d + 1, by omega, rfl, rfl, rfl, by rw [it_snoc]; exact C3, F'.tr (F3.mono (fun o k q => by unfold Scr; omega))⟩
theorem bst_step {R : Nat → Int32} {a : Int32 × Int32} {c : Nat} {z y : Int32} (hyz : (y, z) = bstP R a c) : bstP R a (c + 1) = if z ≤ R c then (y, z) else (nI c, R c) := by
  show (if (bstP R a c).2 ≤ R c then bstP R a c else (nI c, R c)) = _
  rw [← hyz]
theorem jmin_le {z r : Int32} (h : z ≤ r) : jmin r z = z := by
  unfold jmin
  by_cases d4 : z < r
  · rw [if_pos d4]
  · rw [if_neg d4]
    rw [i_le] at h
    rw [i_lt] at d4
    exact i_eq.mpr (by omega)
theorem jmin_nle {z r : Int32} (h : ¬ z ≤ r) : jmin r z = r := by
  unfold jmin
  rw [if_neg (by rw [i_le] at h; rw [i_lt]; omega)]
theorem op_slipWhen (g p w : Int32) : Sim (fX9_slipWhen g p w) (fX10_slipWhen g p w) := by
  have e0 : (0 : Int32).toInt = 0 := by decide
  have e1 : (1 : Int32).toInt = 1 := by decide
  have e30 : (30 : Int32).toInt = 30 := by decide
  have eA : (100 : Int32).toInt = 100 := by decide
  have eB : (3030 : Int32).toInt = 3030 := by decide
  have s1 : (ST 200 7).toInt = 1 := by decide +kernel
  have s2 : (ST 201 7).toInt = 30 := by decide +kernel
  have hdv := div_toInt (p := p) (D := 100) (d := 100) rfl (by decide) (by decide)
  -- the numbers in p
  have hp : ∀ {q : Nat}, p = nI q → q < 2 ^ 20 → p / 100 = nI (q / 100) ∧ jrem p 100 = nI (q % 100) := fun {q} e hq => by
    rw [e]
    exact ⟨div_nI rfl (by decide) (by decide) (by omega), rem_nI rfl (by decide) (by decide) (by omega)⟩
  refine sim_think (fun n m num sl mn Λ => if 0 ≤ g.toInt ∧ g.toInt < n then if (100 ≤ p.toInt ∧ p.toInt ≤ 3030) ∧ p.toInt % 100 ≤ 30 then if 0 ≤ w.toInt ∧ w.toInt ≤ 1 then if num g.toInt.toNat 5 = 0 then if w = 0 then (bstP (slW Λ n m sl num mn g.toInt.toNat (nI (p.toInt.toNat / 100)) (p.toInt.toNat % 100)) (0, 9) 31).1 else (bstP (slW Λ n m sl num mn g.toInt.toNat (nI (p.toInt.toNat / 100)) (p.toInt.toNat % 100)) (0, 9) 31).2 else -5 else -1 else -1 else -1) (fun n m B num sl mn Λ h T O => ?_) (fun n m B num sl mn Λ h T O => ?_)
  · unfold fX9_slipWhen
    refine ok_let (ok_let ?_)
    rw [c_hasGuest T.c.1 T.n9, b2_some]
    by_cases c2 : 0 ≤ g.toInt ∧ g.toInt < n
    · rw [if_pos c2, if_pos c2]
      refine ok_f (by decide) ?_
      have hn9 := T.n9
      obtain ⟨eg, hg⟩ := nI_of_rg (a := 9) c2.1 (by omega) (by decide)
      obtain ⟨j, ej⟩ : ∃ j, j = g.toInt.toNat := ⟨_, rfl⟩
      rw [← ej] at eg hg ⊢
      have hj : j < n := by omega
      rw [c_isWithin (K := 7) (k := 7) rfl (by decide), b2_some, s1, s2]
      by_cases c3 : 1 ≤ (p / 100).toInt ∧ (p / 100).toInt ≤ 30
      · rw [if_pos c3]
        refine ok_f (by decide) ?_
        have p0 : 0 ≤ p.toInt := by
          apply Classical.byContradiction
          intro z
          have := hdv.2 (by omega)
          omega
        have hd1 := hdv.1 p0
        have pr : 100 ≤ p.toInt ∧ p.toInt < 3100 := by omega
        obtain ⟨ep, hpp⟩ := nI_of_rg (p := p) (a := 3100) p0 (by omega) (by decide)
        obtain ⟨q, eq⟩ : ∃ q, q = p.toInt.toNat := ⟨_, rfl⟩
        rw [← eq] at ep hpp ⊢
        obtain ⟨h1, h2⟩ := hp ep (by omega)
        rw [h1, h2]
        refine ok_if (fun c4 => ?_) (fun c4 => ?_)
        · rw [show (30 : Int32) = nI 30 from rfl, nI_ltI (by omega) (by omega)] at c4
          rw [if_neg (by omega)]
          exact ok_some ⟨rfl, Fr.rf⟩
        · rw [show (30 : Int32) = nI 30 from rfl, nI_ltI (by omega) (by omega)] at c4
          rw [if_pos (by omega), c_choice, b2_some]
          by_cases c5 : 0 ≤ w.toInt ∧ w.toInt ≤ 1
          · rw [if_pos c5, if_pos c5]
            refine ok_f (by decide) ?_
            rw [eg, c_isLeft (Or.inl rfl) hn9 T.c hj, b2_some]
            by_cases c6 : num j 5 = 0
            · rw [if_pos c6, if_pos c6]
              refine ok_f (by decide) ?_
              refine L7 (f := fX9_slipWhen_73 (nI j) p w) (b := fX9_slipWhen_73_b (nI j) p w) (fun _ => rfl) (fun r x1 x3 x4 x5 x6 x7 x8 h' => ∃ c, c + r = 31 ∧ x1 = nI j ∧ x3 = w ∧ x4 = nI (q / 100) ∧ x5 = nI (q % 100) ∧ (x6, x7) = bstP (slW Λ n m sl num mn j (nI (q / 100)) (q % 100)) (0, 9) c ∧ x8 = nI c ∧ Fr Scr h h') ?_ 31 FU (nI j) w _ _ 0 9 0 h (by unfold FU; omega) ⟨0, by omega, rfl, rfl, rfl, rfl, rfl, rfl, Fr.rf⟩
              rintro r x1 x3 x4 x5 x6 x7 x8 h' ⟨c, hc, rfl, rfl, rfl, rfl, hyz, rfl, F'⟩ Q hQ
              obtain ⟨T', O'⟩ := scr_t T O F'
              unfold fX9_slipWhen_73_b
              refine ok_if (fun d1 => ?_) (fun d1 => ?_)
              · rw [show (30 : Int32) = nI 30 from rfl, nI_ltI (by omega) (by omega)] at d1
                have e : c = 31 := by omega
                subst e
                rw [← hyz]
                by_cases d2 : x3 = 0
                · rw [if_pos d2, if_pos d2]; exact ok_some ⟨rfl, F'⟩
                · rw [if_neg d2, if_neg d2]; exact ok_some ⟨rfl, F'⟩
              · rw [show (30 : Int32) = nI 30 from rfl, nI_ltI (by omega) (by omega)] at d1
                refine ok_b2 (c_bySlip T' O' hj c6 (by omega)) (fun v h2 hh => ?_)
                obtain ⟨ev, F2⟩ := hh
                have ev : v = slW Λ n m sl num mn j (nI (q / 100)) (q % 100) c := ev
                have F2 : Fr Scr h h2 := F'.tr F2
                have es := bst_step hyz
                rw [ev, nI_1]
                refine ok_if (fun d3 => ?_) (fun d3 => ?_)
                · exact hQ (r - 1) _ _ _ _ _ _ _ _ (by omega) ⟨c + 1, by omega, rfl, rfl, rfl, rfl, by rw [es, if_pos d3], rfl, F2⟩
                · exact hQ (r - 1) _ _ _ _ _ _ _ _ (by omega) ⟨c + 1, by omega, rfl, rfl, rfl, rfl, by rw [es, if_neg d3], rfl, F2⟩
            · rw [if_neg c6, if_neg c6]
              exact ok_t rfl (ok_some ⟨rfl, Fr.rf⟩)
          · rw [if_neg c5, if_neg c5]
            exact ok_t rfl (ok_some ⟨rfl, Fr.rf⟩)
      · rw [if_neg c3]
        refine ok_t rfl ?_
        rw [if_neg (fun z => c3 (by have := hdv.1 (by omega); omega))]
        exact ok_some ⟨rfl, Fr.rf⟩
    · rw [if_neg c2, if_neg c2]
      exact ok_t rfl (ok_some ⟨rfl, Fr.rf⟩)
  · unfold fX10_slipWhen
    rw [m_isGuest T.m.1 T.n9, b2_some]
    by_cases c2 : 0 ≤ g.toInt ∧ g.toInt < n
    · rw [if_pos c2, if_pos c2]
      refine ok_f (by decide) ?_
      have hn9 := T.n9
      have hm12 := T.m12
      obtain ⟨eg, hg⟩ := nI_of_rg (a := 9) c2.1 (by omega) (by decide)
      obtain ⟨j, ej⟩ : ∃ j, j = g.toInt.toNat := ⟨_, rfl⟩
      rw [← ej] at eg hg ⊢
      have hj : j < n := by omega
      rw [m_isIn, b2_some, eA, eB]
      by_cases c3 : 100 ≤ p.toInt ∧ p.toInt ≤ 3030
      · rw [if_pos c3]
        refine ok_f (by decide) ?_
        obtain ⟨ep, hpp⟩ := nI_of_rg (p := p) (a := 3100) (by omega) (by omega) (by decide)
        obtain ⟨q, eq⟩ : ∃ q, q = p.toInt.toNat := ⟨_, rfl⟩
        rw [← eq] at ep hpp ⊢
        obtain ⟨h1, h2⟩ := hp ep (by omega)
        rw [h1, h2]
        refine ok_if (fun c4 => ?_) (fun c4 => ?_)
        · rw [show (30 : Int32) = nI 30 from rfl, nI_ltI (by omega) (by omega)] at c4
          rw [if_neg (by omega)]
          exact ok_some ⟨rfl, Fr.rf⟩
        · rw [show (30 : Int32) = nI 30 from rfl, nI_ltI (by omega) (by omega)] at c4
          rw [if_pos (by omega), m_isIn, b2_some, e0, e1]
          by_cases c5 : 0 ≤ w.toInt ∧ w.toInt ≤ 1
          · rw [if_pos c5, if_pos c5]
            refine ok_f (by decide) ?_
            rw [eg, m_isHere (by omega), b2_some, T.m.2.1 j hj 5 (by decide)]
            by_cases c6 : num j 5 = 0
            · rw [if_pos c6, if_pos c6]
              refine ok_f (by decide) (ok_let (ok_let ?_))
              refine L6 (f := fX10_slipWhen_74 (nI j) p w) (b := fX10_slipWhen_74_b (nI j) p w) (fun _ => rfl) (fun r x1 x2 x3 x4 x5 x6 h' => ∃ c, c + r = 31 ∧ x1 = nI j ∧ x2 = p ∧ x3 = w ∧ (x4, x5) = bstP (slW Λ n m sl num mn j (nI (q / 100)) (q % 100)) (0, 9) c ∧ x6 = nI c ∧ h'.1 59 23 = nI j ∧ h'.1 59 25 = nI (q / 100) ∧ Fr (fun o k => Scr o k ∨ (o = 59 ∧ k = 23)) h h') ?_ 31 FU (nI j) p w 0 9 0 _ (by unfold FU; omega) ⟨0, by omega, rfl, rfl, rfl, rfl, rfl, by simp [wI_rd], by simp [wI_rd], (Fr.rf.w (Or.inr ⟨rfl, rfl⟩)).w (Or.inl (by unfold Scr; omega))⟩
              rintro r x1 x2 x3 x4 x5 x6 h' ⟨c, hc, rfl, rfl, rfl, hyz, rfl, h23, h25, F'⟩ Q hQ
              unfold fX10_slipWhen_74_b
              refine ok_if (fun d1 => ?_) (fun d1 => ?_)
              · rw [show (30 : Int32) = nI 30 from rfl, nI_ltI (by omega) (by omega)] at d1
                have e : c = 31 := by omega
                subst e
                have F2 : Fr Scr h (wI h' 59 23 (-1)) := ⟨fun o k hs => by
                  rw [wI_rd]
                  by_cases e : o = 59 ∧ k = 23
                  · rw [if_pos e, e.1, e.2]; exact T.2.2.2.2.2.2.1.symm
                  · rw [if_neg e]; exact F'.1 o k (fun z => z.elim hs e), F'.2⟩
                refine ok_let ?_
                rw [← hyz]
                by_cases d2 : x3 = 0
                · rw [if_pos d2, if_pos d2]; exact ok_some ⟨rfl, F2⟩
                · rw [if_neg d2, if_neg d2]; exact ok_some ⟨rfl, F2⟩
              · rw [show (30 : Int32) = nI 30 from rfl, nI_ltI (by omega) (by omega)] at d1
                refine ok_let ?_
                have i93 : ix (93 : Int32) = 93 := by decide
                have em : h'.1 60 93 = mn := by rw [F'.1 60 93 (by unfold Scr; omega)]; exact T.m.2.2.1
                rw [i93, em, h2]
                have F2 : Fr (fun o k => Scr o k ∨ (o = 59 ∧ k = 23)) h (wI h' 59 24 (mn + nI c)) := F'.w (Or.inl (by unfold Scr; omega))
                have M2 : MRep (wI h' 59 24 (mn + nI c)) n (m + 1) num (slA m sl (mn + nI c) (nI (q / 100)) (nI j)) mn := by
                  obtain ⟨ma, mb, mc, md⟩ := T.m
                  refine ⟨(F2.1 _ _ (by unfold Scr; omega)).trans ma, fun i hi k hk => (F2.1 _ _ (by unfold Scr; omega)).trans (mb i hi k hk), (F2.1 _ _ (by unfold Scr; omega)).trans mc, Or.inr ⟨m, rfl, (F2.1 _ _ (by unfold Scr; omega)).trans T.2.2.2.2.2.2.2.1, fun s hs i hi => ?_, ?_, ?_, ?_⟩⟩
                  · rw [F2.1 _ _ (by unfold Scr; omega), T.2.2.2.2.2.2.2.2 s hs i hi]
                    unfold slA
                    rw [if_neg (by omega)]
                  · rw [wI_rd, if_neg (by omega), h23]
                    unfold slA
                    rw [if_pos rfl, if_neg (by decide), if_neg (by decide)]
                  · rw [wI_rd, if_pos (by omega)]
                    unfold slA
                    rw [if_pos rfl, if_pos rfl]
                  · rw [wI_rd, if_neg (by omega), h25]
                    unfold slA
                    rw [if_pos rfl, if_neg (by decide), if_pos rfl]
                have hL2 : ML (wI h' 59 24 (mn + nI c)) Λ := O.ml.fr F2 (fun o k q z => by unfold Scr at z; omega)
                have hm2 : mOK (wI h' 59 24 (mn + nI c)) (m + 1) := Or.inr ⟨m, rfl, hm12, (F2.1 _ _ (by unfold Scr; omega)).trans T.2.2.2.2.2.2.2.1⟩
                refine ok_b2 (m_goAll (k := q % 100) (ov := -1) hn9 hm2 (by omega) M2 hL2) (fun v3 h3 hv => ?_)
                obtain ⟨ev, G3, F3⟩ := hv
                have ev : v3 = nI (goS Λ n (m + 1) (slA m sl (mn + nI c) (nI (q / 100)) (nI j)) (-1) n (itP n (m + 1) (slA m sl (mn + nI c) (nI (q / 100)) (nI j)) (q % 100) (num, mn)).1 (itP n (m + 1) (slA m sl (mn + nI c) (nI (q / 100)) (nI j)) (q % 100) (num, mn)).2).length := ev
                rw [goS_m1 hn9] at ev
                have G3 : GoM h3 (goS Λ n (m + 1) (slA m sl (mn + nI c) (nI (q / 100)) (nI j)) (-1) n (itP n (m + 1) (slA m sl (mn + nI c) (nI (q / 100)) (nI j)) (q % 100) (num, mn)).1 (itP n (m + 1) (slA m sl (mn + nI c) (nI (q / 100)) (nI j)) (q % 100) (num, mn)).2) := G3
                rw [goS_m1 hn9] at G3
                have G3 : GoM h3 (GL Λ n (m + 1) (slA m sl (mn + nI c) (nI (q / 100)) (nI j)) (itP n (m + 1) (slA m sl (mn + nI c) (nI (q / 100)) (nI j)) (q % 100) (num, mn))) := G3
                have ev : v3 = nI (GL Λ n (m + 1) (slA m sl (mn + nI c) (nI (q / 100)) (nI j)) (itP n (m + 1) (slA m sl (mn + nI c) (nI (q / 100)) (nI j)) (q % 100) (num, mn))).length := ev
                have F3 : Fr Sq (wI h' 59 24 (mn + nI c)) h3 := F3
                have F03 : Fr (fun o k => Scr o k ∨ (o = 59 ∧ k = 23)) h h3 := F2.tr (F3.mono (fun o k q => Or.inl (Sq_scr o k q)))
                have k23 : h3.1 59 23 = nI j := by rw [F3.1 59 23 (fun q => by unfold Sq Sl Sg at q; omega), wI_rd, if_neg (by omega)]; exact h23
                have k25 : h3.1 59 25 = nI (q / 100) := by rw [F3.1 59 25 (fun q => by unfold Sq Sl Sg at q; omega), wI_rd, if_neg (by omega)]; exact h25
                have hl : (GL Λ n (m + 1) (slA m sl (mn + nI c) (nI (q / 100)) (nI j)) (itP n (m + 1) (slA m sl (mn + nI c) (nI (q / 100)) (nI j)) (q % 100) (num, mn))).length ≤ 9 := by rw [GL_len]; have := lftN_le (itP n (m + 1) (slA m sl (mn + nI c) (nI (q / 100)) (nI j)) (q % 100) (num, mn)).1 n; omega
                rw [ev, m_went (by omega) hl (GL_b hn9) G3, b2_some, if_pos (GL_pos.mpr ⟨hj, by rw [it_5 _ _ _ _ (by decide)]; exact c6⟩)]
                have es := bst_step hyz
                have er : slW Λ n m sl num mn j (nI (q / 100)) (q % 100) c = nI (posG j (GL Λ n (m + 1) (slA m sl (mn + nI c) (nI (q / 100)) (nI j)) (itP n (m + 1) (slA m sl (mn + nI c) (nI (q / 100)) (nI j)) (q % 100) (num, mn)))) := rfl
                rw [← er]
                refine ok_if (fun d3 => ?_) (fun d3 => ?_)
                · unfold fX10_slipWhen_125
                  refine ok_let ?_
                  rw [jmin_le d3, nI_1]
                  exact hQ (r - 1) _ _ _ _ _ _ _ (by omega) ⟨c + 1, by omega, rfl, rfl, rfl, by rw [es, if_pos d3], rfl, k23, k25, F03⟩
                · unfold fX10_slipWhen_125
                  refine ok_let ?_
                  rw [jmin_nle d3, nI_1]
                  exact hQ (r - 1) _ _ _ _ _ _ _ (by omega) ⟨c + 1, by omega, rfl, rfl, rfl, by rw [es, if_neg d3], rfl, k23, k25, F03⟩
            · rw [if_neg c6, if_neg c6]
              exact ok_t rfl (ok_some ⟨rfl, Fr.rf⟩)
          · rw [if_neg c5, if_neg c5]
            exact ok_t rfl (ok_some ⟨rfl, Fr.rf⟩)
      · rw [if_neg c3]
        refine ok_t rfl ?_
        rw [if_neg (fun z => c3 z.1)]
        exact ok_some ⟨rfl, Fr.rf⟩
    · rw [if_neg c2, if_neg c2]
      exact ok_t rfl (ok_some ⟨rfl, Fr.rf⟩)
