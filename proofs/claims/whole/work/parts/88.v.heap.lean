/-! the yard in the heap -/
theorem c_rank (b : Int32) (h : AH) : fX4_rankOf b h = some (nI (rk b), h) := by
  unfold fX4_rankOf rk
  by_cases c33 : b = 33
  · rw [if_pos c33, if_pos c33]; rfl
  rw [if_neg c33, if_neg c33]
  by_cases c37 : b = 37
  · rw [if_pos c37, if_pos c37]; rfl
  rw [if_neg c37, if_neg c37]
  by_cases c38 : b = 38
  · rw [if_pos c38, if_pos c38]; rfl
  rw [if_neg c38, if_neg c38]
  by_cases c42 : b = 42
  · rw [if_pos c42, if_pos c42]; rfl
  rw [if_neg c42, if_neg c42]
  by_cases c43 : b = 43
  · rw [if_pos c43, if_pos c43]; rfl
  rw [if_neg c43, if_neg c43]
  by_cases c45 : b = 45
  · rw [if_pos c45, if_pos c45]; rfl
  rw [if_neg c45, if_neg c45]
  by_cases c47 : b = 47
  · rw [if_pos c47, if_pos c47]; rfl
  rw [if_neg c47, if_neg c47]
  by_cases c60 : b = 60
  · rw [if_pos c60, if_pos c60]; rfl
  rw [if_neg c60, if_neg c60]
  by_cases c61 : b = 61
  · rw [if_pos c61, if_pos c61]; rfl
  rw [if_neg c61, if_neg c61]
  by_cases c62 : b = 62
  · rw [if_pos c62, if_pos c62]; rfl
  rw [if_neg c62, if_neg c62]
  by_cases c124 : b = 124
  · rw [if_pos c124, if_pos c124]; rfl
  rw [if_neg c124, if_neg c124]
  by_cases c126 : b = 126
  · rw [if_pos c126, if_pos c126]; rfl
  rw [if_neg c126, if_neg c126]
  rfl
theorem c_isNm (b : Int32) (h : AH) : fX4_isName b h = some (if isNm b then 1 else 0, h) := by
  unfold fX4_isName
  by_cases c114 : b = 114
  · rw [if_pos c114, if_pos (by simp [isNm, c114])]
  rw [if_neg c114]
  by_cases c108 : b = 108
  · rw [if_pos c108, if_pos (by simp [isNm, c108])]
  rw [if_neg c108]
  by_cases c104 : b = 104
  · rw [if_pos c104, if_pos (by simp [isNm, c104])]
  rw [if_neg c104]
  by_cases c109 : b = 109
  · rw [if_pos c109, if_pos (by simp [isNm, c109])]
  rw [if_neg c109]
  by_cases c110 : b = 110
  · rw [if_pos c110, if_pos (by simp [isNm, c110])]
  rw [if_neg c110]
  by_cases c103 : b = 103
  · rw [if_pos c103, if_pos (by simp [isNm, c103])]
  rw [if_neg c103]
  rw [if_neg (by simp [isNm, c114, c108, c104, c109, c110, c103])]
theorem c_isDg (b : Int32) (h : AH) : fX4_isDigit b h = some (if isDg b then 1 else 0, h) := by
  have e48 : (48 : Int32).toInt = 48 := by decide
  have e57 : (57 : Int32).toInt = 57 := by decide
  unfold fX4_isDigit
  simp only [i_lt, e48, e57]
  by_cases c1 : b.toInt < 48
  · rw [if_pos c1, if_neg (by unfold isDg; omega)]
  · rw [if_neg c1]
    by_cases c2 : 57 < b.toInt
    · rw [if_pos c2, if_neg (by unfold isDg; omega)]
    · rw [if_neg c2, if_pos (by unfold isDg; omega)]
theorem rk_le (b : Int32) : rk b ≤ 6 := by
  unfold rk
  repeat (first | omega | split)
def mI (n : Nat) : Int32 := nI n - 1
theorem mI_s {n : Nat} (h : n + 1 < 2 ^ 30) : mI (n + 1) = nI n := nI_s1 h
theorem nI_mI (n : Nat) : nI n + (-1) = mI n := by unfold mI; rw [Int32.sub_eq_add_neg]
def CodeR (h : AH) (C : List Int32) : Prop := h.1 12 1 = nI C.length ∧ ∀ i, i < C.length → h.1 13 i = C.getD i 0
def WtR (h : AH) (W : List Int32) : Prop := ∀ i, i < W.length → h.1 14 i = W.getD (W.length - 1 - i) 0
theorem gD_app_l {C D : List Int32} {i : Nat} (h : i < C.length) : (C ++ D).getD i 0 = C.getD i 0 := by
  rw [List.getD_eq_getElem?_getD, List.getD_eq_getElem?_getD, List.getElem?_append_left h]
theorem gD_app_r {C : List Int32} {x : Int32} : (C ++ [x]).getD C.length 0 = x := by
  rw [List.getD_eq_getElem?_getD, List.getElem?_append_right (Nat.le_refl _), Nat.sub_self]
  rfl
theorem CodeR.fr {S : Nat → Nat → Prop} {h h' : AH} {C : List Int32} (T : CodeR h C) (F : Fr S h h') (hS : ∀ o k, (o = 12 ∧ k = 1) ∨ o = 13 → ¬ S o k) : CodeR h' C := ⟨by rw [F.1 12 1 (hS _ _ (by omega))]; exact T.1, fun i hi => by rw [F.1 13 i (hS _ _ (by omega))]; exact T.2 i hi⟩
theorem WtR.fr {S : Nat → Nat → Prop} {h h' : AH} {W : List Int32} (T : WtR h W) (F : Fr S h h') (hS : ∀ o k, o = 14 → ¬ S o k) : WtR h' W := fun i hi => by rw [F.1 14 i (hS _ _ rfl)]; exact T i hi
theorem c_emit {h : AH} {C : List Int32} {x : Int32} (T : CodeR h C) (hC : C.length < 121) : Ok (fX4_emit x h) (fun h' => CodeR h' (C ++ [x]) ∧ Fr (fun o k => (o = 12 ∧ k = 1) ∨ o = 13) h h') := by
  unfold fX4_emit
  rw [T.1]
  refine ok_f (by rw [show (121 : Int32) = nI 121 from rfl, nI_leI (by omega) (by omega)]; omega) (ok_t (inb_nI (by omega) (by decide)) (ok_let (ok_let (ok_some ?_))))
  rw [ix_nI (by omega), wI_rd, if_neg (by omega), T.1, nI_1]
  refine ⟨⟨?_, fun i hi => ?_⟩, (Fr.rf.w (Or.inr rfl)).w (Or.inl ⟨rfl, rfl⟩)⟩
  · rw [wI_rd, if_pos ⟨rfl, rfl⟩, List.length_append]; rfl
  · rw [List.length_append] at hi
    have hi : i < C.length + 1 := hi
    rw [wI_rd, if_neg (by omega), wI_rd]
    by_cases e : i = C.length
    · rw [if_pos ⟨rfl, e⟩, e, gD_app_r]
    · rw [if_neg (fun z => e z.2), gD_app_l (by omega)]
      exact T.2 i (by omega)
theorem c_await {h : AH} {W : List Int32} {x : Int32} (e3 : h.1 12 3 = nI W.length) (T : WtR h W) (hW : W.length < 120) : Ok (fX4_await x h) (fun h' => h'.1 12 3 = nI (x :: W).length ∧ WtR h' (x :: W) ∧ Fr (fun o k => (o = 12 ∧ k = 3) ∨ o = 14) h h') := by
  unfold fX4_await
  rw [e3]
  refine ok_f (by rw [show (120 : Int32) = nI 120 from rfl, nI_leI (by omega) (by omega)]; omega) (ok_t (inb_nI (by omega) (by decide)) (ok_let (ok_let (ok_some ?_))))
  have r3 : (wI h 14 W.length x).1 12 3 = nI W.length := by rw [wI_rd, if_neg (by omega)]; exact e3
  rw [ix_nI (by omega), r3, nI_1]
  refine ⟨?_, fun i hi => ?_, (Fr.rf.w (Or.inr rfl)).w (Or.inl ⟨rfl, rfl⟩)⟩
  · rw [wI_rd, if_pos ⟨rfl, rfl⟩]; rfl
  · have hi : i < W.length + 1 := hi
    rw [wI_rd, if_neg (by omega), wI_rd]
    by_cases e : i = W.length
    · rw [if_pos ⟨rfl, e⟩, e]
      show x = (x :: W).getD (W.length + 1 - 1 - W.length) 0
      rw [show W.length + 1 - 1 - W.length = 0 by omega]
      rfl
    · rw [if_neg (fun z => e z.2), T i (by omega)]
      show _ = (x :: W).getD (W.length + 1 - 1 - i) 0
      rw [show W.length + 1 - 1 - i = (W.length - 1 - i) + 1 by omega]
      rfl
theorem out_len (r : Nat) : ∀ W : List Int32, (out r W).length + (rst r W).length = W.length
  | [] => rfl
  | x :: W => by
    show (if r ≤ rk x then -x :: out r W else []).length + (if r ≤ rk x then rst r W else x :: W).length = _
    by_cases c : r ≤ rk x
    · rw [if_pos c, if_pos c]
      have := out_len r W
      show (out r W).length + 1 + _ = W.length + 1
      omega
    · rw [if_neg c, if_neg c]
      show 0 + _ = _
      omega
def Zr (o k : Nat) : Prop := (o = 12 ∧ (k = 1 ∨ k = 3)) ∨ o = 13
theorem WtR_tl {h : AH} {x : Int32} {W : List Int32} (T : WtR h (x :: W)) : WtR h W := fun i hi => by
  have := T i (by show i < W.length + 1; omega)
  rw [this]
  show (x :: W).getD (W.length + 1 - 1 - i) 0 = _
  rw [show W.length + 1 - 1 - i = (W.length - 1 - i) + 1 by omega]
  rfl
theorem c_release {h : AH} {C W : List Int32} {r : Nat} (hr : r ≤ 6) (T : CodeR h C) (e3 : h.1 12 3 = nI W.length) (V : WtR h W) (hb : C.length + W.length ≤ 121) (hW : W.length ≤ 120) : Ok (fX4_release (nI r) h) (fun q => q.1 = nI (out r W).length ∧ CodeR q.2 (C ++ out r W) ∧ q.2.1 12 3 = nI (rst r W).length ∧ WtR q.2 (rst r W) ∧ Fr Zr h q.2) := by
  unfold fX4_release
  refine ok_let ?_
  rw [e3, show nI W.length - 1 = mI W.length from rfl]
  have hl := out_len r W
  refine L3 (f := fX4_release_9 (nI r)) (b := fX4_release_9_b (nI r)) (fun _ => rfl) (fun q x1 x2 x3 h' => ∃ (p : Nat) (D Z : List Int32), q = Z.length ∧ x1 = nI r ∧ x2 = nI p ∧ x3 = mI Z.length ∧ CodeR h' (C ++ D) ∧ D.length = p ∧ p + Z.length = W.length ∧ D ++ out r Z = out r W ∧ rst r Z = rst r W ∧ WtR h' Z ∧ Fr (fun o k => (o = 12 ∧ k = 1) ∨ o = 13) h h') ?_ W.length FU (nI r) 0 (mI W.length) h (by unfold FU; omega) ⟨0, [], W, rfl, rfl, rfl, rfl, by rw [List.append_nil]; exact T, rfl, by omega, rfl, rfl, V, Fr.rf⟩
  rintro q x1 x2 x3 h' ⟨p, D, Z, rfl, rfl, rfl, rfl, T', hD, hp, eo, er, V', F⟩ Q hQ
  unfold fX4_release_9_b
  have fin : ∀ h1 : AH, h1 = h' → out r Z = [] → rst r Z = Z → Ok (fX4_release_46 (nI r) (nI p) h1) (fun q => q.1 = nI (out r W).length ∧ CodeR q.2 (C ++ out r W) ∧ q.2.1 12 3 = nI (rst r W).length ∧ WtR q.2 (rst r W) ∧ Fr Zr h q.2) := by
    intro h1 eh1 o1 o2
    subst eh1
    rw [o1, List.append_nil] at eo
    rw [o2] at er
    unfold fX4_release_46
    refine ok_let (ok_some ⟨?_, ?_, ?_, ?_, ?_⟩)
    · show nI p = _
      rw [← eo, hD]
    · rw [← eo]
      exact T'.fr ((Fr.rf (S := fun o k => o = 12 ∧ k = 3)).w ⟨rfl, rfl⟩) (fun o k q => by omega)
    · show (wI h1 12 3 _).1 12 3 = _
      rw [wI_rd, if_pos ⟨rfl, rfl⟩, F.1 12 3 (by omega), e3, nI_subN (by omega) (by omega), ← er]
      congr 1
      omega
    · rw [← er]
      exact V'.fr ((Fr.rf (S := fun o k => o = 12 ∧ k = 3)).w ⟨rfl, rfl⟩) (fun o k q => by omega)
    · exact (F.mono (fun o k q => by unfold Zr; omega)).w (by unfold Zr; omega)
  cases Z with
  | nil =>
    refine ok_t (by decide) (fin h' rfl rfl rfl)
  | cons x Z =>
    have hl2 : (x :: Z).length = Z.length + 1 := rfl
    have em : mI (x :: Z).length = nI Z.length := mI_s (by omega)
    rw [em]
    refine ok_f (by rw [show (0 : Int32) = nI 0 from rfl, nI_ltI (by omega) (by omega)]; omega) (ok_t (inb_nI (by omega) (by decide)) ?_)
    have ex : h'.1 14 Z.length = x := by
      rw [V' Z.length (by omega)]
      show (x :: Z).getD (Z.length + 1 - 1 - Z.length) 0 = x
      rw [show Z.length + 1 - 1 - Z.length = 0 by omega]
      rfl
    rw [ix_nI (by omega), ex, c_rank, b2_some]
    have eo' : D ++ (if r ≤ rk x then -x :: out r Z else []) = out r W := eo
    have er' : (if r ≤ rk x then rst r Z else x :: Z) = rst r W := er
    have := rk_le x
    refine ok_if (fun d1 => ?_) (fun d1 => ?_)
    · rw [nI_ltI (by omega) (by omega)] at d1
      exact fin h' rfl (if_neg (by omega)) (if_neg (by omega))
    · rw [nI_ltI (by omega) (by omega)] at d1
      rw [if_pos (by omega)] at eo' er'
      rw [ex]
      refine ok_bV (c_emit T' (by rw [List.length_append]; omega)) (fun h2 hh => ?_)
      rw [nI_1, nI_mI Z.length]
      exact hQ Z.length _ _ _ _ (by omega) ⟨p + 1, D ++ [-x], Z, rfl, rfl, rfl, rfl, by rw [← List.append_assoc]; exact hh.1, by rw [List.length_append, hD]; rfl, by omega, by rw [List.append_assoc]; exact eo', er', (WtR_tl V').fr hh.2 (fun o k q => by omega), F.tr hh.2⟩
