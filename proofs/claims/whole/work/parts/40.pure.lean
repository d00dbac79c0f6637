/-! ===== pure part: basics ===== -/
def Ok {α : Type} (o : Option α) (P : α → Prop) : Prop := ∃ x, o = some x ∧ P x
theorem ok_some {α : Type} {x : α} {P : α → Prop} (h : P x) : Ok (some x) P := ⟨x, rfl, h⟩
theorem ok_mono {α : Type} {o : Option α} {P Q : α → Prop} (h : Ok o P) (hpq : ∀ x, P x → Q x) : Ok o Q := by
  obtain ⟨x, e, p⟩ := h
  exact ⟨x, e, hpq x p⟩
theorem ok_b2 {α β : Type} {o : Option (α × AH)} {f : α → AH → Option β} {P : β → Prop} {Q : α × AH → Prop} (ho : Ok o Q) (hf : ∀ r h, Q (r, h) → Ok (f r h) P) : Ok (bind2 o f) P := by
  obtain ⟨⟨r, h⟩, e, q⟩ := ho
  subst e
  exact hf r h q
theorem ok_bV {β : Type} {o : Option AH} {f : AH → Option β} {P : β → Prop} {Q : AH → Prop} (ho : Ok o Q) (hf : ∀ h, Q h → Ok (f h) P) : Ok (bindV o f) P := by
  obtain ⟨h, e, q⟩ := ho
  subst e
  exact hf h q
theorem ok_if {α : Type} {c : Prop} {i : Decidable c} {a b : Option α} {P : α → Prop} (ht : c → Ok a P) (hf : ¬ c → Ok b P) : Ok (if c then a else b) P := by
  by_cases h : c
  · rw [if_pos h]; exact ht h
  · rw [if_neg h]; exact hf h
theorem ok_t {α : Type} {c : Prop} {i : Decidable c} {a b : Option α} {P : α → Prop} (h : c) (ht : Ok a P) : Ok (if c then a else b) P := by rw [if_pos h]; exact ht
theorem ok_f {α : Type} {c : Prop} {i : Decidable c} {a b : Option α} {P : α → Prop} (h : ¬ c) (hf : Ok b P) : Ok (if c then a else b) P := by rw [if_neg h]; exact hf
theorem ok_let {α β : Type} {x : α} {f : α → Option β} {P : β → Prop} (h : Ok (f x) P) : Ok (letV x f) P := h
theorem b2_some {α β : Type} {r : α} {h : AH} {f : α → AH → Option β} : bind2 (some (r, h)) f = f r h := rfl
theorem bV_some {β : Type} {h : AH} {f : AH → Option β} : bindV (some h) f = f h := rfl
theorem let_eq {α β : Type} {x : α} {f : α → β} : letV x f = f x := rfl
/-! reads of written heaps -/
theorem wI_rd (h : AH) (o k : Nat) (v : Int32) (o' k' : Nat) : (wI h o k v).1 o' k' = if o' = o ∧ k' = k then v else h.1 o' k' := by
  unfold wI upO upd
  by_cases ho : o' = o
  · subst ho
    by_cases hk : k' = k
    · subst hk; simp
    · simp [hk]
  · simp [ho]
theorem wI_2 (h : AH) (o k : Nat) (v : Int32) : (wI h o k v).2 = h.2 := rfl
theorem wL_1 (h : AH) (o k : Nat) (v : Int64) : (wL h o k v).1 = h.1 := rfl
theorem wL_rd (h : AH) (o k : Nat) (v : Int64) (o' k' : Nat) : (wL h o k v).2 o' k' = if o' = o ∧ k' = k then v else h.2 o' k' := by
  unfold wL upL vp_updL
  by_cases ho : o' = o
  · subst ho
    by_cases hk : k' = k
    · subst hk; simp
    · simp [hk]
  · simp [ho]
theorem cpI_rd (h : AH) (a sp b dp n o k : Nat) : (cpI h a sp b dp n).1 o k = if o = b ∧ dp ≤ k ∧ k < dp + n then h.1 a (sp + (k - dp)) else h.1 o k := by
  unfold cpI upO va_cpy
  by_cases ho : o = b
  · subst ho
    by_cases hk : dp ≤ k ∧ k < dp + n
    · simp [hk]
    · simp [hk]
  · simp [ho]
theorem cpI_2 (h : AH) (a sp b dp n : Nat) : (cpI h a sp b dp n).2 = h.2 := rfl
theorem cpL_1 (h : AH) (a sp b dp n : Nat) : (cpL h a sp b dp n).1 = h.1 := rfl
theorem cpL_rd (h : AH) (a sp b dp n o k : Nat) : (cpL h a sp b dp n).2 o k = if o = b ∧ dp ≤ k ∧ k < dp + n then h.2 a (sp + (k - dp)) else h.2 o k := by
  unfold cpL upL va_cpy
  by_cases ho : o = b
  · subst ho
    by_cases hk : dp ≤ k ∧ k < dp + n
    · simp [hk]
    · simp [hk]
  · simp [ho]
/-! numbers -/
theorem inb_iff {i : Int32} {n : Nat} : inb i n = true ↔ 0 ≤ i.toInt ∧ i.toInt < n := by simp [inb]
theorem ix_eq (i : Int32) : ix i = i.toInt.toNat := rfl
theorem inb_nI {i n : Nat} (h : i < n) (hn : n < 2 ^ 31) : inb (nI i) n = true := inb_iff.mpr (by rw [nI_toInt (by omega)]; omega)
theorem ix_nI {i : Nat} (h : i < 2 ^ 31) : ix (nI i) = i := nI_clamp h
theorem i_lt {x y : Int32} : x < y ↔ x.toInt < y.toInt := Int32.lt_iff_toInt_lt
theorem i_le {x y : Int32} : x ≤ y ↔ x.toInt ≤ y.toInt := Int32.le_iff_toInt_le
theorem i_eq {x y : Int32} : x = y ↔ x.toInt = y.toInt := Int32.toInt_inj.symm
theorem nI_ex {x : Int32} {n : Nat} (h0 : 0 ≤ x.toInt) (h1 : x.toInt < n) (hn : n < 2 ^ 31) : ∃ j : Nat, j < n ∧ x = nI j :=
  ⟨x.toInt.toNat, by omega, i_eq.mpr (by rw [nI_toInt (by omega)]; omega)⟩
theorem nI_inj {a b : Nat} (ha : a < 2 ^ 31) (hb : b < 2 ^ 31) (h : nI a = nI b) : a = b := (nI_eq ha hb).mp h
theorem inb_ex {x : Int32} {n : Nat} (h : inb x n = true) (hn : n < 2 ^ 31) : ∃ j : Nat, j < n ∧ x = nI j := by
  have := inb_iff.mp h
  exact nI_ex this.1 this.2 hn
theorem at6 {i k : Nat} {K : Int32} (hK : K = nI k) (hi : i < 9) (hk : k < 6) : inb (6 * nI i + K) 94 = true ∧ ix (6 * nI i + K) = 6 * i + k := by
  have e : (6 : Int32) * nI i + K = nI (6 * i + k) := by
    rw [hK, show (6 : Int32) = nI 6 from rfl, pk_mul, nI_add]
  rw [e]
  exact ⟨inb_nI (by omega) (by decide), ix_nI (by omega)⟩
theorem m_number {i k : Nat} {K : Int32} (hK : K = nI k) (hi : i < 9) (hk : k < 6) (h : AH) : fX10_number (nI i) K h = some (h.1 60 (6 * i + k), h) := by
  unfold fX10_number
  rw [if_pos (at6 hK hi hk).1, (at6 hK hi hk).2]
theorem m_change {i k : Nat} {K v : Int32} (hK : K = nI k) (hi : i < 9) (hk : k < 6) (h : AH) : fX10_change (nI i) K v h = some (wI h 60 (6 * i + k) v) := by
  unfold fX10_change
  rw [if_pos (at6 hK hi hk).1, (at6 hK hi hk).2]
  rfl
theorem m_isHere {i : Nat} (hi : i < 9) (h : AH) : fX10_isHere (nI i) h = some (if h.1 60 (6 * i + 5) = 0 then 1 else 0, h) := by
  unfold fX10_isHere
  rw [m_number (K := 5) (k := 5) rfl hi (by decide), b2_some]
  split <;> rfl
theorem m_isIn (v a b : Int32) (h : AH) : fX10_isIn v a b h = some (if a.toInt ≤ v.toInt ∧ v.toInt ≤ b.toInt then 1 else 0, h) := by
  unfold fX10_isIn
  simp only [i_lt]
  by_cases h1 : v.toInt < a.toInt
  · rw [if_pos h1, if_neg (by omega)]
  · rw [if_neg h1]
    by_cases h2 : b.toInt < v.toInt
    · rw [if_pos h2, if_neg (by omega)]
    · rw [if_neg h2, if_pos (by omega)]
theorem c_isWithin {v : Int32} {k : Nat} {K : Int32} (hK : K = nI k) (hk : k < 9) (h : AH) : fX9_isWithin v K h = some (if (ST 200 k).toInt ≤ v.toInt ∧ v.toInt ≤ (ST 201 k).toInt then 1 else 0, h) := by
  have e0 : K.toInt = k := by rw [hK, nI_toInt (by omega)]
  unfold fX9_isWithin
  rw [if_neg (by rw [i_lt, e0]; simp), if_neg (by rw [i_le, e0]; simp; omega), if_pos (by rw [hK]; exact inb_nI hk (by decide))]
  have e1 : ix K = k := by rw [hK]; exact ix_nI (by omega)
  rw [e1]
  simp only [i_lt]
  by_cases h1 : v.toInt < (ST 200 k).toInt
  · rw [if_pos h1, if_neg (by omega)]
  · rw [if_neg h1]
    by_cases h2 : (ST 201 k).toInt < v.toInt
    · rw [if_pos h2, if_neg (by omega)]
    · rw [if_neg h2, if_pos (by omega)]
theorem m_bound (v a b : Int32) (h : AH) : fX10_bound v a b h = some (jmax a (jmin b v), h) := rfl
