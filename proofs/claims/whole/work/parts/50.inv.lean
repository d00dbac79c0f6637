/-! ===== the relation that every call keeps ===== -/
def rgK (k : Nat) (v : Int32) : Prop := (ST 200 k).toInt ≤ v.toInt ∧ v.toInt ≤ (ST 201 k).toInt
def WF (n m : Nat) (num sl : Nat → Nat → Int32) (mn : Int32) : Prop := n ≤ 9 ∧ m ≤ 12 ∧ (∀ i, i < n → ∀ k, k < 6 → rgK k (num i k)) ∧ (∀ s, s < m → rgK 6 (sl s 0) ∧ rgK 7 (sl s 1) ∧ ∃ j, j < n ∧ sl s 2 = nI j) ∧ rgK 8 mn
def TI (h : AH) (n m : Nat) (num sl : Nat → Nat → Int32) (mn : Int32) : Prop := WF n m num sl mn ∧ CRep 1 h n m num sl mn ∧ (∀ i, i < n → h.1 6 i = num i 4) ∧ h.1 59 2 = nI n ∧ (∀ i, i < n → ∀ k, k < 6 → h.1 60 (6 * i + k) = num i k) ∧ h.1 60 93 = mn ∧ h.1 59 23 = -1 ∧ h.1 59 3 = nI m ∧ (∀ s, s < m → ∀ j, j < 3 → h.1 60 (54 + 3 * s + j) = sl s j)
def Tape (h : AH) : Prop := ∃ L, L ≤ 120 ∧ h.1 0 2 = nI L ∧ h.1 59 12 = nI L ∧ ∀ k, k < L → h.1 67 k = h.1 11 k ∧ 0 ≤ (h.1 11 k).toInt ∧ (h.1 11 k).toInt ≤ 255
def Led (h : AH) : Prop := ∀ k, k < 5 → h.1 79 k = h.1 32 k
def Img (h : AH) (n : Nat) : Prop := h.1 59 39 = h.1 33 6 ∧ (h.1 33 6 = 0 ∨ (h.1 33 6 = 1 ∧ ∃ c, c ≤ n ∧ h.1 33 4 = nI c ∧ h.1 59 38 = nI c ∧ rgK 8 (h.1 33 5) ∧ h.1 80 93 = h.1 33 5 ∧ (∀ i, i < c → h.1 80 (6 * i) = h.1 34 i ∧ h.1 80 (6 * i + 2) = h.1 35 i ∧ h.1 80 (6 * i + 5) = h.1 36 i ∧ rgK 0 (h.1 34 i) ∧ rgK 2 (h.1 35 i) ∧ rgK 5 (h.1 36 i)) ∧ ∀ k, k < 5 → h.1 81 k = h.1 37 k))
def vld (n m a w : Nat) : Prop := (w < 6 ∧ a < n) ∨ ((w = 6 ∨ w = 7) ∧ a < m) ∨ (w = 8 ∧ a = 0)
def plc (a w : Nat) : Nat := if w = 8 then 93 else if w = 6 ∨ w = 7 then 54 + 3 * a + (w - 6) else 6 * a + w
def ChgE (h : AH) (n m i : Nat) : Prop := ∃ a w, h.1 39 i = nI a ∧ h.1 40 i = nI w ∧ vld n m a w ∧ h.1 62 i = nI (plc a w) ∧ h.1 63 i = h.1 41 i ∧ h.1 64 i = h.1 42 i ∧ rgK w (h.1 41 i) ∧ rgK w (h.1 42 i)
def Chg (h : AH) (n m : Nat) : Prop := ∃ d kn, d ≤ kn ∧ kn ≤ 40 ∧ h.1 38 5 = nI d ∧ h.1 38 4 = nI kn ∧ h.1 59 7 = nI d ∧ h.1 59 8 = nI kn ∧ ∀ i, i < kn → ChgE h n m i
def Hk (h : AH) (B : Nat) : Prop := B ≤ 50 ∧ h.1 43 1 = nI B ∧ h.1 59 43 = nI B ∧ (∀ i, i < B → h.1 84 i = h.1 44 i ∧ ∃ q, q < 8 ∧ h.1 44 i = nI q) ∧ (∃ R, R ≤ 1000 ∧ h.1 43 3 = nI R ∧ h.1 59 45 = nI R) ∧ ∀ i, i < 24 → h.1 85 i = h.1 45 i
def Shl (h : AH) (B s : Nat) : Prop := ((h.1 (47 + 2 * s) 0 = 0 ∧ h.1 75 s = -1) ∨ (h.1 (47 + 2 * s) 0 = 1 ∧ ∃ b, b < B ∧ h.1 (47 + 2 * s) 1 = nI b ∧ h.1 75 s = nI (10 + b)) ∨ (h.1 (47 + 2 * s) 0 = 2 ∧ ∃ q, q < 5 ∧ h.1 (47 + 2 * s) 2 = nI q ∧ h.1 75 s = nI q ∧ (q = 0 → ∀ i, i < 60 → (h.2 (48 + 2 * s) i).toInt32.toInt64 = h.2 (48 + 2 * s) i))) ∧
  (∃ z, z ≤ 60 ∧ h.1 (47 + 2 * s) 3 = nI z ∧ h.1 76 s = nI z) ∧ ∀ i, i < 60 → h.2 77 (60 * s + i) = h.2 (48 + 2 * s) i
def mAbv : List Int32 := [-1, 0, 0, 2, 1, 3, 0, 4]
def mLet : List Int32 := [114, 108, 104, 109, 110, 103]
def Cst (h : AH) : Prop := (∀ k, k < 9 → h.1 65 k = ST 200 k ∧ h.1 66 k = ST 201 k) ∧ (∀ k, k < 6 → h.1 71 k = mLet.getD k 0) ∧ (∀ k, k < 8 → h.1 82 k = mAbv.getD k 0) ∧ (∀ k, k < 32 → h.1 83 k = ST 203 k)
def Oth (h : AH) (n m B : Nat) (Λ : LawF) : Prop := Tape h ∧ Led h ∧ Img h n ∧ Chg h n m ∧ Hk h B ∧ (∀ s, s < 6 → Shl h B s) ∧ Cst h ∧ CL h Λ ∧ ML h Λ ∧ inR Λ
def Inv (h : AH) : Prop := ∃ (n m B : Nat) (num sl : Nat → Nat → Int32) (mn : Int32) (Λ : LawF), TI h n m num sl mn ∧ Oth h n m B Λ
/-- what both sides answer alike, and keep the relation -/
def Sim {α : Type} (f g : AH → Option (α × AH)) : Prop := ∀ h, Inv h → ∃ r h1 h2, f h = some (r, h1) ∧ g h1 = some (r, h2) ∧ Inv h2
theorem sim_of {α : Type} {f g : AH → Option (α × AH)} (H : ∀ (n m B : Nat) (num sl : Nat → Nat → Int32) (mn : Int32) (Λ : LawF) (h : AH), TI h n m num sl mn → Oth h n m B Λ → Ok (f h) (fun q => Ok (g q.2) (fun q2 => q.1 = q2.1 ∧ Inv q2.2))) : Sim f g := by
  rintro h ⟨n, m, B, num, sl, mn, Λ, hT, hO⟩
  obtain ⟨⟨r, h1⟩, e1, ⟨r2, h2⟩, e2, e3, hI⟩ := H n m B num sl mn Λ h hT hO
  have e3 : r = r2 := e3
  subst e3
  exact ⟨r, h1, h2, e1, e2, hI⟩
theorem TI.m {h : AH} {n m : Nat} {num sl : Nat → Nat → Int32} {mn : Int32} (T : TI h n m num sl mn) : MRep h n m num sl mn := ⟨T.2.2.2.1, T.2.2.2.2.1, T.2.2.2.2.2.1, Or.inl ⟨T.2.2.2.2.2.2.1, T.2.2.2.2.2.2.2.1, T.2.2.2.2.2.2.2.2⟩⟩
theorem TI.c {h : AH} {n m : Nat} {num sl : Nat → Nat → Int32} {mn : Int32} (T : TI h n m num sl mn) : CRep 1 h n m num sl mn := T.2.1
theorem TI.n9 {h : AH} {n m : Nat} {num sl : Nat → Nat → Int32} {mn : Int32} (T : TI h n m num sl mn) : n ≤ 9 := T.1.1
theorem TI.m12 {h : AH} {n m : Nat} {num sl : Nat → Nat → Int32} {mn : Int32} (T : TI h n m num sl mn) : m ≤ 12 := T.1.2.1
theorem TI.by {h : AH} {n m : Nat} {num sl : Nat → Nat → Int32} {mn : Int32} (T : TI h n m num sl mn) : ∀ s, s < m → ∃ j, j < n ∧ sl s 2 = nI j := fun s hs => (T.1.2.2.2.1 s hs).2.2
theorem rg5 {v : Int32} (h : rgK 5 v) : v = 0 ∨ v = 1 := by
  unfold rgK at h
  have e1 : (ST 200 5).toInt = 0 := by decide +kernel
  have e2 : (ST 201 5).toInt = 1 := by decide +kernel
  rw [e1, e2] at h
  rw [i_eq, i_eq]
  have e3 : (0 : Int32).toInt = 0 := by decide
  have e4 : (1 : Int32).toInt = 1 := by decide
  rw [e3, e4]
  omega
theorem TI.gone {h : AH} {n m : Nat} {num sl : Nat → Nat → Int32} {mn : Int32} (T : TI h n m num sl mn) : goneOK n num := fun i hi => rg5 (T.1.2.2.1 i hi 5 (by decide))
/-! frames of the parts -/
theorem TI.fr {S : Nat → Nat → Prop} {h h' : AH} {n m : Nat} {num sl : Nat → Nat → Int32} {mn : Int32} (T : TI h n m num sl mn) (F : Fr S h h') (hS : ∀ o k, (1 ≤ o ∧ o ≤ 10) ∨ (o = 59 ∧ (k = 2 ∨ k = 3 ∨ k = 23)) ∨ o = 60 → ¬ S o k) : TI h' n m num sl mn := by
  obtain ⟨a, b, c, d, e, f, g, i, j⟩ := T
  refine ⟨a, b.fr F (fun o k h1 h2 => hS o k (by omega)), fun i hi => (F.1 _ _ (hS _ _ (by omega))).trans (c i hi), (F.1 _ _ (hS _ _ (by omega))).trans d, fun i hi k hk => (F.1 _ _ (hS _ _ (by omega))).trans (e i hi k hk), (F.1 _ _ (hS _ _ (by omega))).trans f, (F.1 _ _ (hS _ _ (by omega))).trans g, (F.1 _ _ (hS _ _ (by omega))).trans i, fun s hs k hk => (F.1 _ _ (hS _ _ (by omega))).trans (j s hs k hk)⟩
theorem Tape.fr {S : Nat → Nat → Prop} {h h' : AH} (T : Tape h) (F : Fr S h h') (hS : ∀ o k, (o = 0 ∧ k = 2) ∨ o = 11 ∨ o = 67 ∨ (o = 59 ∧ k = 12) → ¬ S o k) : Tape h' := by
  obtain ⟨L, a, b, c, d⟩ := T
  refine ⟨L, a, (F.1 _ _ (hS _ _ (by omega))).trans b, (F.1 _ _ (hS _ _ (by omega))).trans c, fun k hk => ?_⟩
  rw [F.1 67 k (hS _ _ (by omega)), F.1 11 k (hS _ _ (by omega))]
  exact d k hk
theorem Led.fr {S : Nat → Nat → Prop} {h h' : AH} (T : Led h) (F : Fr S h h') (hS : ∀ o k, o = 32 ∨ o = 79 → ¬ S o k) : Led h' := fun k hk => by
  rw [F.1 79 k (hS _ _ (by omega)), F.1 32 k (hS _ _ (by omega))]
  exact T k hk
theorem Img.fr {S : Nat → Nat → Prop} {h h' : AH} {n n' : Nat} (T : Img h n) (hn : n ≤ n') (F : Fr S h h') (hS : ∀ o k, (33 ≤ o ∧ o ≤ 37) ∨ o = 80 ∨ o = 81 ∨ (o = 59 ∧ (k = 38 ∨ k = 39)) → ¬ S o k) : Img h' n' := by
  obtain ⟨a, b⟩ := T
  have e : ∀ o k, (33 ≤ o ∧ o ≤ 37) ∨ o = 80 ∨ o = 81 ∨ (o = 59 ∧ (k = 38 ∨ k = 39)) → h'.1 o k = h.1 o k := fun o k q => F.1 o k (hS o k q)
  refine ⟨by rw [e 59 39 (by omega), e 33 6 (by omega)]; exact a, ?_⟩
  rw [e 33 6 (by omega)]
  rcases b with b | ⟨b, c, h1, h2, h3, h4, h5, h6, h7⟩
  · exact Or.inl b
  · refine Or.inr ⟨b, c, by omega, ?_, ?_, ?_, ?_, fun i hi => ?_, fun k hk => ?_⟩
    · rw [e 33 4 (by omega)]; exact h2
    · rw [e 59 38 (by omega)]; exact h3
    · rw [e 33 5 (by omega)]; exact h4
    · rw [e 80 93 (by omega), e 33 5 (by omega)]; exact h5
    · rw [e 80 _ (by omega), e 80 _ (by omega), e 80 _ (by omega), e 34 _ (by omega), e 35 _ (by omega), e 36 _ (by omega)]; exact h6 i hi
    · rw [e 81 _ (by omega), e 37 _ (by omega)]; exact h7 k hk
theorem ChgE.fr {S : Nat → Nat → Prop} {h h' : AH} {n m n' m' i : Nat} (T : ChgE h n m i) (hn : n ≤ n') (hm : m ≤ m') (F : Fr S h h') (hS : ∀ o k, (39 ≤ o ∧ o ≤ 42) ∨ (62 ≤ o ∧ o ≤ 64) → ¬ S o k) : ChgE h' n' m' i := by
  obtain ⟨x, w, h1, h2, h3, h4, h5, h6, h7, h8⟩ := T
  have e : ∀ o k, (39 ≤ o ∧ o ≤ 42) ∨ (62 ≤ o ∧ o ≤ 64) → h'.1 o k = h.1 o k := fun o k q => F.1 o k (hS o k q)
  refine ⟨x, w, ?_, ?_, ?_, ?_, ?_, ?_, ?_, ?_⟩
  · rw [e 39 _ (by omega)]; exact h1
  · rw [e 40 _ (by omega)]; exact h2
  · unfold vld at *; omega
  · rw [e 62 _ (by omega)]; exact h4
  · rw [e 63 _ (by omega), e 41 _ (by omega)]; exact h5
  · rw [e 64 _ (by omega), e 42 _ (by omega)]; exact h6
  · rw [e 41 _ (by omega)]; exact h7
  · rw [e 42 _ (by omega)]; exact h8
theorem Chg.fr {S : Nat → Nat → Prop} {h h' : AH} {n m n' m' : Nat} (T : Chg h n m) (hn : n ≤ n') (hm : m ≤ m') (F : Fr S h h') (hS : ∀ o k, (38 ≤ o ∧ o ≤ 42) ∨ (62 ≤ o ∧ o ≤ 64) ∨ (o = 59 ∧ (k = 7 ∨ k = 8)) → ¬ S o k) : Chg h' n' m' := by
  obtain ⟨d, kn, a, b, c1, c2, c3, c4, c5⟩ := T
  refine ⟨d, kn, a, b, (F.1 _ _ (hS _ _ (by omega))).trans c1, (F.1 _ _ (hS _ _ (by omega))).trans c2, (F.1 _ _ (hS _ _ (by omega))).trans c3, (F.1 _ _ (hS _ _ (by omega))).trans c4, fun i hi => (c5 i hi).fr hn hm F (fun o k q => hS o k (by omega))⟩
theorem Hk.fr {S : Nat → Nat → Prop} {h h' : AH} {B : Nat} (T : Hk h B) (F : Fr S h h') (hS : ∀ o k, (43 ≤ o ∧ o ≤ 45) ∨ o = 84 ∨ o = 85 ∨ (o = 59 ∧ (k = 43 ∨ k = 45)) → ¬ S o k) : Hk h' B := by
  obtain ⟨a, b, c, d, ⟨R, e1, e2, e3⟩, f⟩ := T
  have e : ∀ o k, (43 ≤ o ∧ o ≤ 45) ∨ o = 84 ∨ o = 85 ∨ (o = 59 ∧ (k = 43 ∨ k = 45)) → h'.1 o k = h.1 o k := fun o k q => F.1 o k (hS o k q)
  refine ⟨a, (e 43 1 (by omega)).trans b, (e 59 43 (by omega)).trans c, fun i hi => ?_, ⟨R, e1, (e 43 3 (by omega)).trans e2, (e 59 45 (by omega)).trans e3⟩, fun i hi => ?_⟩
  · rw [e 84 i (by omega), e 44 i (by omega)]; exact d i hi
  · rw [e 85 i (by omega), e 45 i (by omega)]; exact f i hi
theorem Shl.fr {S : Nat → Nat → Prop} {h h' : AH} {B B' s : Nat} (T : Shl h B s) (hB : B ≤ B') (hs : s < 6) (F : Fr S h h') (hS : ∀ o k, (47 ≤ o ∧ o ≤ 58) ∨ o = 75 ∨ o = 76 → ¬ S o k) : Shl h' B' s := by
  obtain ⟨a, ⟨z, b1, b2, b3⟩, c⟩ := T
  have e : ∀ o k, (47 ≤ o ∧ o ≤ 58) ∨ o = 75 ∨ o = 76 → h'.1 o k = h.1 o k := fun o k q => F.1 o k (hS o k q)
  have e2 := F.2
  refine ⟨?_, ⟨z, b1, (e _ _ (by omega)).trans b2, (e _ _ (by omega)).trans b3⟩, fun i hi => by rw [e2]; exact c i hi⟩
  rw [e2, e (47 + 2 * s) 0 (by omega), e (47 + 2 * s) 1 (by omega), e (47 + 2 * s) 2 (by omega), e 75 s (by omega)]
  rcases a with a | ⟨a, b, h1, h2, h3⟩ | a
  · exact Or.inl a
  · exact Or.inr (Or.inl ⟨a, b, by omega, h2, h3⟩)
  · exact Or.inr (Or.inr a)
theorem Cst.fr {S : Nat → Nat → Prop} {h h' : AH} (T : Cst h) (F : Fr S h h') (hS : ∀ o k, o = 65 ∨ o = 66 ∨ o = 71 ∨ o = 82 ∨ o = 83 → ¬ S o k) : Cst h' := by
  obtain ⟨a, b, c, d⟩ := T
  have e : ∀ o k, o = 65 ∨ o = 66 ∨ o = 71 ∨ o = 82 ∨ o = 83 → h'.1 o k = h.1 o k := fun o k q => F.1 o k (hS o k q)
  refine ⟨fun k hk => ?_, fun k hk => ?_, fun k hk => ?_, fun k hk => ?_⟩
  · rw [e 65 k (by omega), e 66 k (by omega)]; exact a k hk
  · rw [e 71 k (by omega)]; exact b k hk
  · rw [e 82 k (by omega)]; exact c k hk
  · rw [e 83 k (by omega)]; exact d k hk
/-- the points on which the rest rests -/
def PO (o k : Nat) : Prop := (o = 0 ∧ k = 2) ∨ o = 11 ∨ (o = 15 ∧ k = 1) ∨ o = 16 ∨ (32 ≤ o ∧ o ≤ 58) ∨ (o = 59 ∧ (k = 7 ∨ k = 8 ∨ k = 12 ∨ k = 14 ∨ k = 15 ∨ k = 38 ∨ k = 39 ∨ k = 43 ∨ k = 45)) ∨ (62 ≤ o ∧ o ≤ 68) ∨ o = 71 ∨ (75 ≤ o ∧ o ≤ 85)
theorem Oth.fr {S : Nat → Nat → Prop} {h h' : AH} {n m B n' m' : Nat} {Λ : LawF} (T : Oth h n m B Λ) (hn : n ≤ n') (hm : m ≤ m') (F : Fr S h h') (hS : ∀ o k, PO o k → ¬ S o k) : Oth h' n' m' B Λ := by
  obtain ⟨a, b, c, d, e, f, g, i, j, l⟩ := T
  unfold PO at hS
  exact ⟨a.fr F (fun o k q => hS o k (by omega)), b.fr F (fun o k q => hS o k (by omega)), c.fr hn F (fun o k q => hS o k (by omega)), d.fr hn hm F (fun o k q => hS o k (by omega)), e.fr F (fun o k q => hS o k (by omega)), fun s hs => (f s hs).fr (Nat.le_refl B) hs F (fun o k q => hS o k (by omega)), g.fr F (fun o k q => hS o k (by omega)), i.fr F (fun o k q => hS o k (by omega)), j.fr F (fun o k q => hS o k (by omega)), l⟩
/-- scratch: what no answer rests on -/
def Scr (o k : Nat) : Prop := (12 ≤ o ∧ o ≤ 14) ∨ (o = 15 ∧ k = 3) ∨ (17 ≤ o ∧ o ≤ 31) ∨ (o = 59 ∧ ((17 ≤ k ∧ k ≤ 20) ∨ k = 24 ∨ k = 25 ∨ k = 29 ∨ k = 34)) ∨ o = 61 ∨ o = 69 ∨ o = 70 ∨ (72 ≤ o ∧ o ≤ 74)
theorem scr_t {h h' : AH} {n m B : Nat} {num sl : Nat → Nat → Int32} {mn : Int32} {Λ : LawF} (T : TI h n m num sl mn) (O : Oth h n m B Λ) (F : Fr Scr h h') : TI h' n m num sl mn ∧ Oth h' n m B Λ :=
  ⟨T.fr F (fun o k q z => by unfold Scr at z; omega), O.fr (Nat.le_refl n) (Nat.le_refl m) F (fun o k q z => by unfold PO at q; unfold Scr at z; omega)⟩
theorem St_scr (o k : Nat) (h : St o k) : Scr o k := by unfold St Sr at h; unfold Scr; omega
theorem Sq_scr (o k : Nat) (h : Sq o k) : Scr o k := by unfold Sq Sl Sg at h; unfold Scr; omega
