/-! loops: one obligation -/
theorem L1 {α : Type} {f : Nat → Int32 → AH → Option α} {b : (Int32 → AH → Option α) → Int32 → AH → Option α} {P : α → Prop} (hf : ∀ F, f (F + 1) = b (f F)) (I : Nat → Int32 → AH → Prop)
    (hs : ∀ r x h, I r x h → ∀ Q : Int32 → AH → Option α, (∀ r' x' h', r' < r → I r' x' h' → Ok (Q x' h') P) → Ok (b Q x h) P) : ∀ r F x h, r < F → I r x h → Ok (f F x h) P := by
  intro r
  induction r using Nat.strongRecOn with
  | _ r ih =>
    intro F x h hF hI
    obtain ⟨F, rfl⟩ : ∃ F', F = F' + 1 := ⟨F - 1, by omega⟩
    rw [hf F]
    exact hs r x h hI (f F) (fun r' x' h' hr hi => ih r' hr F x' h' (by omega) hi)
theorem L2 {α : Type} {f : Nat → Int32 → Int32 → AH → Option α} {b : (Int32 → Int32 → AH → Option α) → Int32 → Int32 → AH → Option α} {P : α → Prop} (hf : ∀ F, f (F + 1) = b (f F)) (I : Nat → Int32 → Int32 → AH → Prop)
    (hs : ∀ r x y h, I r x y h → ∀ Q : Int32 → Int32 → AH → Option α, (∀ r' x' y' h', r' < r → I r' x' y' h' → Ok (Q x' y' h') P) → Ok (b Q x y h) P) : ∀ r F x y h, r < F → I r x y h → Ok (f F x y h) P := by
  intro r
  induction r using Nat.strongRecOn with
  | _ r ih =>
    intro F x y h hF hI
    obtain ⟨F, rfl⟩ : ∃ F', F = F' + 1 := ⟨F - 1, by omega⟩
    rw [hf F]
    exact hs r x y h hI (f F) (fun r' x' y' h' hr hi => ih r' hr F x' y' h' (by omega) hi)
theorem L3 {α : Type} {f : Nat → Int32 → Int32 → Int32 → AH → Option α} {b : (Int32 → Int32 → Int32 → AH → Option α) → Int32 → Int32 → Int32 → AH → Option α} {P : α → Prop} (hf : ∀ F, f (F + 1) = b (f F)) (I : Nat → Int32 → Int32 → Int32 → AH → Prop)
    (hs : ∀ r x y z h, I r x y z h → ∀ Q : Int32 → Int32 → Int32 → AH → Option α, (∀ r' x' y' z' h', r' < r → I r' x' y' z' h' → Ok (Q x' y' z' h') P) → Ok (b Q x y z h) P) : ∀ r F x y z h, r < F → I r x y z h → Ok (f F x y z h) P := by
  intro r
  induction r using Nat.strongRecOn with
  | _ r ih =>
    intro F x y z h hF hI
    obtain ⟨F, rfl⟩ : ∃ F', F = F' + 1 := ⟨F - 1, by omega⟩
    rw [hf F]
    exact hs r x y z h hI (f F) (fun r' x' y' z' h' hr hi => ih r' hr F x' y' z' h' (by omega) hi)
theorem L4 {α : Type} {f : Nat → Int32 → Int32 → Int32 → Int32 → AH → Option α} {b : (Int32 → Int32 → Int32 → Int32 → AH → Option α) → Int32 → Int32 → Int32 → Int32 → AH → Option α} {P : α → Prop} (hf : ∀ F, f (F + 1) = b (f F)) (I : Nat → Int32 → Int32 → Int32 → Int32 → AH → Prop)
    (hs : ∀ r x y z w h, I r x y z w h → ∀ Q : Int32 → Int32 → Int32 → Int32 → AH → Option α, (∀ r' x' y' z' w' h', r' < r → I r' x' y' z' w' h' → Ok (Q x' y' z' w' h') P) → Ok (b Q x y z w h) P) : ∀ r F x y z w h, r < F → I r x y z w h → Ok (f F x y z w h) P := by
  intro r
  induction r using Nat.strongRecOn with
  | _ r ih =>
    intro F x y z w h hF hI
    obtain ⟨F, rfl⟩ : ∃ F', F = F' + 1 := ⟨F - 1, by omega⟩
    rw [hf F]
    exact hs r x y z w h hI (f F) (fun r' x' y' z' w' h' hr hi => ih r' hr F x' y' z' w' h' (by omega) hi)
/-! how many are left -/
def lftN (num : Nat → Nat → Int32) : Nat → Nat
  | 0 => 0
  | i + 1 => lftN num i + (if num i 5 = 0 then 1 else 0)
theorem lftN_le (num : Nat → Nat → Int32) : ∀ i, lftN num i ≤ i
  | 0 => Nat.le_refl 0
  | i + 1 => by
    have := lftN_le num i
    show lftN num i + (if num i 5 = 0 then 1 else 0) ≤ i + 1
    split <;> omega
def goneOK (n : Nat) (num : Nat → Nat → Int32) : Prop := ∀ i, i < n → num i 5 = 0 ∨ num i 5 = 1
theorem c_left {t n m : Nat} {sl : Nat → Nat → Int32} {mn : Int32} {num : Nat → Nat → Int32} {h : AH} (ht : isT t) (hn9 : n ≤ 9) (hg : goneOK n num) (C : CRep t h n m num sl mn) : fX7_howManyLeft t h = some (nI (lftN num n), h) := by
  have key : Ok (fX7_howManyLeft t h) (fun q => q = (nI (lftN num n), h)) := by
    unfold fX7_howManyLeft
    refine L2 (f := fX7_howManyLeft_4 t) (b := fX7_howManyLeft_4_b t) (fun _ => rfl) (fun r x y h' => ∃ c, c + r = n ∧ x = nI (lftN num c) ∧ y = nI c ∧ h' = h) ?_ n FU 0 0 h (by unfold FU; omega) ⟨0, by omega, rfl, rfl, rfl⟩
    rintro r x y h' ⟨c, hc, rfl, rfl, rfl⟩ Q hQ
    unfold fX7_howManyLeft_4_b
    rw [C.1]
    refine ok_if (fun c1 => ?_) (fun c1 => ?_)
    · rw [nI_leI (by omega) (by omega)] at c1
      have : c = n := by omega
      subst this
      exact ok_some rfl
    · rw [nI_leI (by omega) (by omega)] at c1
      refine ok_t (inb_nI (by omega) (by decide)) (ok_let ?_)
      rw [ix_nI (show c < 2 ^ 31 by omega), (rfT ht).2.2.2.2.2.1, (C.2.2.2.1 c (by omega)).2.2.2.2, nI_1]
      refine hQ (r - 1) _ _ _ (by omega) ⟨c + 1, by omega, ?_, rfl, rfl⟩
      show _ = nI (lftN num c + (if num c 5 = 0 then 1 else 0))
      rcases hg c (by omega) with q | q
      · rw [q, if_pos rfl, ← nI_add]; rfl
      · rw [q, if_neg (by decide), Nat.add_zero]; simp
  obtain ⟨x, e, rfl⟩ := key
  exact e
theorem m_left {n m : Nat} {sl : Nat → Nat → Int32} {mn : Int32} {num : Nat → Nat → Int32} {h : AH} (hn9 : n ≤ 9) (M : MRep h n m num sl mn) : fX10_left h = some (nI (lftN num n), h) := by
  have key : Ok (fX10_left h) (fun q => q = (nI (lftN num n), h)) := by
    unfold fX10_left
    refine L2 (f := fX10_left_4) (b := fX10_left_4_b) (fun _ => rfl) (fun r x y h' => ∃ c, c + r = n ∧ x = nI (lftN num c) ∧ y = nI c ∧ h' = h) ?_ n FU 0 0 h (by unfold FU; omega) ⟨0, by omega, rfl, rfl, rfl⟩
    rintro r x y h' ⟨c, hc, rfl, rfl, rfl⟩ Q hQ
    unfold fX10_left_4_b
    rw [M.1]
    refine ok_if (fun c1 => ?_) (fun c1 => ?_)
    · rw [nI_leI (by omega) (by omega)] at c1
      have : c = n := by omega
      subst this
      exact ok_some rfl
    · rw [nI_leI (by omega) (by omega)] at c1
      rw [m_isHere (by omega), b2_some, M.2.1 c (by omega) 5 (by decide), nI_1, nI_1]
      have e : lftN num (c + 1) = lftN num c + (if num c 5 = 0 then 1 else 0) := rfl
      by_cases q : num c 5 = 0
      · rw [if_pos q]
        refine ok_f (by decide) (ok_let (hQ (r - 1) _ _ _ (by omega) ⟨c + 1, by omega, ?_, rfl, rfl⟩))
        rw [e, if_pos q]
      · rw [if_neg q]
        refine ok_t rfl (ok_let (hQ (r - 1) _ _ _ (by omega) ⟨c + 1, by omega, ?_, rfl, rfl⟩))
        rw [e, if_neg q]; simp
  obtain ⟨x, e, rfl⟩ := key
  exact e
/-! how one is read: L is the law in force, of regret, looks, hand, minute, how many left, number -/
abbrev LawF : Type := Int32 → Int32 → Int32 → Int32 → Int32 → Int32 → Int32
def rd (Λ : LawF) (n : Nat) (num : Nat → Nat → Int32) (mn : Int32) (i : Nat) : Int32 := Λ (num i 0) (num i 2) (num i 3) mn (nI (lftN num n)) (nI i)
def Sr (o k : Nat) : Prop := o = 17 ∨ (o = 15 ∧ k = 3)
def Sg (o k : Nat) : Prop := o = 69 ∨ o = 70 ∨ (o = 59 ∧ 17 ≤ k ∧ k ≤ 20)
def CL (h : AH) (Λ : LawF) : Prop := ∀ (t n m : Nat) (num sl : Nat → Nat → Int32) (mn : Int32) (h' : AH), isT t → n ≤ 9 → goneOK n num → CRep t h' n m num sl mn → h'.1 15 1 = h.1 15 1 → h'.1 16 = h.1 16 → ∀ i, i < n → Ok (fX3_readOf t (nI i) h') (fun q => q.1 = rd Λ n num mn i ∧ Fr Sr h' q.2)
def ML (h : AH) (Λ : LawF) : Prop := ∀ (n m : Nat) (num sl : Nat → Nat → Int32) (mn : Int32) (h' : AH), n ≤ 9 → MRep h' n m num sl mn → h'.1 59 14 = h.1 59 14 → h'.1 59 15 = h.1 59 15 → h'.1 68 = h.1 68 → h'.1 71 = h.1 71 → ∀ i, i < n → Ok (fX10_sorryBy (nI i) h') (fun q => q.1 = rd Λ n num mn i ∧ Fr Sg h' q.2)
def inR (Λ : LawF) : Prop := ∀ a b c d e f, 0 ≤ (Λ a b c d e f).toInt ∧ (Λ a b c d e f).toInt ≤ 99
/-! the first of the order -/
def alv (num : Nat → Nat → Int32) (ov : Int32) (i : Nat) : Prop := num i 5 = 0 ∧ ¬ nI i = ov
def srtG (f : Nat → Int32) (num : Nat → Nat → Int32) (ov : Int32) : Nat → Int32 × Int32
  | 0 => (-2, -1)
  | i + 1 => if num i 5 = 0 ∧ ¬ nI i = ov ∧ ¬ f i ≤ (srtG f num ov i).2 then (nI i, f i) else srtG f num ov i
theorem c_sorriest {t n m : Nat} {sl : Nat → Nat → Int32} {mn ov : Int32} {num : Nat → Nat → Int32} {h : AH} {Λ : LawF} (ht : isT t) (hn9 : n ≤ 9) (hg : goneOK n num) (C : CRep t h n m num sl mn) (hL : CL h Λ) : Ok (fX3_sorriest t ov h) (fun q => q.1 = (srtG (rd Λ n num mn) num ov n).1 ∧ Fr Sr h q.2) := by
  unfold fX3_sorriest
  refine L4 (f := fX3_sorriest_9 t ov) (b := fX3_sorriest_9_b t ov) (fun _ => rfl) (fun r x y z w h' => ∃ c, c + r = n ∧ x = ov ∧ (y, z) = srtG (rd Λ n num mn) num ov c ∧ w = nI c ∧ Fr Sr h h') ?_ n FU ov (-2) (-1) 0 h (by unfold FU; omega) ⟨0, by omega, rfl, rfl, rfl, Fr.rf⟩
  rintro r x y z w h' ⟨c, hc, rfl, hyz, rfl, hF⟩ Q hQ
  have C' : CRep t h' n m num sl mn := C.fr hF (fun o k h1 h2 q => by rcases ht with rfl | rfl <;> (unfold Sr at q; omega))
  unfold fX3_sorriest_9_b
  rw [C'.1]
  refine ok_if (fun c1 => ?_) (fun c1 => ?_)
  · rw [nI_leI (by omega) (by omega)] at c1
    have : c = n := by omega
    subst this
    exact ok_some ⟨by rw [← hyz], hF⟩
  · rw [nI_leI (by omega) (by omega)] at c1
    refine ok_t (inb_nI (by omega) (by decide)) ?_
    rw [ix_nI (show c < 2 ^ 31 by omega), (rfT ht).2.2.2.2.2.1, (C'.2.2.2.1 c (by omega)).2.2.2.2, nI_1]
    have es : srtG (rd Λ n num mn) num x (c + 1) = if num c 5 = 0 ∧ ¬ nI c = x ∧ ¬ rd Λ n num mn c ≤ (srtG (rd Λ n num mn) num x c).2 then (nI c, rd Λ n num mn c) else srtG (rd Λ n num mn) num x c := rfl
    refine ok_if (fun c2 => ?_) (fun c2 => ?_)
    · refine ok_if (fun c3 => ?_) (fun c3 => ?_)
      · refine hQ (r - 1) _ _ _ _ _ (by omega) ⟨c + 1, by omega, rfl, ?_, rfl, hF⟩
        rw [es, if_neg (fun q => q.2.1 c3)]; exact hyz
      · refine ok_b2 (hL t n m num sl mn h' ht hn9 hg C' (hF.1 15 1 (by unfold Sr; omega)) (by funext k; exact hF.1 16 k (by unfold Sr; omega)) c (by omega)) (fun v h2 hv => ?_)
        obtain ⟨e1, F2⟩ := hv
        have e1 : v = rd Λ n num mn c := e1
        refine ok_if (fun c4 => ?_) (fun c4 => ?_)
        · refine hQ (r - 1) _ _ _ _ _ (by omega) ⟨c + 1, by omega, rfl, ?_, rfl, hF.tr F2⟩
          rw [es, if_neg]
          · exact hyz
          · rintro ⟨_, _, q⟩
            rw [← hyz, ← e1] at q
            exact q c4
        · refine hQ (r - 1) _ _ _ _ _ (by omega) ⟨c + 1, by omega, rfl, ?_, rfl, hF.tr F2⟩
          rw [es, if_pos, e1]
          refine ⟨c2, c3, ?_⟩
          rw [← hyz, ← e1]
          exact c4
    · refine hQ (r - 1) _ _ _ _ _ (by omega) ⟨c + 1, by omega, rfl, ?_, rfl, hF⟩
      rw [es, if_neg (fun q => c2 q.1)]; exact hyz
