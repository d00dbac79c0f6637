/-! guests -/
theorem L5n {α : Type} {f : Nat → Int32 → Int32 → Nat → Int32 → Int32 → AH → Option α} {b : (Int32 → Int32 → Nat → Int32 → Int32 → AH → Option α) → Int32 → Int32 → Nat → Int32 → Int32 → AH → Option α} {P : α → Prop} (hf : ∀ F, f (F + 1) = b (f F)) (I : Nat → Int32 → Int32 → Nat → Int32 → Int32 → AH → Prop)
    (hs : ∀ r x y z w v h, I r x y z w v h → ∀ Q : Int32 → Int32 → Nat → Int32 → Int32 → AH → Option α, (∀ r' x' y' z' w' v' h', r' < r → I r' x' y' z' w' v' h' → Ok (Q x' y' z' w' v' h') P) → Ok (b Q x y z w v h) P) : ∀ r F x y z w v h, r < F → I r x y z w v h → Ok (f F x y z w v h) P := by
  intro r
  induction r using Nat.strongRecOn with
  | _ r ih =>
    intro F x y z w v h hF hI
    obtain ⟨F, rfl⟩ : ∃ F', F = F' + 1 := ⟨F - 1, by omega⟩
    rw [hf F]
    exact hs r x y z w v h hI (f F) (fun r' x' y' z' w' v' h' hr hi => ih r' hr F x' y' z' w' v' h' (by omega) hi)
theorem lg_lt {x y : Int64} : lg_cmp x y < 0 ↔ x.toInt < y.toInt := by
  unfold lg_cmp
  by_cases c : x > y
  · rw [if_pos c]
    have c' : y.toInt < x.toInt := Int64.lt_iff_toInt_lt.mp c
    exact ⟨fun q => absurd q (by decide), fun q => by omega⟩
  · rw [if_neg c]
    have c' : ¬ y.toInt < x.toInt := fun q => c (Int64.lt_iff_toInt_lt.mpr q)
    by_cases e : x = y
    · rw [if_pos e, e]
      exact ⟨fun q => absurd q (by decide), fun q => by omega⟩
    · rw [if_neg e]
      have e' : x.toInt ≠ y.toInt := fun q => e (Int64.toInt_inj.mp q)
      exact ⟨fun _ => by omega, fun _ => by decide⟩
theorem lg_ge {x y : Int64} : 0 ≤ lg_cmp x y ↔ y.toInt ≤ x.toInt := by
  have := lg_lt (x := x) (y := y)
  rw [i_le]
  rw [i_lt] at this
  have e0 : (0 : Int32).toInt = 0 := by decide
  rw [e0] at this ⊢
  omega
def adr64 (p c : Int32) : Int64 := p.toInt64 + 4 * c.toInt64
theorem adr_toInt {p : Int32} {c : Nat} (hc : c ≤ 9) : (adr64 p (nI c)).toInt = p.toInt + 4 * c ∧ (adr64 p (nI c) + 3).toInt = p.toInt + 4 * c + 3 := by
  have h1 := p.toInt_lt
  have h2 := p.le_toInt
  have e4 : (4 : Int64).toInt = 4 := by decide
  have e3 : (3 : Int64).toInt = 3 := by decide
  have a1 : (adr64 p (nI c)).toInt = p.toInt + 4 * c := by
    unfold adr64
    rw [Int64.toInt_add, Int64.toInt_mul, Int32.toInt_toInt64, Int32.toInt_toInt64, nI_toInt (by omega), e4]
    rw [Int.bmod_eq_of_le (n := 4 * (c : Int)) (by omega) (by omega), Int.bmod_eq_of_le (by omega) (by omega)]
  refine ⟨a1, ?_⟩
  rw [Int64.toInt_add, a1, e3, Int.bmod_eq_of_le (by omega) (by omega)]
theorem adr_32 {p : Int32} {c : Nat} (hc : c ≤ 9) (h0 : 0 ≤ p.toInt) (h1 : p.toInt + 4 * c < 100) : (adr64 p (nI c)).toInt32 = nI (p.toInt.toNat + 4 * c) := by
  have a := (adr_toInt (p := p) hc).1
  rw [i_eq, nI_toInt (by omega), Int64.toInt_toInt32, a, Int.bmod_eq_of_le (by omega) (by omega)]
  omega
/-- one guest out of four bytes -/
def nu5 (num : Nat → Nat → Int32) (n : Nat) (v0 v1 v2 v3 v4 : Int32) : Nat → Nat → Int32 := fun i k => if i = n then (if k = 0 then v0 else if k = 1 then v1 else if k = 2 then v2 else if k = 3 then v3 else if k = 4 then v4 else 0) else num i k
theorem m_add5 {h : AH} {n m : Nat} {num sl : Nat → Nat → Int32} {mn v0 v1 v2 v3 v4 : Int32} (hn : n < 9) (M : MT h n m num sl mn) : Ok (fX10_add v0 v1 v2 v3 v4 h) (fun q => q.1 = nI n ∧ MT q.2 (n + 1) m (nu5 num n v0 v1 v2 v3 v4) sl mn ∧ Fr (fun o k => (o = 59 ∧ k = 2) ∨ o = 60) h q.2) := by
  obtain ⟨m1, m2, m3, m4, m5, m6⟩ := M
  unfold fX10_add
  refine ok_let ?_
  rw [m1]
  rw [m_change (K := 0) (k := 0) rfl hn (by decide), bV_some, m_change (K := 1) (k := 1) rfl hn (by decide), bV_some, m_change (K := 2) (k := 2) rfl hn (by decide), bV_some, m_change (K := 3) (k := 3) rfl hn (by decide), bV_some, m_change (K := 4) (k := 4) rfl hn (by decide), bV_some, m_change (K := 5) (k := 5) rfl hn (by decide), bV_some]
  refine ok_let (ok_some ⟨rfl, ⟨?_, fun i hi k hk => ?_, ?_, ?_, ?_, fun s hs j hj => ?_⟩, ?_⟩)
  · simp only [wI_rd]; simp; rw [m1, nI_1]
  · simp only [wI_rd]
    unfold nu5
    by_cases e : i = n
    · subst e
      have c : k = 0 ∨ k = 1 ∨ k = 2 ∨ k = 3 ∨ k = 4 ∨ k = 5 := by omega
      rcases c with rfl | rfl | rfl | rfl | rfl | rfl <;> simp
    · rw [if_neg (by omega), if_neg (by omega), if_neg (by omega), if_neg (by omega), if_neg (by omega), if_neg (by omega), if_neg (by omega), if_neg e]
      exact m2 i (by omega) k hk
  · simp only [wI_rd]
    rw [if_neg (by omega), if_neg (by omega), if_neg (by omega), if_neg (by omega), if_neg (by omega), if_neg (by omega), if_neg (by omega)]
    exact m3
  · simp only [wI_rd]; simp; exact m4
  · simp only [wI_rd]; simp; exact m5
  · simp only [wI_rd]
    rw [if_neg (by omega), if_neg (by omega), if_neg (by omega), if_neg (by omega), if_neg (by omega), if_neg (by omega), if_neg (by omega)]
    exact m6 s hs j hj
  · exact ((((((Fr.rf.w (by omega)).w (by omega)).w (by omega)).w (by omega)).w (by omega)).w (by omega)).w (by omega)
theorem nu5_eq {num : Nat → Nat → Int32} {n : Nat} {v0 v1 v2 v3 v4 : Int32} : setN (setN (setN (nuG num n v3 v4) n 0 v0) n 1 v1) n 2 v2 = nu5 num n v0 v1 v2 v3 v4 := by
  funext i k
  unfold setN nuG nu5
  by_cases e : i = n
  · by_cases k0 : k = 0
    · simp [e, k0]
    · by_cases k1 : k = 1
      · simp [e, k1]
      · by_cases k2 : k = 2
        · simp [e, k2]
        · simp [e, k0, k1, k2]
  · simp [e]
/-- the bytes of the c-th guest are in order -/
def gOk (E : Nat → Int32) (p z n c : Nat) : Prop := p + 4 * c + 3 < z ∧ n + c < 9 ∧ rgK 0 (E (p + 4 * c)) ∧ rgK 1 (E (p + 4 * c + 1)) ∧ rgK 2 (E (p + 4 * c + 2)) ∧ rgK 3 (E (p + 4 * c + 3))
def gN (num : Nat → Nat → Int32) (E : Nat → Int32) (p n : Nat) : Nat → Nat → Nat → Int32
  | 0 => num
  | c + 1 => nu5 (gN num E p n c) (n + c) (E (p + 4 * c)) (E (p + 4 * c + 1)) (E (p + 4 * c + 2)) (E (p + 4 * c + 3)) 7
theorem WF_gN {n m : Nat} {num sl : Nat → Nat → Int32} {mn : Int32} {E : Nat → Int32} {p z : Nat} (W : WF n m num sl mn) : ∀ c, (∀ d, d < c → gOk E p z n d) → WF (n + c) m (gN num E p n c) sl mn
  | 0, _ => W
  | c + 1, hd => by
    have w := WF_gN W c (fun d h => hd d (by omega))
    obtain ⟨o1, o2, o3, o4, o5, o6⟩ := hd c (by omega)
    have r7 : rgK 4 7 := by
      show (ST 200 4).toInt ≤ (7 : Int32).toInt ∧ (7 : Int32).toInt ≤ (ST 201 4).toInt
      decide +kernel
    have := WF_set (g := n + c) (k := 2) (WF_set (g := n + c) (k := 1) (WF_set (g := n + c) (k := 0) (WF_g w o2 o6 r7) o3) o4) o5
    rw [nu5_eq] at this
    exact this
def cntL (p : Nat → Prop) : Nat → Nat → Nat → Prop
  | 0, c, a => a = c
  | r + 1, c, a => (p c ∧ cntL p r (c + 1) a) ∨ (¬ p c ∧ a = c)
theorem cntL_ex (p : Nat → Prop) : ∀ r c, ∃ a, cntL p r c a
  | 0, c => ⟨c, rfl⟩
  | r + 1, c => by
    by_cases h : p c
    · obtain ⟨a, ha⟩ := cntL_ex p r (c + 1)
      exact ⟨a, Or.inl ⟨h, ha⟩⟩
    · exact ⟨c, Or.inr ⟨h, rfl⟩⟩
theorem cntL_all {p : Nat → Prop} : ∀ {r c a : Nat}, cntL p r c a → ∀ d, c ≤ d → d < a → p d
  | 0, c, a, h, d, h1, h2 => by have : a = c := h; omega
  | r + 1, c, a, h, d, h1, h2 => by
    rcases h with ⟨hp, h⟩ | ⟨_, h⟩
    · by_cases e : d = c
      · rw [e]; exact hp
      · exact cntL_all h d (by omega) h2
    · omega
theorem cntL_le {p : Nat → Prop} : ∀ {r c a : Nat}, cntL p r c a → c ≤ a ∧ a ≤ c + r
  | 0, c, a, h => by have : a = c := h; omega
  | r + 1, c, a, h => by
    rcases h with ⟨hp, h⟩ | ⟨_, h⟩
    · have := cntL_le h; omega
    · omega
