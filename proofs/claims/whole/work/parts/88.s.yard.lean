/-! the yard: how the text is read sign by sign -/
def rk (b : Int32) : Nat := if b = 33 then 6 else if b = 37 then 5 else if b = 38 then 2 else if b = 42 then 5 else if b = 43 then 4 else if b = 45 then 4 else if b = 47 then 5 else if b = 60 then 3 else if b = 61 then 3 else if b = 62 then 3 else if b = 124 then 1 else if b = 126 then 6 else 0
def ng (W : List Int32) : List Int32 := W.map (fun x => -x)
def out (r : Nat) : List Int32 → List Int32
  | [] => []
  | x :: W => if r ≤ rk x then -x :: out r W else []
def rst (r : Nat) : List Int32 → List Int32
  | [] => []
  | x :: W => if r ≤ rk x then rst r W else x :: W
def topN (r : Nat) (W : List Int32) : Prop := ∀ x Z, W = x :: Z → rk x < r
def hd3 : List Int32 → Bool
  | [] => false
  | x :: _ => rk x == 3
abbrev Y : Type := List Int32 × List Int32 × Int32 × Nat × Nat × Bool × Bool
def yEnd (C W : List Int32) (d : Int32) (k j : Nat) (κ : Bool) : Y := (C ++ out 6 W, rst 6 W, d - nI (out 6 W).length, k, j, false, κ)
def yOpd (b : Int32) (C W : List Int32) (d : Int32) (k j : Nat) (κ : Bool) : Option Y :=
  if isDg b then some (yEnd (C ++ [b - 48]) W d 3 C.length κ)
  else if isNm b then some (yEnd (C ++ [-b]) W d 0 j κ)
  else if b = 40 ∨ b = 33 ∨ b = 45 then (if d < 6 then some (C, unc b :: W, d + 1, k, j, true, κ) else none)
  else none
def yCls (C W : List Int32) (d : Int32) (j : Nat) (κ : Bool) : List Int32 → Option Y
  | [] => none
  | _ :: Z => some (yEnd (C ++ out 1 W) Z (d - 1) 0 j κ)
def rk' (b : Int32) : Nat := if rk b = 3 then 4 else rk b
def ySgn (b : Int32) (C W : List Int32) (d : Int32) (k j : Nat) (κ : Bool) : Option Y :=
  if isDg b then (if k = 0 then none else some (C.set j (C.getD j 0 * 10 + (b - 48)), W, d, k - 1, j, false, κ))
  else if b = 41 then yCls C W d j κ (rst 1 W)
  else if b = 63 then (if rst 1 W = [] ∧ κ = false then some (C ++ out 1 W, [], d, k, j, true, true) else none)
  else if b = 59 then (if rst 1 W = [] then some (C ++ out 1 W ++ [-59], [], d, k, j, true, false) else none)
  else if 1 ≤ rk b ∧ rk b ≤ 5 then (if rk b = 3 ∧ hd3 (rst 4 W) = true then none else some (C ++ out (rk' b) W, b :: rst (rk' b) W, d, k, j, true, κ))
  else none
def yStep (b : Int32) : Y → Option Y
  | (C, W, d, k, j, true, κ) => yOpd b C W d k j κ
  | (C, W, d, k, j, false, κ) => ySgn b C W d k j κ
def yFin (a : Nat) : Y → Option (List Int32) × Nat
  | (_, _, _, _, _, true, _) => (none, a)
  | (C, W, _, _, _, false, _) => if rst 1 W = [] then (some (C ++ out 1 W ++ [-59]), a) else (none, a)
def yGo (K : Y → Option (List Int32) × Nat) (a : Nat) : Option Y → Option (List Int32) × Nat
  | none => (none, a)
  | some y => K y
def yRun (t : Nat → Int32) : Nat → Nat → Y → Option (List Int32) × Nat
  | 0, a, y => yFin a y
  | n + 1, a, y => yGo (yRun t n (a + 1)) a (yStep (t a) y)
def RY (t : Nat → Int32) (L a : Nat) (y : Y) : Option (List Int32) × Nat := yRun t (L - a) a y
theorem RY_end {t : Nat → Int32} {L a : Nat} (h : L ≤ a) (y : Y) : RY t L a y = yFin a y := by
  unfold RY
  rw [show L - a = 0 by omega]
  rfl
theorem RY_st {t : Nat → Int32} {L a : Nat} (h : a < L) (y : Y) : RY t L a y = yGo (RY t L (a + 1)) a (yStep (t a) y) := by
  unfold RY
  rw [show L - a = (L - (a + 1)) + 1 by omega]
  rfl
theorem RY_some {t : Nat → Int32} {L a : Nat} (h : a < L) {y y' : Y} (e : yStep (t a) y = some y') : RY t L a y = RY t L (a + 1) y' := by
  rw [RY_st h, e]
  rfl
theorem RY_none {t : Nat → Int32} {L a : Nat} (h : a < L) {y : Y} (e : yStep (t a) y = none) : RY t L a y = (none, a) := by
  rw [RY_st h, e]
  rfl
theorem out_app {r : Nat} : ∀ (Q W : List Int32), (∀ x, x ∈ Q → r ≤ rk x) → out r (Q ++ W) = ng Q ++ out r W ∧ rst r (Q ++ W) = rst r W
  | [], W, _ => ⟨rfl, rfl⟩
  | x :: Q, W, h => by
    have i := out_app Q W (fun y hy => h y (List.mem_cons_of_mem _ hy))
    have hx := h x (List.mem_cons_self ..)
    constructor
    · show (if r ≤ rk x then -x :: out r (Q ++ W) else []) = _
      rw [if_pos hx, i.1]
      rfl
    · show (if r ≤ rk x then rst r (Q ++ W) else x :: (Q ++ W)) = _
      rw [if_pos hx, i.2]
theorem out_top {r : Nat} {W : List Int32} (h : topN r W) : out r W = [] ∧ rst r W = W := by
  cases W with
  | nil => exact ⟨rfl, rfl⟩
  | cons x Z =>
    have := h x Z rfl
    exact ⟨if_neg (by omega), if_neg (by omega)⟩
theorem top_le {r r' : Nat} {W : List Int32} (h : topN r W) (hr : r ≤ r') : topN r' W := fun x Z e => Nat.lt_of_lt_of_le (h x Z e) hr
theorem top_nil (r : Nat) : topN r [] := fun x Z e => by cases e
theorem top_cons {r : Nat} {b : Int32} {Z : List Int32} (h : rk b < r) : topN r (b :: Z) := fun x Z' e => by cases e; exact h
theorem rst_app {r : Nat} {x : Int32} {Z : List Int32} : ∀ (Q W : List Int32), rst r Q = x :: Z → rst r (Q ++ W) = x :: (Z ++ W)
  | [], W, h => by cases h
  | y :: Q, W, h => by
    have h : (if r ≤ rk y then rst r Q else y :: Q) = x :: Z := h
    show (if r ≤ rk y then rst r (Q ++ W) else y :: (Q ++ W)) = _
    by_cases c : r ≤ rk y
    · rw [if_pos c] at h ⊢
      exact rst_app Q W h
    · rw [if_neg c] at h ⊢
      cases h
      rfl
theorem ng_len (Q : List Int32) : (ng Q).length = Q.length := List.length_map ..
theorem lev_cs {b : Int32} (h : 1 ≤ lev b) : b = 42 ∨ b = 47 ∨ b = 37 ∨ b = 43 ∨ b = 45 ∨ b = 60 ∨ b = 61 ∨ b = 62 ∨ b = 38 ∨ b = 124 := by
  unfold lev at h
  by_cases c1 : b = 42 ∨ b = 47 ∨ b = 37
  · rcases c1 with c | c | c <;> simp [c]
  · rw [if_neg c1] at h
    by_cases c2 : b = 43 ∨ b = 45
    · rcases c2 with c | c <;> simp [c]
    · rw [if_neg c2] at h
      by_cases c3 : b = 60 ∨ b = 61 ∨ b = 62
      · rcases c3 with c | c | c <;> simp [c]
      · rw [if_neg c3] at h
        by_cases c4 : b = 38
        · simp [c4]
        · rw [if_neg c4] at h
          by_cases c5 : b = 124
          · simp [c5]
          · rw [if_neg c5] at h
            exact absurd h (by omega)
theorem lev_rk {b : Int32} (h : 1 ≤ lev b) : rk b = 6 - lev b ∧ lev b ≤ 5 ∧ ¬ isDg b ∧ b ≠ 41 ∧ b ≠ 63 ∧ b ≠ 59 := by
  rcases lev_cs h with rfl | rfl | rfl | rfl | rfl | rfl | rfl | rfl | rfl | rfl <;> decide
theorem rk_lev {b : Int32} (h : 1 ≤ rk b ∧ rk b ≤ 5) : 1 ≤ lev b ∧ lev b = 6 - rk b := by
  unfold rk at h
  by_cases c0 : b = 33
  · rw [if_pos c0] at h; omega
  rw [if_neg c0] at h
  by_cases c1 : b = 37
  · rw [c1]; decide
  rw [if_neg c1] at h
  by_cases c2 : b = 38
  · rw [c2]; decide
  rw [if_neg c2] at h
  by_cases c3 : b = 42
  · rw [c3]; decide
  rw [if_neg c3] at h
  by_cases c4 : b = 43
  · rw [c4]; decide
  rw [if_neg c4] at h
  by_cases c5 : b = 45
  · rw [c5]; decide
  rw [if_neg c5] at h
  by_cases c6 : b = 47
  · rw [c6]; decide
  rw [if_neg c6] at h
  by_cases c7 : b = 60
  · rw [c7]; decide
  rw [if_neg c7] at h
  by_cases c8 : b = 61
  · rw [c8]; decide
  rw [if_neg c8] at h
  by_cases c9 : b = 62
  · rw [c9]; decide
  rw [if_neg c9] at h
  by_cases c10 : b = 124
  · rw [c10]; decide
  rw [if_neg c10] at h
  by_cases c11 : b = 126
  · rw [if_pos c11] at h; omega
  rw [if_neg c11] at h
  omega
/-! what follows a level -/
def Fol (t : Nat → Int32) (L w a : Nat) (Q : List Int32) (k : Nat) : Prop := a < L → (isDg (t a) → k = 0) ∧ (1 ≤ lev (t a) → lev (t a) ≤ w → lev (t a) = 3 ∧ ∃ x Z, rst 4 Q = x :: Z ∧ rk x = 3)
/-- nobody takes the sign: the yard stops there too -/
theorem y_stuck {t : Nat → Int32} {L a k j : Nat} {C Q W : List Int32} {d : Int32} {κ : Bool} (ha : a ≤ L) (F : Fol t L 5 a Q k) (hQ : ∀ x, x ∈ Q → 1 ≤ rk x) (n41 : a < L → t a = 41 → rst 1 W = []) (n63 : a < L → t a = 63 → rst 1 W ≠ [] ∨ κ = true) (n59 : a < L → t a = 59 → rst 1 W ≠ []) (nE : a = L → rst 1 W ≠ []) : RY t L a (C, Q ++ W, d, k, j, false, κ) = (none, a) := by
  have e1 := (out_app Q W hQ).2
  by_cases c : a < L
  · obtain ⟨f1, f2⟩ := F c
    refine RY_none c ?_
    show ySgn (t a) C (Q ++ W) d k j κ = none
    unfold ySgn
    rw [e1]
    by_cases c1 : isDg (t a)
    · rw [if_pos c1, if_pos (f1 c1)]
    · rw [if_neg c1]
      by_cases c2 : t a = 41
      · rw [if_pos c2, n41 c c2]
        rfl
      · rw [if_neg c2]
        by_cases c3 : t a = 63
        · rw [if_pos c3, if_neg (fun z => by rcases n63 c c3 with q | q
                                             · exact q z.1
                                             · rw [q] at z; exact absurd z.2 (by decide))]
        · rw [if_neg c3]
          by_cases c4 : t a = 59
          · rw [if_pos c4, if_neg (n59 c c4)]
          · rw [if_neg c4]
            by_cases c5 : 1 ≤ rk (t a) ∧ rk (t a) ≤ 5
            · rw [if_pos c5]
              obtain ⟨g1, g2⟩ := rk_lev c5
              obtain ⟨g3, x, Z, g4, g5⟩ := f2 g1 (by omega)
              rw [rst_app Q W g4, if_pos ⟨by omega, by show (rk x == 3) = true; rw [g5]; rfl⟩]
            · rw [if_neg c5]
  · rw [RY_end (by omega)]
    show (if rst 1 (Q ++ W) = [] then (some (C ++ out 1 (Q ++ W) ++ [-59]), a) else (none, a)) = _
    rw [e1, if_neg (nE (by omega))]
