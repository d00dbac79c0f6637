/-! the text of a law: a descent that gives code and worth -/
abbrev Wrt : Type := (Int32 → Int32) → Int32
abbrev PR : Type := Option (List Int32 × Wrt) × Nat
def onOk (r : PR) (f : List Int32 → Wrt → Nat → PR) : PR :=
  match r with
  | (none, a) => (none, a)
  | (some (c, v), a) => f c v a
abbrev isDg (b : Int32) : Prop := 48 ≤ b.toInt ∧ b.toInt ≤ 57
abbrev isNm (b : Int32) : Prop := b = 114 ∨ b = 108 ∨ b = 104 ∨ b = 109 ∨ b = 110 ∨ b = 103
def lev (b : Int32) : Nat := if b = 42 ∨ b = 47 ∨ b = 37 then 1 else if b = 43 ∨ b = 45 then 2 else if b = 60 ∨ b = 61 ∨ b = 62 then 3 else if b = 38 then 4 else if b = 124 then 5 else 0
def two (op a b : Int32) : Int32 := if op = 38 then (if a = 0 then 0 else if b = 0 then 0 else 1) else if op = 42 then a * b else if op = 43 then a + b else if op = 45 then a - b else if op = 47 then (if b = 0 then 0 else a / b) else if op = 60 then (if b ≤ a then 0 else 1) else if op = 61 then (if a = b then 1 else 0) else if op = 62 then (if a ≤ b then 0 else 1) else if op = 124 then (if a = 0 then (if b = 0 then 0 else 1) else 1) else if b = 0 then 0 else jrem a b
def unc (b : Int32) : Int32 := if b = 45 then 126 else b
def un (b x : Int32) : Int32 := if b = 45 then -x else if x = 0 then 1 else 0
def numb (t : Nat → Int32) (L : Nat) : Nat → Nat → Int32 → Int32 × Nat
  | 0, a, x => (x, a)
  | k + 1, a, x => if a < L ∧ isDg (t a) then numb t L k (a + 1) (10 * x + t a - 48) else (x, a)
def lp (t : Nat → Int32) (L : Nat) (sub : Nat → PR) (w : Nat) : Nat → List Int32 → Wrt → Nat → PR
  | 0, c, v, a => (some (c, v), a)
  | n + 1, c, v, a => if a < L ∧ lev (t a) = w then onOk (sub (a + 1)) (fun c2 v2 a2 => lp t L sub w n (c ++ (c2 ++ [-t a])) (fun e => two (t a) (v e) (v2 e)) a2) else (some (c, v), a)
def lvN (w : Nat) : Nat := if w = 3 then 1 else 200
def lv (t : Nat → Int32) (L : Nat) (sub : Nat → PR) : Nat → Nat → PR
  | 0, a => sub a
  | w + 1, a => onOk (lv t L sub w a) (fun c v a => lp t L (lv t L sub w) (w + 1) (lvN (w + 1)) c v a)
def preB (t : Nat → Int32) (a : Nat) : Option (Nat → PR) → PR
  | none => (none, a)
  | some f => onOk (f (a + 1)) (fun c v a2 => (some (c ++ [-unc (t a)], fun e => un (t a) (v e)), a2))
def parB (t : Nat → Int32) (L a : Nat) : Option (Nat → PR) → PR
  | none => (none, a)
  | some f => onOk (lv t L f 5 (a + 1)) (fun c v a2 => if a2 < L ∧ t a2 = 41 then (some (c, v), a2 + 1) else (none, a2))
def oneB (t : Nat → Int32) (L : Nat) (o : Option (Nat → PR)) (a : Nat) : PR :=
  if a < L then
    if isDg (t a) then (some ([(numb t L 4 a 0).1], fun _ => (numb t L 4 a 0).1), (numb t L 4 a 0).2)
    else if t a = 33 ∨ t a = 45 then preB t a o
    else if t a = 40 then parB t L a o
    else if isNm (t a) then (some ([-t a], fun e => e (t a)), a + 1)
    else (none, a)
  else (none, a)
def one (t : Nat → Int32) (L : Nat) : Nat → Nat → PR
  | 0 => oneB t L none
  | g + 1 => oneB t L (some (one t L g))
/-- a part of the text: with a condition or without -/
def tExp (t : Nat → Int32) (L : Nat) : Nat → PR := lv t L (one t L 6) 5
def tPrt (t : Nat → Int32) (L a : Nat) (K : List Int32 → Wrt → Wrt → Nat → PR) : PR :=
  onOk (tExp t L a) (fun c v a1 => if a1 < L ∧ t a1 = 63 then onOk (tExp t L (a1 + 1)) (fun c2 v2 a2 => K (c ++ c2) v v2 a2) else K c (fun _ => 1) v a1)
def tGv (t : Nat → Int32) (L : Nat) : Nat → Nat → PR
  | 0, a => (none, a)
  | n + 1, a => tPrt t L a (fun c q v a1 => if a1 < L ∧ t a1 = 59 then onOk (tGv t L n (a1 + 1)) (fun c2 v2 a2 => (some (c ++ (-59 :: c2), fun e => if q e = 0 then v2 e else v e), a2)) else if a1 < L then (none, a1) else (some (c ++ [-59], fun e => if q e = 0 then 0 else v e), a1))
/-! how far a descent comes -/
def Fwd (L : Nat) (sub : Nat → PR) : Prop := ∀ a c v a2, sub a = (some (c, v), a2) → a < a2 ∧ a2 ≤ L
theorem numb_fw (t : Nat → Int32) (L : Nat) : ∀ (k a : Nat) (x : Int32), a ≤ L → a ≤ (numb t L k a x).2 ∧ (numb t L k a x).2 ≤ L
  | 0, a, x, h => ⟨Nat.le_refl a, h⟩
  | k + 1, a, x, h => by
    unfold numb
    by_cases c : a < L ∧ isDg (t a)
    · rw [if_pos c]
      have := numb_fw t L k (a + 1) (10 * x + t a - 48) (by omega)
      omega
    · rw [if_neg c]
      exact ⟨Nat.le_refl a, h⟩
theorem onOk_some {r : PR} {f : List Int32 → Wrt → Nat → PR} {c : List Int32} {v : Wrt} {a : Nat} (h : onOk r f = (some (c, v), a)) : ∃ c1 v1 a1, r = (some (c1, v1), a1) ∧ f c1 v1 a1 = (some (c, v), a) := by
  rcases r with ⟨_ | ⟨c1, v1⟩, a1⟩
  · cases h
  · exact ⟨c1, v1, a1, rfl, h⟩
theorem lp_fw {t : Nat → Int32} {L w : Nat} {sub : Nat → PR} (H : Fwd L sub) : ∀ (n : Nat) (c : List Int32) (v : Wrt) (a : Nat) (c2 : List Int32) (v2 : Wrt) (a2 : Nat), a ≤ L → lp t L sub w n c v a = (some (c2, v2), a2) → a ≤ a2 ∧ a2 ≤ L
  | 0, c, v, a, c2, v2, a2, h, e => by cases e; exact ⟨Nat.le_refl a, h⟩
  | n + 1, c, v, a, c2, v2, a2, h, e => by
    unfold lp at e
    by_cases q : a < L ∧ lev (t a) = w
    · rw [if_pos q] at e
      obtain ⟨c1, v1, a1, e1, e2⟩ := onOk_some e
      have := H _ _ _ _ e1
      have := lp_fw H n _ _ _ _ _ _ (by omega) e2
      omega
    · rw [if_neg q] at e
      cases e
      exact ⟨Nat.le_refl a, h⟩
theorem lv_fw {t : Nat → Int32} {L : Nat} {sub : Nat → PR} (H : Fwd L sub) : ∀ w, Fwd L (lv t L sub w)
  | 0 => H
  | w + 1 => fun a c v a2 e => by
    unfold lv at e
    obtain ⟨c1, v1, a1, e1, e2⟩ := onOk_some e
    have := lv_fw H w _ _ _ _ e1
    have := lp_fw (lv_fw H w) _ _ _ _ _ _ _ (by omega) e2
    omega
theorem one_fw (t : Nat → Int32) (L : Nat) : ∀ g, Fwd L (one t L g) := by
  have key : ∀ o : Option (Nat → PR), (∀ f, o = some f → Fwd L f) → Fwd L (oneB t L o) := by
    intro o H a c v a2 e
    unfold oneB at e
    by_cases c0 : a < L
    · rw [if_pos c0] at e
      by_cases c1 : isDg (t a)
      · rw [if_pos c1] at e
        cases e
        have e4 : numb t L 4 a 0 = numb t L 3 (a + 1) (10 * 0 + t a - 48) := by
          show (if a < L ∧ isDg (t a) then numb t L 3 (a + 1) (10 * 0 + t a - 48) else (0, a)) = _
          rw [if_pos ⟨c0, c1⟩]
        have := numb_fw t L 3 (a + 1) (10 * 0 + t a - 48) (by omega)
        rw [e4]
        omega
      · rw [if_neg c1] at e
        by_cases c2 : t a = 33 ∨ t a = 45
        · rw [if_pos c2] at e
          cases o with
          | none => cases e
          | some f =>
            obtain ⟨c3, v3, a3, e3, e4⟩ := onOk_some (r := f (a + 1)) e
            have := H f rfl _ _ _ _ e3
            cases e4
            omega
        · rw [if_neg c2] at e
          by_cases c3 : t a = 40
          · rw [if_pos c3] at e
            cases o with
            | none => cases e
            | some f =>
              obtain ⟨c3, v3, a3, e3, e4⟩ := onOk_some (r := lv t L f 5 (a + 1)) e
              have := lv_fw (t := t) (H f rfl) 5 _ _ _ _ e3
              by_cases q : a3 < L ∧ t a3 = 41
              · rw [if_pos q] at e4; cases e4; omega
              · rw [if_neg q] at e4; cases e4
          · rw [if_neg c3] at e
            by_cases c4 : isNm (t a)
            · rw [if_pos c4] at e; cases e; omega
            · rw [if_neg c4] at e; cases e
    · rw [if_neg c0] at e; cases e
  intro g
  induction g with
  | zero => exact key none (fun f e => by cases e)
  | succ g ih => exact key (some (one t L g)) (fun f e => by cases e; exact ih)
