/-! act: what hooks do -/
def ownC (k a : Nat) : Nat := [1, 10, 11, 2, 20, 0, 0, 0, 0, 30, 0, 0, 0, 41, 40, 0, 0, 0, 50, 0, 0, 0, 0, 60, 70, 0, 0, 0, 0, 80, 0, 81].getD (4 * k + a) 0
def kapF : Nat → Nat → Nat → Nat
  | 0, k, _ => k
  | f + 1, k, a => if ownC k a = 0 then kapF f (upK k) a else k
def kap (k a : Nat) : Nat := kapF 8 k a
/-- the calls of a code: whether from the body's own kind, and which act -/
def callsC (c : Nat) : List (Bool × Nat) :=
  if c = 2 then [(true, 1), (true, 2)] else if c = 10 then [(true, 0)] else if c = 20 then [(false, 0)] else if c = 30 then [(false, 1)] else if c = 40 then [(false, 2)] else if c = 41 then [(false, 1)] else if c = 50 then [(false, 2), (true, 0)] else if c = 60 then [(false, 3)] else if c = 70 then [(false, 0)] else if c = 80 then [(false, 1), (true, 2)] else if c = 81 then [(false, 3)] else []
def depA : Nat → Nat → Nat → Nat → Bool
  | 0, _, _, _ => false
  | f + 1, bk, k, a => (callsC (ownC (kap k a) a)).all (fun w => depA f bk (if w.1 then bk else upK (kap k a)) w.2)
def codA : Nat → Nat → Nat → Nat → List Nat
  | 0, _, _, _ => []
  | f + 1, bk, k, a => ownC (kap k a) a :: (callsC (ownC (kap k a) a)).flatMap (fun w => codA f bk (if w.1 then bk else upK (kap k a)) w.2)
theorem dep_ok : ∀ bk, bk < 8 → ∀ a, a < 4 → depA 9 bk bk a = true := by decide +kernel
theorem cod_ok : ∀ bk, bk < 8 → ∀ a, a < 4 → (codA 9 bk bk a).length ≤ 900 := by decide +kernel
theorem kap_ok : ∀ k, k < 8 → ∀ a, a < 4 → kap k a < 8 ∧ ownC (kap k a) a ≠ 0 := by decide +kernel
