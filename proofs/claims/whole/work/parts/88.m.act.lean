/-! act: what hooks do -/
def ownC (k a : Nat) : Nat := [1, 10, 11, 2, 20, 0, 0, 0, 0, 30, 0, 0, 0, 41, 40, 0, 0, 0, 50, 0, 0, 0, 0, 60, 70, 0, 0, 0, 0, 80, 0, 81].getD (4 * k + a) 0
def kapF : Nat → Nat → Nat → Nat
  | 0, k, _ => k
  | f + 1, k, a => if ownC k a = 0 then kapF f (upK k) a else k
def kap (k a : Nat) : Nat := kapF 8 k a
/-- the calls of a code: whether from the body's own kind, and which act -/
def callsC (c : Nat) : List (Bool × Nat) :=
  if c = 2 then [(true, 1), (true, 2)] else if c = 10 then [(true, 0)] else if c = 20 then [(false, 0)] else if c = 30 then [(false, 1)] else if c = 40 then [(false, 2)] else if c = 41 then [(false, 1)] else if c = 50 then [(false, 2), (true, 0)] else if c = 60 then [(false, 3)] else if c = 70 then [(false, 0)] else if c = 80 then [(false, 1), (true, 2)] else if c = 81 then [(false, 3)] else []
def depA : Nat → Nat → Nat → Nat → Bool
  | 0, _, _, _ => false
  | f + 1, bk, k, a => (callsC (ownC (kap k a) a)).all (fun w => depA f bk (if w.1 then bk else upK (kap k a)) w.2)
def codA : Nat → Nat → Nat → Nat → List Nat
  | 0, _, _, _ => []
  | f + 1, bk, k, a => ownC (kap k a) a :: (callsC (ownC (kap k a) a)).flatMap (fun w => codA f bk (if w.1 then bk else upK (kap k a)) w.2)
theorem dep_ok : ∀ bk, bk < 8 → ∀ a, a < 4 → depA 6 bk bk a = true := by decide +kernel
theorem cod_ok : ∀ bk, bk < 8 → ∀ a, a < 4 → (codA 6 bk bk a).length ≤ 14 := by decide +kernel
theorem kap_ok : ∀ k, k < 8 → ∀ a, a < 4 → kap k a < 8 ∧ ownC (kap k a) a ≠ 0 := by decide +kernel
theorem own_cs : ∀ k, k < 8 → ∀ a, a < 4 → (ownC (kap k a) a = 1 ∨ ownC (kap k a) a = 2 ∨ ownC (kap k a) a = 10 ∨ ownC (kap k a) a = 11 ∨ ownC (kap k a) a = 20 ∨ ownC (kap k a) a = 30 ∨ ownC (kap k a) a = 40 ∨ ownC (kap k a) a = 41 ∨ ownC (kap k a) a = 50 ∨ ownC (kap k a) a = 60 ∨ ownC (kap k a) a = 70 ∨ ownC (kap k a) a = 80 ∨ ownC (kap k a) a = 81) := by decide +kernel
theorem own_ST : ∀ k, k < 8 → ∀ a, a < 4 → ST 203 (4 * k + a) = nI (ownC k a) := by decide +kernel
def actV : Nat → Nat → Int32 → Nat → Nat → Int32 → Int32
  | 0, _, _, _, _, _ => 0
  | f + 1, bk, b, k, a, x =>
    if ownC (kap k a) a = 1 then x + b
    else if ownC (kap k a) a = 2 then actV f bk b bk 1 x - actV f bk b bk 2 1
    else if ownC (kap k a) a = 10 then actV f bk b bk 0 x * 2
    else if ownC (kap k a) a = 11 then x ^^^ b
    else if ownC (kap k a) a = 20 then actV f bk b (upK (kap k a)) 0 x + 3
    else if ownC (kap k a) a = 30 then -actV f bk b (upK (kap k a)) 1 x
    else if ownC (kap k a) a = 40 then actV f bk b (upK (kap k a)) 2 x * 3
    else if ownC (kap k a) a = 41 then actV f bk b (upK (kap k a)) 1 (x + 1)
    else if ownC (kap k a) a = 50 then actV f bk b (upK (kap k a)) 2 x - actV f bk b bk 0 2
    else if ownC (kap k a) a = 60 then actV f bk b (upK (kap k a)) 3 x ^^^ 5
    else if ownC (kap k a) a = 70 then actV f bk b (upK (kap k a)) 0 x * 2
    else if ownC (kap k a) a = 80 then actV f bk b (upK (kap k a)) 1 x + actV f bk b bk 2 2
    else actV f bk b (upK (kap k a)) 3 x - 1
/-- codes are noted: how many at slot (oc, kc), the first 24 at ot -/
def TrR (oc kc ot : Nat) (h h' : AH) (R : Nat) (cs : List Nat) : Prop := h'.1 oc kc = nI (R + cs.length) ∧ (∀ i, i < 24 → h'.1 ot i = if R ≤ i ∧ i < R + cs.length then nI (cs.getD (i - R) 0) else h.1 ot i) ∧ Fr (fun o k => (o = oc ∧ k = kc) ∨ o = ot) h h'
theorem TrR.tr {oc kc ot R : Nat} {h h1 h2 : AH} {cs ds : List Nat} (a : TrR oc kc ot h h1 R cs) (b : TrR oc kc ot h1 h2 (R + cs.length) ds) : TrR oc kc ot h h2 R (cs ++ ds) := by
  obtain ⟨a1, a2, a3⟩ := a
  obtain ⟨b1, b2, b3⟩ := b
  refine ⟨by rw [b1, List.length_append, Nat.add_assoc], fun i hi => ?_, a3.tr b3⟩
  rw [b2 i hi, a2 i hi, List.length_append]
  by_cases c1 : R ≤ i ∧ i < R + cs.length
  · rw [if_neg (by omega), if_pos c1, if_pos (by omega), List.getD_eq_getElem?_getD, List.getD_eq_getElem?_getD, List.getElem?_append_left (by omega)]
  · by_cases c2 : R + cs.length ≤ i ∧ i < R + cs.length + ds.length
    · rw [if_pos c2, if_pos (by omega), List.getD_eq_getElem?_getD, List.getD_eq_getElem?_getD, List.getElem?_append_right (by omega), show i - (R + cs.length) = i - R - cs.length by omega]
    · rw [if_neg c2, if_neg c1, if_neg (by omega)]
