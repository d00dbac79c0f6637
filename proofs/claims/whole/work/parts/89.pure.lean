theorem pure_law (L : Nat) (xs : Nat → Int32) (hL : L ≤ 3072) : ∃ h', fL_law_18 xs L FU 0 h0 = some (1, h') := sorry
