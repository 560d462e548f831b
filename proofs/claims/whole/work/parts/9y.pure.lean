theorem pure_main (L : Nat) (hL : L ≤ 3072) (xs : Nat → Int32) : ∃ z1, m_L_law (L, xs) z0 = some (1, z1) := by
  sorry
