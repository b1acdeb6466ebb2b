theorem law_pure (xs : Nat → Int32) (L : Nat) (hL : L ≤ 3584) (μ : ax_M) : ∃ μ2 : ax_M, m_L_law xs L μ = some (1, μ2) := sorry
