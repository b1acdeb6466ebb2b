theorem fit_eq {a b p : Nat} (h1 : a % 6 ≤ b % 6) (h2 : a / 6 ≤ b / 6) : p % 6 + (b % 6 - a % 6) < 6 → (p + b - a < 36 ↔ p / 6 + (b / 6 - a / 6) < 6) ∧ (p + b - a) % 6 = p % 6 + (b % 6 - a % 6) ∧ (p + b - a) / 6 = p / 6 + (b / 6 - a / 6) := by
  intro h
  omega
theorem c_rnow2 {n : Nat} {d : Dt} {μ : ax_M} (h : RC n d μ) (hl : LC d μ) {r : Nat} (hr : r < n) : ∃ μ2, m_X0_ruledNow (nI r) μ = some (s_cnt (s_rul d n (s_awk d (μ 25 2))) r, μ2) ∧ Ch S3 μ μ2 := by
  obtain ⟨μ2, e1, e2, -⟩ := c_rnow h hl hr
  refine ⟨μ2, ?_, e2⟩
  rw [e1]
  unfold s_cnt
  simp only [inB_1]
