theorem fit_eq {a b p : Nat} (h1 : a % 6 ≤ b % 6) (h2 : a / 6 ≤ b / 6) : p % 6 + (b % 6 - a % 6) < 6 → (p + b - a < 36 ↔ p / 6 + (b / 6 - a / 6) < 6) ∧ (p + b - a) % 6 = p % 6 + (b % 6 - a % 6) ∧ (p + b - a) / 6 = p / 6 + (b / 6 - a / 6) := by
  intro h
  omega
theorem c_rnow2 {n : Nat} {d : Dt} {μ : ax_M} (h : RC n d μ) (hl : LC d μ) {r : Nat} (hr : r < n) : ∃ μ2, m_X0_ruledNow (nI r) μ = some (s_cnt (s_rul d n (s_awk d (μ 25 2))) r, μ2) ∧ Ch S3 μ μ2 := by
  obtain ⟨μ2, e1, e2, -⟩ := c_rnow h hl hr
  refine ⟨μ2, ?_, e2⟩
  rw [e1]
  unfold s_cnt
  simp only [inB_1]
theorem LC.ch2 {d : Dt} {μ μ2 : ax_M} {S : Nat → Nat → Bool} (h : LC d μ) (hc : Ch S μ μ2) (hS : ∀ k i, (3 ≤ k ∧ k ≤ 15) ∨ k = 25 → S k i = false) : LC d μ2 := by
  intro μ1 h1 h2 p hp
  refine h μ1 (fun k a b => ?_) ?_ p hp
  · rw [h1 k a b]
    funext i
    exact hc k i (hS k i (Or.inl ⟨a, b⟩))
  · rw [h2]
    exact hc 25 3 (hS 25 3 (Or.inr rfl))
def Sp (k : Nat) (_ : Nat) : Bool := k == 16 || k == 17 || k == 32 || k == 28 || k == 29 || k == 30
theorem SpL (k i : Nat) (h : (3 ≤ k ∧ k ≤ 15) ∨ k = 25) : Sp k i = false := by simp [Sp]; omega
theorem S3p (k i : Nat) (h : Sp k i = false) : S3 k i = false := by simp [S3, Sp] at *; omega
theorem Srp (k i : Nat) (h : Sp k i = false) : Sr k i = false := by simp [Sr, Sp] at *; omega
