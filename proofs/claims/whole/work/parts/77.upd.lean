/-! ===== the rugs, with one thing changed ===== -/
def d_sf (d : Dt) (f : Nat → Int32 → Int32 → Int32 → Int32 → Int32 → Int32 → Int32) : Dt := (f, d.2)
def d_sk (d : Dt) (k m : Nat → Int32) : Dt := (d.1, k, m, d.2.2.2)
def d_sg (d : Dt) (g : Nat → Int32) : Dt := (d.1, d.2.1, d.2.2.1, g, d.2.2.2.2)
def d_sr (d : Dt) (a b : Nat → Nat) : Dt := (d.1, d.2.1, d.2.2.1, d.2.2.2.1, a, b)
theorem RC.sf {n : Nat} {d : Dt} {μ : ax_M} {f} (h : RC n d μ) : RC n (d_sf d f) μ := h
theorem RM.sf {n : Nat} {d : Dt} {μ : ax_M} {f} (h : RM n d μ) : RM n (d_sf d f) μ := h
theorem RC.sg {n : Nat} {d : Dt} {μ μ2 : ax_M} {g : Nat → Int32} (h : RC n d μ) (hc : Ch Sg μ μ2) (hg : ∀ q, q < n → μ2 31 q = g q) : RC n (d_sg d g) μ2 := by
  obtain ⟨h1, h2, h3⟩ := h
  refine ⟨h1, by rw [hc 25 1 rfl]; exact h2, fun r hr => ?_⟩
  obtain ⟨a1, a2, a3, a4, a5, -, a7, a8, a9, a10⟩ := h3 r hr
  exact ⟨by rw [hc 26 r rfl]; exact a1, by rw [hc 27 r rfl]; exact a2, by rw [hc 28 r rfl]; exact a3, by rw [hc 29 r rfl]; exact a4, by rw [hc 30 r rfl]; exact a5, hg r hr, a7, a8, a9, a10⟩
theorem RM.sg {n : Nat} {d : Dt} {μ μ2 : ax_M} {g : Nat → Int32} (h : RM n d μ) (hc : Ch Tg μ μ2) (hg : ∀ q, q < n → μ2 54 (3 * q + 2) = g q) : RM n (d_sg d g) μ2 := by
  obtain ⟨h1, h2, h3⟩ := h
  refine ⟨h1, by rw [hc 51 0 rfl]; exact h2, fun r hr => ?_⟩
  obtain ⟨a1, a2, a3, a4, -, a7, a8, a9, a10⟩ := h3 r hr
  exact ⟨by rw [hc 52 r rfl]; exact a1, by rw [hc 53 r rfl]; exact a2, by rw [hc 54 _ (by simp [Tg])]; exact a3, by rw [hc 54 _ (by simp [Tg])]; exact a4, hg r hr, a7, a8, a9, a10⟩
theorem LC.sg {d : Dt} {μ : ax_M} {g : Nat → Int32} (h : LC d μ) : LC (d_sg d g) μ := h
theorem LM.sg {d : Dt} {μ : ax_M} {g : Nat → Int32} (h : LM d μ) : LM (d_sg d g) μ := h
