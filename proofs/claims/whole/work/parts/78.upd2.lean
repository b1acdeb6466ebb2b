def Sk (k : Nat) (_ : Nat) : Bool := k == 26 || k == 27
def Tk (k : Nat) (_ : Nat) : Bool := k == 52 || k == 53
theorem RC.sk {n : Nat} {d : Dt} {μ μ2 : ax_M} {k m : Nat → Int32} (h : RC n d μ) (hc : Ch Sk μ μ2) (hk : ∀ q, q < n → μ2 26 q = k q) (hm : ∀ q, q < n → μ2 27 q = m q) : RC n (d_sk d k m) μ2 := by
  obtain ⟨h1, h2, h3⟩ := h
  refine ⟨h1, by rw [hc 25 1 rfl]; exact h2, fun r hr => ?_⟩
  obtain ⟨-, -, a3, a4, a5, a6, a7, a8, a9, a10⟩ := h3 r hr
  exact ⟨hk r hr, hm r hr, by rw [hc 28 r rfl]; exact a3, by rw [hc 29 r rfl]; exact a4, by rw [hc 30 r rfl]; exact a5, by rw [hc 31 r rfl]; exact a6, a7, a8, a9, a10⟩
theorem RM.sk {n : Nat} {d : Dt} {μ μ2 : ax_M} {k m : Nat → Int32} (h : RM n d μ) (hc : Ch Tk μ μ2) (hk : ∀ q, q < n → μ2 52 q = k q) (hm : ∀ q, q < n → μ2 53 q = m q) : RM n (d_sk d k m) μ2 := by
  obtain ⟨h1, h2, h3⟩ := h
  refine ⟨h1, by rw [hc 51 0 rfl]; exact h2, fun r hr => ?_⟩
  obtain ⟨-, -, a3, a4, a5, a7, a8, a9, a10⟩ := h3 r hr
  exact ⟨hk r hr, hm r hr, by rw [hc 54 _ rfl]; exact a3, by rw [hc 54 _ rfl]; exact a4, by rw [hc 54 _ rfl]; exact a5, a7, a8, a9, a10⟩
theorem LC.sk {d : Dt} {μ : ax_M} {k m : Nat → Int32} (h : LC d μ) : LC (d_sk d k m) μ := h
theorem LM.sk {d : Dt} {μ : ax_M} {k m : Nat → Int32} (h : LM d μ) : LM (d_sk d k m) μ := h
theorem LC.sr {d : Dt} {μ : ax_M} {a b : Nat → Nat} (h : LC d μ) : LC (d_sr d a b) μ := h
theorem LM.sr {d : Dt} {μ : ax_M} {a b : Nat → Nat} (h : LM d μ) : LM (d_sr d a b) μ := h
