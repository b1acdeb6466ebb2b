def Tr (k : Nat) (i : Nat) : Bool := k == 54 && i % 3 != 2
theorem m_lay {n r a b : Nat} {d : Dt} {μ : ax_M} (h : RM n d μ) (hr : r < n) (ha : a < 36) (hb : b < 36) (h1 : a % 6 ≤ b % 6) (h2 : a / 6 ≤ b / 6) : RM n (d_sr d (s_pt (d_a d) r a) (s_pt (d_b d) r b)) (ax_w (ax_w μ 54 (3 * r) (nI a)) 54 (3 * r + 1) (nI b)) ∧ Ch Tr μ (ax_w (ax_w μ 54 (3 * r) (nI a)) 54 (3 * r + 1) (nI b)) := by
  obtain ⟨hn, h51, h3⟩ := h
  refine ⟨⟨hn, by rw [w_k (by decide), w_k (by decide)]; exact h51, fun q hq => ?_⟩, (Ch.rf.w (by simp [Tr])).w (by simp [Tr])⟩
  obtain ⟨a1, a2, a3, a4, a5, a7, a8, a9, a10⟩ := h3 q hq
  have hA : d_a (d_sr d (s_pt (d_a d) r a) (s_pt (d_b d) r b)) q = if q = r then a else d_a d q := rfl
  have hB : d_b (d_sr d (s_pt (d_a d) r a) (s_pt (d_b d) r b)) q = if q = r then b else d_b d q := rfl
  rw [hA, hB]
  have g : (ax_w (ax_w μ 54 (3 * r) (nI a)) 54 (3 * r + 1) (nI b)) 54 (3 * q + 2) = d_g d q := by
    rw [w_i (by omega), w_i (by omega)]
    exact a5
  by_cases e : q = r
  · subst e
    simp only [if_true]
    exact ⟨by rw [w_k (by decide), w_k (by decide)]; exact a1, by rw [w_k (by decide), w_k (by decide)]; exact a2, by rw [w_i (by omega), w_ss], w_ss, g, ha, hb, h1, h2⟩
  · simp only [if_neg e]
    exact ⟨by rw [w_k (by decide), w_k (by decide)]; exact a1, by rw [w_k (by decide), w_k (by decide)]; exact a2, by rw [w_i (by omega), w_i (by omega)]; exact a3, by rw [w_i (by omega), w_i (by omega)]; exact a4, g, a7, a8, a9, a10⟩
