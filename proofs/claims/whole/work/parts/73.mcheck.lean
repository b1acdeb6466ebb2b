theorem m_cor (x : Int32) (μ : ax_M) : m_X10_areCorners x μ = some (bI (s_corI x)) := by
  unfold m_X10_areCorners
  rw [m_in, ob_some]
  by_cases h : x < 0
  · rw [in_neg h, if_pos (by simp [bI])]
    simp [s_corI, h, bI]
  · obtain ⟨v, hv, rfl⟩ := nI_of h
    rw [corI_n hv, nd100 hv, nr100 hv, show (3535 : Int32) = nI 3535 from rfl, in_n hv (by decide)]
    rw [nr6 (by omega), nr6 (by omega), nd6 (by omega), nd6 (by omega)]
    simp only [show (nI (v % 100) < 36) = (v % 100 < 36) from nltL (k := 36) (by omega) (by decide), show (nI ((v % 100) % 6) < nI ((v / 100) % 6)) = ((v % 100) % 6 < (v / 100) % 6) from nltL (by omega) (by omega), show (nI ((v % 100) / 6) < nI ((v / 100) / 6)) = ((v % 100) / 6 < (v / 100) / 6) from nltL (by omega) (by omega)]
    unfold s_cor bI
    by_cases e0 : v ≤ 3535 <;> by_cases e1 : v / 100 < 36 <;> by_cases e2 : v % 100 < 36 <;> by_cases e3 : (v % 100) % 6 < (v / 100) % 6 <;> by_cases e4 : (v % 100) / 6 < (v / 100) / 6 <;> first | omega | (simp [e0, e1, e2, e3, e4]; done) | (simp [e0, e1, e2, e3, e4]; omega)
theorem corI_of {x : Int32} (h : s_corI x = true) : ∃ v, v < 2 ^ 31 ∧ x = nI v ∧ s_cor v = true := by
  have h0 : ¬ x < 0 := by
    intro z
    simp [s_corI, z] at h
  obtain ⟨v, hv, rfl⟩ := nI_of h0
  exact ⟨v, hv, rfl, by rw [corI_n hv] at h; exact h⟩
