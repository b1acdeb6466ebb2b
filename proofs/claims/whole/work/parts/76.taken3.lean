theorem c_tak {n : Nat} {d : Dt} {μ : ax_M} (h : RC n d μ) (x1 x2 : Int32) : m_X9_taken x1 x2 μ = some (s_tak n d x1 x2) := by
  have hn := h.1
  unfold m_X9_taken s_tak
  by_cases h2 : x2 < 0
  · rw [if_pos h2, in_neg h2]
    rfl
  · rw [if_neg h2]
    obtain ⟨w, hw, rfl⟩ := nI_of h2
    rw [show s_in (nI w) 0 6 = decide (w ≤ 6) from in_n (b := 6) hw (by decide)]
    simp only [show (nI w ≤ 6) = (w ≤ 6) from nleL (k := 6) hw (by decide)]
    by_cases e0 : w ≤ 6
    · rw [if_pos e0]
      simp only [show decide (w ≤ 6) = true by simp [e0], if_true]
      by_cases h1 : x1 < 0
      · rw [if_pos h1, in_neg h1]
        rfl
      · rw [if_neg h1]
        obtain ⟨v, hv, rfl⟩ := nI_of h1
        rw [show s_in (nI v) 0 11 = decide (v ≤ 11) from in_n (b := 11) hv (by decide)]
        simp only [show (nI v < 12) = (v < 12) from nltL (k := 12) hv (by decide)]
        by_cases e1 : v < 12
        · have e1' : v ≤ 11 := by omega
          rw [if_pos e1]
          simp only [show decide (v ≤ 11) = true by simp [e1'], if_true]
          rw [nI_clamp (by omega), nI_clamp (by omega), nr6 (by omega), c_rug h.2.1, ob_some]
          have er : s_rug n (nI (v % 6)) = decide (v % 6 < n) := by
            unfold s_rug
            simp only [show (nI n ≤ nI (v % 6)) = (n ≤ v % 6) from nleL (by omega) (by omega)]
            have : ¬ nI (v % 6) < 0 := nneg (by omega)
            by_cases e : v % 6 < n
            · have : ¬ n ≤ v % 6 := by omega
              simp [*]
            · have : n ≤ v % 6 := by omega
              simp [*]
          rw [er]
          unfold m_X9_taken_56 m_X9_taken_81
          simp only [show (nI w = 6) = (w = 6) from neqL (k := 6) (by omega) (by decide), show (nI v < 6) = (v < 6) from nltL (k := 6) (by omega) (by decide), show ((6 : Int32) ≤ nI v) = (6 ≤ v) from nleL (a := 6) (by decide) (by omega), c_isA, ob_some]
          rw [ix_nI (show v % 6 < 6 by omega) (by decide)]
          simp only [ob_some]
          unfold s_tk
          by_cases e3 : v % 6 < n
          · rw [if_neg (by simp [bI, e3]), if_neg (show ¬ n ≤ v % 6 by omega), (h.2.2 (v % 6) e3).1, (h.2.2 (v % 6) e3).2.2.2.2.2.1]
            by_cases e4 : v < 6
            · have e5 : v % 6 = v := by omega
              have e7 : ¬ 6 ≤ v := by omega
              rw [e5]
              by_cases e6 : w = 6
              · simp [e4, e6, e7]
              · cases s_isA (d_k d v) (nI w) <;> simp [e4, e6, e7, bI]
            · have e5 : v % 6 = v - 6 := by omega
              have e7 : 6 ≤ v := by omega
              rw [e5]
              by_cases e6 : w = 6 <;> simp [e4, e6, e7]
          · rw [if_pos (by simp [bI, e3]), if_pos (show n ≤ v % 6 by omega)]
        · have e1' : ¬ v ≤ 11 := by omega
          rw [if_neg e1]
          simp [e1']
    · rw [if_neg e0]
      simp [e0]
