def s_tk (n : Nat) (d : Dt) (v w : Nat) : Int32 := if n ≤ v % 6 then -11 else if v < 6 then (if w = 6 then -13 else if s_isA (d_k d v) (nI w) then nI v else -13) else if w = 6 then d_g d (v - 6) else -13
def s_tak (n : Nat) (d : Dt) (x1 x2 : Int32) : Int32 := if s_in x2 0 6 then (if s_in x1 0 11 then s_tk n d x1.toNatClampNeg x2.toNatClampNeg else -12) else -2
theorem m_tak {n : Nat} {d : Dt} {μ : ax_M} (h : RM n d μ) (x1 x2 : Int32) : m_X10_taken x1 x2 μ = some (s_tak n d x1 x2) := by
  have hn := h.1
  unfold m_X10_taken s_tak
  rw [m_in, m_in, ob_some, ob_some]
  cases h2 : s_in x2 0 6 with
  | false => simp [bI]
  | true =>
    cases h1 : s_in x1 0 11 with
    | false => simp [bI]
    | true =>
      obtain ⟨w, hw, rfl⟩ := in_of (b := 6) (by decide) h2
      obtain ⟨v, hv, rfl⟩ := in_of (b := 11) (by decide) h1
      rw [if_neg (by simp [bI]), if_neg (by simp [bI]), if_pos rfl, if_pos rfl, nI_clamp (by omega), nI_clamp (by omega), nr6 (by omega), h.2.1]
      simp only [show (nI (v % 6) < nI n) = (v % 6 < n) from nltL (by omega) (by omega), show (nI v < 6) = (v < 6) from nltL (k := 6) (by omega) (by decide), show ((6 : Int32) ≤ nI w) = (6 ≤ w) from nleL (a := 6) (by decide) (by omega), show (nI w = 6) = (w = 6) from neqL (k := 6) (by omega) (by decide)]
      unfold s_tk
      by_cases e1 : v % 6 < n
      · rw [if_pos e1, if_neg (show ¬ n ≤ v % 6 by omega)]
        by_cases e2 : v < 6
        · rw [if_pos e2, if_pos e2]
          by_cases e3 : w = 6
          · rw [if_pos (by omega), if_pos e3]
          · rw [if_neg (by omega), if_neg e3, ix_nI e2 (by decide), ob_some, (h.2.2 v (by omega)).1, m_isU, ob_some]
            cases s_isA (d_k d v) (nI w) <;> simp [bI]
        · rw [if_neg e2, if_neg e2]
          by_cases e3 : w = 6
          · rw [if_pos e3, if_pos e3, show nI v - 6 = nI (v - 6) from pk_sub (b := 6) (by omega), n3, na2, ix_nI (show 3 * (v - 6) + 2 < 18 by omega) (by decide), ob_some, (h.2.2 (v - 6) (by omega)).2.2.2.2.1]
          · rw [if_neg e3, if_neg e3]
      · rw [if_neg e1, if_pos (show n ≤ v % 6 by omega)]
