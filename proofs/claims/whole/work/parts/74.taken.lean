/-! ===== taken ===== -/
def s_isA (k x : Int32) : Bool := decide (x = 0) || (decide (x = 1) && (decide (k = 1) || decide (k = 3))) || (decide (x = 2) && (decide (k = 2) || decide (k = 4))) || decide (k = x)
theorem c_isA (k x : Int32) (μ : ax_M) : m_X9_isA k x μ = some (bI (s_isA k x)) := by
  unfold m_X9_isA s_isA bI
  by_cases x0 : x = 0
  · subst x0
    simp
  · by_cases x1 : x = 1
    · subst x1
      by_cases k1 : k = 1 <;> by_cases k3 : k = 3 <;> simp [k1, k3]
    · by_cases x2 : x = 2
      · subst x2
        by_cases k1 : k = 2 <;> by_cases k3 : k = 4 <;> simp [k1, k3]
      · by_cases e : k = x <;> simp [x0, x1, x2, e]
theorem m_isU (k x : Int32) (μ : ax_M) : m_X10_isUnder k x μ = some (bI (s_isA k x)) := by
  unfold m_X10_isUnder m_X10_isUnder_19 s_isA bI
  by_cases x0 : x = 0
  · subst x0
    simp
  · by_cases x1 : x = 1
    · subst x1
      by_cases k1 : k = 1 <;> by_cases k3 : k = 3 <;> simp [k1, k3]
    · by_cases x2 : x = 2
      · subst x2
        by_cases k1 : k = 2 <;> by_cases k3 : k = 4 <;> simp [k1, k3]
      · by_cases e : k = x <;> simp [x0, x1, x2, e]
