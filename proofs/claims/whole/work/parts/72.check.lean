/-! ===== what arguments are checked for ===== -/
def s_in (x a b : Int32) : Bool := decide (¬ x < a) && decide (¬ b < x)
theorem m_in (x a b : Int32) (μ : ax_M) : m_X10_in x a b μ = some (bI (s_in x a b)) := by
  unfold m_X10_in s_in bI
  by_cases h1 : x < a <;> by_cases h2 : b < x <;> simp [h1, h2]
theorem in_of {x : Int32} {b : Nat} (hb : b < 2 ^ 31 - 1) (h : s_in x 0 (nI b) = true) : ∃ j, j ≤ b ∧ x = nI j := by
  unfold s_in at h
  simp only [Bool.and_eq_true, decide_eq_true_eq] at h
  obtain ⟨h1, h2⟩ := h
  obtain ⟨j, hj, rfl⟩ := nI_of h1
  refine ⟨j, ?_, rfl⟩
  rw [nltL (by omega) hj] at h2
  omega
theorem in_n {j b : Nat} (hj : j < 2 ^ 31) (hb : b < 2 ^ 31) : s_in (nI j) 0 (nI b) = decide (j ≤ b) := by
  unfold s_in
  have h1 : ¬ nI j < 0 := nneg hj
  simp only [show (nI b < nI j) = (b < j) from nltL hb hj]
  by_cases e : j ≤ b
  · simp [h1, e]
  · simp [h1, e]
theorem in_neg {x b : Int32} (h : x < 0) : s_in x 0 b = false := by
  unfold s_in
  simp [h]
def s_cell (x : Int32) : Bool := s_in x 0 35
theorem cell_of {x : Int32} (h : s_cell x = true) : ∃ c, c < 36 ∧ x = nI c := by
  obtain ⟨j, hj, e⟩ := in_of (b := 35) (by decide) h
  exact ⟨j, by omega, e⟩
theorem m_cel (x : Int32) (μ : ax_M) : m_X10_isCell x μ = some (bI (s_cell x)) := by
  unfold m_X10_isCell
  rw [m_in, ob_some]
  unfold s_cell
  cases s_in x 0 35 <;> simp [bI]
theorem c_cel (x : Int32) (μ : ax_M) : m_X9_isCell x μ = some (bI (s_cell x)) := by
  unfold m_X9_isCell s_cell
  by_cases h : x < 0
  · rw [if_pos h, in_neg h]
    rfl
  · rw [if_neg h]
    obtain ⟨j, hj, rfl⟩ := nI_of h
    rw [show (35 : Int32) = nI 35 from rfl, in_n hj (by decide)]
    simp only [show ((36 : Int32) ≤ nI j) = (36 ≤ j) from nleL (a := 36) (by decide) hj]
    by_cases e : 36 ≤ j
    · have : ¬ j ≤ 35 := by omega
      simp [e, this, bI]
    · have : j ≤ 35 := by omega
      simp [e, this, bI]
def s_rug (n : Nat) (x : Int32) : Bool := decide (¬ x < 0) && decide (¬ nI n ≤ x)
theorem rug_of {n : Nat} {x : Int32} (hn : n ≤ 6) (h : s_rug n x = true) : ∃ r, r < n ∧ x = nI r := by
  unfold s_rug at h
  simp only [Bool.and_eq_true, decide_eq_true_eq] at h
  exact isN h.1 h.2 (by omega)
theorem c_rug {n : Nat} {x : Int32} {μ : ax_M} (h : μ 25 1 = nI n) : m_X0_isRug x μ = some (bI (s_rug n x)) := by
  unfold m_X0_isRug s_rug bI
  rw [h]
  by_cases h1 : x < 0 <;> by_cases h2 : nI n ≤ x <;> simp [h1, h2]
theorem m_rug {n : Nat} {x : Int32} {μ : ax_M} (hn : n ≤ 6) (h : μ 51 0 = nI n) : m_X10_isRug x μ = some (bI (s_rug n x)) := by
  unfold m_X10_isRug
  rw [h, m_in, ob_some]
  have e : s_in x 0 (nI n - 1) = s_rug n x := by
    unfold s_in s_rug
    by_cases h1 : x < 0
    · simp [h1]
    · obtain ⟨j, hj, rfl⟩ := nI_of h1
      have e2 : (nI n - 1 < nI j) = (nI n ≤ nI j) := by
        cases n with
        | zero =>
          apply propext
          constructor
          · intro _
            exact nI_le (by omega) hj
          · intro _
            rw [Int32.lt_iff_toInt_lt, nI_toInt hj]
            have : (nI 0 - 1).toInt = -1 := by decide
            omega
        | succ n =>
          rw [nI_pred, nltL (by omega) hj, nleL (by omega) hj]
          exact propext ⟨fun h => by omega, fun h => by omega⟩
      simp only [e2]
  rw [e]
  cases s_rug n x <;> simp [bI]
/-- two corners in one number -/
def s_cor (v : Nat) : Bool := decide (v / 100 < 36) && decide (v % 100 < 36) && decide ((v / 100) % 6 ≤ (v % 100) % 6) && decide ((v / 100) / 6 ≤ (v % 100) / 6)
def s_corI (x : Int32) : Bool := decide (¬ x < 0) && s_cor x.toNatClampNeg
theorem corI_n {v : Nat} (hv : v < 2 ^ 31) : s_corI (nI v) = s_cor v := by
  unfold s_corI
  rw [nI_clamp hv]
  simp [nneg hv]
theorem cel_n {v : Nat} (hv : v < 2 ^ 31) : s_cell (nI v) = decide (v < 36) := by
  unfold s_cell
  rw [show (35 : Int32) = nI 35 from rfl, in_n hv (by decide)]
  by_cases e : v < 36
  · have : v ≤ 35 := by omega
    simp [e, this]
  · have : ¬ v ≤ 35 := by omega
    simp [e, this]
theorem c_cor (x : Int32) (μ : ax_M) : m_X9_areCorners x μ = some (bI (s_corI x)) := by
  unfold m_X9_areCorners m_X9_columnOf m_X9_rowOf
  by_cases h : x < 0
  · rw [if_pos h]
    simp [s_corI, h, bI]
  · rw [if_neg h]
    obtain ⟨v, hv, rfl⟩ := nI_of h
    rw [corI_n hv, nd100 hv, nr100 hv, c_cel, c_cel, cel_n (by omega), cel_n (by omega)]
    simp only [ob_some]
    rw [nr6 (by omega), nr6 (by omega), nd6 (by omega), nd6 (by omega)]
    simp (disch := omega) only [nltL]
    unfold s_cor bI
    by_cases e1 : v / 100 < 36 <;> by_cases e2 : v % 100 < 36 <;> by_cases e3 : (v % 100) % 6 < (v / 100) % 6 <;> by_cases e4 : (v % 100) / 6 < (v / 100) / 6 <;> simp [e1, e2, e3, e4] <;> omega
