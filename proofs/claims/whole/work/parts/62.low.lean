/-! ===== lowest terms ===== -/
def s_low (a b : Nat) (p : Int32) : Int64 := if a = 0 then p.toInt64 else lN ((if p = 0 then a else b) / Nat.gcd a b)
theorem gcd_s (a b : Nat) : Nat.gcd a b = Nat.gcd b (a % b) := by
  rw [Nat.gcd_comm a b, Nat.gcd_rec b a, Nat.gcd_comm]
theorem c_low8 (x0 x1 x2 : Int32) (μ : ax_M) : ∀ (b a i k : Nat), b + i < 1000 → b < k → a < 2 ^ 31 → m_X9_inLowestTerms_8 x0 x1 x2 μ k (nI a) (nI b) (nI i) = m_X9_inLowestTerms_40 x0 x1 x2 (nI (Nat.gcd a b)) μ := by
  intro b
  induction b using Nat.strongRecOn with
  | _ b ih =>
    intro a i k hi hk ha
    obtain ⟨k, rfl⟩ : ∃ k2, k = k2 + 1 := ⟨k - 1, by omega⟩
    rw [m_X9_inLowestTerms_8, if_neg (show ¬ (1000 : Int32) ≤ nI i by rw [show (1000 : Int32) = nI 1000 from rfl, nleL (by omega) (by omega)]; omega)]
    simp only [show (nI b = 0) = (b = 0) from neqL (k := 0) (by omega) (by decide)]
    by_cases e : b = 0
    · subst e
      rw [if_pos rfl, Nat.gcd_zero_right]
    · rw [if_neg e, if_neg e, na1, show rmI (nI a) (nI b) = nI (a % b) from pk_rem ha (by omega) (by omega), gcd_s a b]
      have hlt := Nat.mod_lt a (show 0 < b by omega)
      exact ih (a % b) hlt b (i + 1) k (by omega) (by omega) (by omega)
theorem c_lowt {a b : Nat} {p : Int32} (μ : ax_M) (ha : a < 2 ^ 31) (hb0 : 0 < b) (hb : b < 1000) (hp : p = 0 ∨ p = 1) : m_X9_inLowestTerms (nI a) (nI b) p μ = some (s_low a b p) := by
  unfold m_X9_inLowestTerms
  have hfu : 1000 ≤ fu := by decide
  rw [show m_X9_inLowestTerms_8 (nI a) (nI b) p μ fu (nI a) (nI b) 0 = _ from c_low8 (nI a) (nI b) p μ b a 0 fu (by omega) (by omega) ha]
  have hg : 0 < Nat.gcd a b := Nat.gcd_pos_of_pos_right a hb0
  have hgb : Nat.gcd a b ≤ b := Nat.gcd_le_right a hb0
  have hg0 : ¬ nI (Nat.gcd a b) = 0 := nI_ne0 hg (by omega)
  unfold m_X9_inLowestTerms_40 m_X9_inLowestTerms_49 s_low
  simp only [if_neg hg0, show nI a / nI (Nat.gcd a b) = nI (a / Nat.gcd a b) from pk_div ha hg (by omega), show nI b / nI (Nat.gcd a b) = nI (b / Nat.gcd a b) from pk_div (by omega) hg (by omega)]
  have hda : a / Nat.gcd a b ≤ a := Nat.div_le_self _ _
  have hdb : b / Nat.gcd a b ≤ b := Nat.div_le_self _ _
  rw [nI_l (by omega), nI_l (by omega)]
  by_cases e : a = 0
  · subst e
    rw [if_pos rfl, Nat.gcd_zero_left, Nat.div_self hb0, Nat.zero_div]
    rcases hp with rfl | rfl
    · rfl
    · rfl
  · rw [if_neg e]
    rcases hp with rfl | rfl
    · rfl
    · rfl
theorem lg_eq (x y : Int64) : (lg_cmp x y = 0) = (x = y) := by
  unfold lg_cmp
  by_cases h : x > y
  · rw [if_pos h]
    apply propext
    constructor
    · intro z
      exact absurd z (by decide)
    · intro z
      rw [z] at h
      exact absurd h Int64.lt_irrefl
  · rw [if_neg h]
    by_cases e : x = y
    · rw [if_pos e]
      simp [e]
    · rw [if_neg e]
      simp [e]
theorem m_low16 (x0 x2 : Int64) (p : Int32) (μ : ax_M) : ∀ (b a k : Nat), b < k → a < 2 ^ 31 → b < 2 ^ 31 → 0 < Nat.gcd a b → m_X10_lowest_16 x0 x2 p μ k (lN a) (lN b) = some (if p = 0 then x0 / lN (Nat.gcd a b) else x2 / lN (Nat.gcd a b)) := by
  intro b
  induction b using Nat.strongRecOn with
  | _ b ih =>
    intro a k hk ha hb hg
    obtain ⟨k, rfl⟩ : ∃ k2, k = k2 + 1 := ⟨k - 1, by omega⟩
    rw [m_X10_lowest_16]
    simp only [lg_eq, show (lN b = 0) = (b = 0) from propext (lN_eq (b := 0) (by omega) (by decide)), show (lN a = 0) = (a = 0) from propext (lN_eq (b := 0) (by omega) (by decide))]
    by_cases e : b = 0
    · subst e
      rw [Nat.gcd_zero_right] at hg ⊢
      have : ¬ a = 0 := by omega
      rw [if_pos rfl]
      by_cases e2 : p = 0
      · rw [if_pos e2, if_neg this, if_pos e2]
      · rw [if_neg e2, if_neg this, if_neg e2]
    · have hlt := Nat.mod_lt a (show 0 < b by omega)
      rw [if_neg e, if_neg e, show rmL (lN a) (lN b) = lN (a % b) from pk_lRem (by omega) (by omega) (by omega), gcd_s a b]
      rw [gcd_s a b] at hg
      exact ih (a % b) hlt b k (by omega) (by omega) (by omega) hg
theorem m_lowt {a b : Nat} {p : Int32} (μ : ax_M) (ha : a < 2 ^ 31) (hb0 : 0 < b) (hb : b < 1000) (hp : p = 0 ∨ p = 1) : m_X10_lowest (lN a) (lN b) p μ = some (s_low a b p) := by
  unfold m_X10_lowest s_low
  simp only [lg_eq, show (lN a = 0) = (a = 0) from propext (lN_eq (b := 0) (by omega) (by decide))]
  by_cases e : a = 0
  · rw [if_pos e, if_pos e]
  · have hg : 0 < Nat.gcd a b := Nat.gcd_pos_of_pos_right a hb0
    have hgb : Nat.gcd a b ≤ b := Nat.gcd_le_right a hb0
    have hfu : 1000 ≤ fu := by decide
    rw [if_neg e, if_neg e, m_low16 (lN a) (lN b) p μ b a fu (by omega) ha (by omega) hg]
    rw [show lN a / lN (Nat.gcd a b) = lN (a / Nat.gcd a b) from pk_lDiv (by omega) hg (by omega), show lN b / lN (Nat.gcd a b) = lN (b / Nat.gcd a b) from pk_lDiv (by omega) hg (by omega)]
    by_cases e2 : p = 0
    · rw [if_pos e2, if_pos e2]
    · rw [if_neg e2, if_neg e2]
