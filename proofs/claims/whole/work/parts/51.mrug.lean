/-! ===== the model: rugs ===== -/
theorem n3 (r : Nat) : (3 : Int32) * nI r = nI (3 * r) := pk_mul 3 r
theorem na2 (c : Nat) : nI c + 2 = nI (c + 2) := nI_add c 2
def RM (n : Nat) (d : Dt) (μ : ax_M) : Prop := n ≤ 6 ∧ μ 51 0 = nI n ∧ ∀ r, r < n → μ 52 r = d_k d r ∧ μ 53 r = d_m d r ∧ μ 54 (3 * r) = nI (d_a d r) ∧ μ 54 (3 * r + 1) = nI (d_b d r) ∧ μ 54 (3 * r + 2) = d_g d r ∧ d_a d r < 36 ∧ d_b d r < 36 ∧ d_a d r % 6 ≤ d_b d r % 6 ∧ d_a d r / 6 ≤ d_b d r / 6
def LM (d : Dt) (μ : ax_M) : Prop := ∀ μ1 : ax_M, μ1 56 = μ 56 → μ1 57 = μ 57 → μ1 51 10 = μ 51 10 → ∀ p, p < 3 → ∃ μ2, m_X10_says (nI p) μ1 = some (d_f d p (μ1 67 0) (μ1 67 1) (μ1 67 2) (μ1 67 3) (μ1 67 4) (μ1 67 5), μ2) ∧ ∀ k, k ≠ 66 → μ2 k = μ1 k
def mN (k : Nat) (i : Nat) : Bool := (k == 51 && (i == 0 || i == 10)) || (k == 52 || k == 53 || k == 54 || k == 56 || k == 57)
theorem RM.ch {n : Nat} {d : Dt} {μ μ2 : ax_M} {S : Nat → Nat → Bool} (h : RM n d μ) (hc : Ch S μ μ2) (hS : ∀ k i, mN k i = true → S k i = false) : RM n d μ2 := by
  obtain ⟨h1, h2, h3⟩ := h
  refine ⟨h1, by rw [hc 51 0 (hS 51 0 rfl)]; exact h2, fun r hr => ?_⟩
  rw [hc 52 r (hS 52 r rfl), hc 53 r (hS 53 r rfl), hc 54 _ (hS 54 _ rfl), hc 54 _ (hS 54 _ rfl), hc 54 _ (hS 54 _ rfl)]
  exact h3 r hr
theorem LM.ch {d : Dt} {μ μ2 : ax_M} {S : Nat → Nat → Bool} (h : LM d μ) (hc : Ch S μ μ2) (hS : ∀ k i, mN k i = true → S k i = false) : LM d μ2 := by
  intro μ1 h1 h2 h3 p hp
  refine h μ1 ?_ ?_ ?_ p hp
  · rw [h1]
    funext i
    exact hc 56 i (hS 56 i rfl)
  · rw [h2]
    funext i
    exact hc 57 i (hS 57 i rfl)
  · rw [h3]
    exact hc 51 10 (hS 51 10 rfl)
def T2 (k : Nat) (_ : Nat) : Bool := k == 66 || k == 67
def T3 (k : Nat) (_ : Nat) : Bool := k == 66 || k == 67 || k == 68
theorem T2N (k i : Nat) (h : mN k i = true) : T2 k i = false := by simp [mN, T2] at *; omega
theorem T3N (k i : Nat) (h : mN k i = true) : T3 k i = false := by simp [mN, T3] at *; omega
theorem T23 (k i : Nat) (h : T3 k i = false) : T2 k i = false := by simp [T2, T3] at *; omega
theorem m_lie {n : Nat} {d : Dt} {μ : ax_M} (h : RM n d μ) {r c : Nat} (hr : r < n) (hc : c < 36) : m_X10_lies (nI r) (nI c) μ = some (bI (s_lie d r c)) := by
  obtain ⟨h1, h2, h3⟩ := h
  obtain ⟨-, -, ha, hb, -, la, lb, -, -⟩ := h3 r hr
  unfold m_X10_lies m_X10_in
  rw [n3, na1, ix_nI (by omega) (by decide), ix_nI (by omega) (by decide)]
  simp only [ob_some, ha, hb]
  rw [nr6 (by omega), nr6 (by omega), nr6 (by omega), nd6 (by omega), nd6 (by omega), nd6 (by omega)]
  simp (disch := omega) only [nltL]
  unfold s_lie bI
  by_cases a1 : c % 6 < d_a d r % 6
  · simp [a1]; omega
  · by_cases a2 : d_b d r % 6 < c % 6
    · simp [a1, a2]; omega
    · by_cases a3 : c / 6 < d_a d r / 6
      · simp [a1, a2, a3]; omega
      · by_cases a4 : d_b d r / 6 < c / 6 <;> simp [a1, a2, a3, a4] <;> omega
theorem m_frg {n : Nat} {d : Dt} {μ : ax_M} (h : RM n d μ) {r c : Nat} (hr : r < n) (hc : c < 36) : m_X10_isFringe (nI r) (nI c) μ = some (bI (s_frg d r c)) := by
  obtain ⟨h1, h2, h3⟩ := h
  obtain ⟨-, -, ha, hb, -, la, lb, -, -⟩ := h3 r hr
  unfold m_X10_isFringe m_X10_isFringe_49
  rw [n3, na1, ix_nI (by omega) (by decide), ix_nI (by omega) (by decide)]
  simp only [ob_some, ha, hb]
  rw [nr6 (by omega), nr6 (by omega), nr6 (by omega), nd6 (by omega), nd6 (by omega), nd6 (by omega)]
  simp (disch := omega) only [neqL]
  unfold s_frg bI
  by_cases a1 : c % 6 = d_a d r % 6 <;> by_cases a2 : c % 6 = d_b d r % 6 <;> by_cases a3 : c / 6 = d_a d r / 6 <;> by_cases a4 : c / 6 = d_b d r / 6 <;> simp [a1, a2, a3, a4]
theorem m_siz {n : Nat} {d : Dt} {μ : ax_M} (h : RM n d μ) {r : Nat} (hr : r < n) : m_X10_sizeOf (nI r) μ = some (nI (s_sz d r)) := by
  obtain ⟨h1, h2, h3⟩ := h
  obtain ⟨-, -, ha, hb, -, la, lb, l1, l2⟩ := h3 r hr
  unfold m_X10_sizeOf s_sz
  rw [n3, na1, ix_nI (by omega) (by decide), ix_nI (by omega) (by decide)]
  simp only [ob_some, ha, hb]
  rw [nr6 (by omega), nr6 (by omega), nd6 (by omega), nd6 (by omega), pk_sub l1, pk_sub l2, na1, na1, pk_mul]
theorem within99 (v : Int32) (μ : ax_M) : m_X10_within v 0 99 μ = some (mxI 0 (mnI 99 v)) := by
  unfold m_X10_within
  by_cases h0 : (0 : Int32) ≤ v
  · rw [if_pos h0]
    have hmx : mxI 0 v = v := by
      show (if 0 < v then v else 0) = v
      split
      · rfl
      · rename_i h
        exact Int32.le_antisymm h0 (Int32.not_lt.mp h)
    by_cases h1 : v ≤ 99
    · rw [if_pos h1]
      have hmn : mnI 99 v = v := by
        show (if v < 99 then v else 99) = v
        split
        · rfl
        · rename_i h
          exact Int32.le_antisymm (Int32.not_lt.mp h) h1
      rw [hmn, hmx]
    · rw [if_neg h1]
      have hmn : mnI 99 v = 99 := by
        show (if v < 99 then v else 99) = 99
        rw [if_neg (fun h => h1 (Int32.le_of_lt h))]
      rw [hmn]
      rfl
  · rw [if_neg h0]
    have hlt : v < 0 := Int32.not_le.mp h0
    have hmn : mnI 99 v = v := by
      show (if v < 99 then v else 99) = v
      rw [if_pos (Int32.lt_trans hlt (by decide))]
    rw [hmn]
    congr 1
    show 0 = (if 0 < v then v else 0)
    rw [if_neg (fun h => h0 (Int32.le_of_lt h))]
theorem m_say {n : Nat} {d : Dt} {μ : ax_M} (h : RM n d μ) (hl : LM d μ) {p r c : Nat} (hp : p < 3) (hr : r < n) (hc : c < 36) : ∃ μ2, m_X10_asksOf (nI p) (nI r) (nI c) μ = some (s_say d p r c (μ 51 4), μ2) ∧ Ch T2 μ μ2 := by
  have h0 := h
  obtain ⟨h1, h2, h3⟩ := h
  obtain ⟨-, hm, -, -, hg, la, lb, l1, l2⟩ := h3 r hr
  unfold m_X10_asksOf
  rw [n3, na2, ix_nI (show r < 6 by omega) (by decide), ix_nI (show 3 * r + 2 < 18 by omega) (by decide)]
  simp only [ob_some]
  rw [nr6 (by omega), nd6 (by omega)]
  simp only [w_k (show (51 : Nat) ≠ 67 by decide), w_k (show (53 : Nat) ≠ 67 by decide), w_k (show (54 : Nat) ≠ 67 by decide)]
  rw [hm, hg]
  generalize hμ : ax_w (ax_w (ax_w (ax_w μ 67 0 (nI (c % 6))) 67 1 (nI (c / 6))) 67 2 (μ 51 4)) 67 3 (d_g d r) = μ1
  have hc1 : Ch T2 μ μ1 := by
    rw [← hμ]
    exact ((((Ch.rf.w rfl).w rfl).w rfl).w rfl)
  rw [m_siz (h0.ch hc1 T2N) hr, ob_some]
  generalize hμ2 : ax_w (ax_w μ1 67 4 (nI (s_sz d r))) 67 5 (d_m d r) = μ2
  have hc2 : Ch T2 μ μ2 := by
    rw [← hμ2]
    exact (hc1.w rfl).w rfl
  obtain ⟨μ3, e1, e2⟩ := hl μ2 (funext fun i => hc2 56 i rfl) (funext fun i => hc2 57 i rfl) (hc2 51 10 rfl) p hp
  rw [e1, bind2_some]
  have n0 : μ2 67 0 = nI (c % 6) := by rw [← hμ2, ← hμ]; simp [ax_w]
  have n1 : μ2 67 1 = nI (c / 6) := by rw [← hμ2, ← hμ]; simp [ax_w]
  have n2 : μ2 67 2 = μ 51 4 := by rw [← hμ2, ← hμ]; simp [ax_w]
  have n3' : μ2 67 3 = d_g d r := by rw [← hμ2, ← hμ]; simp [ax_w]
  have n4 : μ2 67 4 = nI (s_sz d r) := by rw [← hμ2]; simp [ax_w]
  have n5 : μ2 67 5 = d_m d r := by rw [← hμ2]; simp [ax_w]
  rw [n0, n1, n2, n3', n4, n5]
  refine ⟨μ3, ?_, hc2.tr (fun k i hs => by rw [e2 k (by simp [T2] at hs; omega)])⟩
  simp only [show (nI p = 0) = (p = 0) from neqL (k := 0) (by omega) (by decide), within99, ob_some]
  unfold s_say s_val
  repeat' split
  all_goals first | rfl | (simp_all; done)
