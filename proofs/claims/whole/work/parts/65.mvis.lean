/-! ===== the model: guests that visit ===== -/
def Tg (k : Nat) (i : Nat) : Bool := k == 54 && i % 3 == 2
theorem m_vis {n : Nat} {d : Dt} {μ : ax_M} (h : RM n d μ) (hg : ∀ r, r < n → ∃ j, j ≤ 99 ∧ d_g d r = nI j) {M : Nat → Bool} (h33 : μ 51 33 = mkA M n) : ∃ μ2, m_X10_visit_30 fu 0 μ = some (μ 51 31, μ2) ∧ Ch Tg μ μ2 ∧ ∀ q, q < n → μ2 54 (3 * q + 2) = s_wel (d_g d) M q := by
  have hn := h.1
  obtain ⟨b, hb, hq⟩ := loopK (N := n) (fun k i (a : ax_M) => m_X10_visit_30 k (nI i) a) (fun i a => Ch Tg μ a ∧ (∀ q, q < i → a 54 (3 * q + 2) = s_wel (d_g d) M q) ∧ ∀ q, i ≤ q → q < n → a 54 (3 * q + 2) = d_g d q) (fun a => some (μ 51 31, a)) (by omega)
    (fun k i a hi hI => by
      obtain ⟨hch, hlo, hhi⟩ := hI
      have h51 : a 51 0 = nI n := by rw [hch 51 0 rfl]; exact h.2.1
      have hgi := hhi i (Nat.le_refl i) hi
      obtain ⟨j, hj, hgj⟩ := hg i hi
      have hw : m_X10_within (nI j + 1) 0 99 a = some (if 99 ≤ d_g d i then d_g d i else d_g d i + 1) := by
        unfold m_X10_within
        rw [hgj, na1]
        rw [if_pos (show (0 : Int32) ≤ nI (j + 1) from nI_pos' (by omega))]
        simp only [show (nI (j + 1) ≤ 99) = (j + 1 ≤ 99) from nleL (k := 99) (by omega) (by decide), show ((99 : Int32) ≤ nI j) = (99 ≤ j) from nleL (a := 99) (by decide) (by omega)]
        by_cases e : j + 1 ≤ 99
        · rw [if_pos e, if_neg (by omega)]
        · rw [if_neg e, if_pos (by omega), show j = 99 by omega]
          rfl
      show ∃ a2, m_X10_visit_30 (k + 1) (nI i) a = _ ∧ _
      rw [m_X10_visit_30]
      simp only [h51]
      rw [if_neg (by rw [nleL (by omega) (by omega)]; omega), hch 51 33 rfl, h33, mkA_bit (by omega), n3, na2, ix_nI (show 3 * i + 2 < 18 by omega) (by decide)]
      simp only [ob_some, na1]
      cases hM : M i with
      | false =>
        simp only [Bool.and_false, Bool.false_eq_true, if_false]
        rw [if_neg (by decide)]
        refine ⟨a, rfl, hch, fun q hq => ?_, fun q h1 h2 => hhi q (by omega) h2⟩
        by_cases e : q = i
        · subst e
          rw [hgi]
          simp [s_wel, hM]
        · exact hlo q (by omega)
      | true =>
        simp only [hi, decide_true, Bool.and_self, if_true]
        rw [hgi, hgj, hw]
        simp only [ob_some]
        refine ⟨_, rfl, hch.w (by simp [Tg]), fun q hq => ?_, fun q h1 h2 => ?_⟩
        · by_cases e : q = i
          · subst e
            rw [w_ss]
            simp [s_wel, hM]
          · rw [w_i (by omega)]
            exact hlo q (by omega)
        · rw [w_i (by omega)]
          exact hhi q (by omega) h2)
    (fun k a hI => by
      show m_X10_visit_30 (k + 1) (nI n) a = _
      rw [m_X10_visit_30]
      have h51 : a 51 0 = nI n := by rw [hI.1 51 0 rfl]; exact h.2.1
      simp only [h51]
      rw [if_pos (Int32.le_refl _), hI.1 51 31 rfl])
    μ ⟨Ch.rf, fun q hq => by omega, fun q h1 h2 => (h.2.2 q h2).2.2.2.2.1⟩
  exact ⟨b, hq, hb.1, hb.2.1⟩
theorem wel_ok {g : Nat → Int32} {M : Nat → Bool} {q : Nat} (h : ∃ j, j ≤ 99 ∧ g q = nI j) : ∃ j, j ≤ 99 ∧ s_wel g M q = nI j := by
  obtain ⟨j, hj, e⟩ := h
  unfold s_wel
  rw [e]
  simp only [show ((99 : Int32) ≤ nI j) = (99 ≤ j) from nleL (a := 99) (by decide) (by omega)]
  by_cases e2 : 99 ≤ j
  · rw [if_pos e2]
    exact ⟨j, hj, by simp⟩
  · rw [if_neg e2, na1]
    split
    · exact ⟨j + 1, by omega, rfl⟩
    · exact ⟨j, hj, rfl⟩
/-! sets of cells, as bits of a long -/
theorem shL_bit {k j : Nat} (hk : k < 36) : (shL 1 (nI k)).toBitVec.getLsbD j = decide (j = k) := by
  have key : ∀ k : Fin 36, (shL 1 (nI k.val)).toBitVec = BitVec.ofNat 64 (2 ^ k.val) := by decide +kernel
  rw [show (shL 1 (nI k)).toBitVec = BitVec.ofNat 64 (2 ^ k) from key ⟨k, hk⟩, BitVec.getLsbD_ofNat, Nat.testBit_two_pow]
  by_cases e : j = k
  · subst e
    simp
    omega
  · have : ¬ k = j := fun z => e z.symm
    simp [e, this]
theorem s_set_bit (P : Nat → Bool) {j : Nat} : ∀ n, n ≤ 36 → (s_set P n).toBitVec.getLsbD j = (decide (j < n) && P j)
  | 0, _ => by
    unfold s_set
    simp
  | n + 1, h => by
    have ih := s_set_bit P (j := j) n (by omega)
    unfold s_set
    by_cases hP : P n = true
    · rw [if_pos hP, Int64.toBitVec_or, BitVec.getLsbD_or, ih, shL_bit (by omega)]
      by_cases e : j = n
      · subst e
        simp [hP]
      · have : (j < n + 1) = (j < n) := propext ⟨fun h => by omega, fun h => by omega⟩
        simp [e, this]
    · rw [if_neg hP, ih]
      by_cases e : j = n
      · subst e
        simp [hP]
      · have : (j < n + 1) = (j < n) := propext ⟨fun h => by omega, fun h => by omega⟩
        simp [this]
theorem i64_ext {a b : Int64} (h : ∀ j, j < 64 → a.toBitVec.getLsbD j = b.toBitVec.getLsbD j) : a = b := by
  apply Int64.toBitVec_inj.mp
  exact BitVec.eq_of_getLsbD_eq h
