/-! ===== arguments, frames of runs; the plain questions ===== -/
theorem s2C {μ μ2 : ax_M} (h : Ch S2 μ μ2) : Ch SC μ μ2 := h.mono fun k i e => by simp [SC, S2] at *; omega
theorem s3C {μ μ2 : ax_M} (h : Ch S3 μ μ2) : Ch SC μ μ2 := h.mono fun k i e => by simp [SC, S3] at *; omega
theorem s4C {μ μ2 : ax_M} (h : Ch S4 μ μ2) : Ch SC μ μ2 := h.mono fun k i e => by simp [SC, S4] at *; omega
theorem s5C {μ μ2 : ax_M} (h : Ch S5 μ μ2) : Ch SC μ μ2 := h.mono fun k i e => by simp [SC, S5] at *; omega
theorem s6C {μ μ2 : ax_M} (h : Ch S6 μ μ2) : Ch SC μ μ2 := h.mono fun k i e => by simp [SC, S6] at *; omega
theorem stC {μ μ2 : ax_M} (h : Ch St μ μ2) : Ch SC μ μ2 := h.mono fun k i e => by simp [SC, St] at *; omega
theorem s38C {μ μ2 : ax_M} (h : Ch S38 μ μ2) : Ch SC μ μ2 := h.mono fun k i e => by simp [SC, S38] at *; omega
theorem t2M {μ μ2 : ax_M} (h : Ch T2 μ μ2) : Ch SM μ μ2 := h.mono fun k i e => by simp [SM, T2] at *; omega
theorem t3M {μ μ2 : ax_M} (h : Ch T3 μ μ2) : Ch SM μ μ2 := h.mono fun k i e => by simp [SM, T3] at *; omega
theorem t7M {μ μ2 : ax_M} (h : Ch T7 μ μ2) : Ch SM μ μ2 := h.mono fun k i e => by simp [SM, T7] at *; omega
theorem t8M {μ μ2 : ax_M} (h : Ch T8 μ μ2) : Ch SM μ μ2 := h.mono fun k i e => by simp [SM, T8] at *; omega
theorem t10M {μ μ2 : ax_M} (h : Ch T10 μ μ2) : Ch SM μ μ2 := h.mono fun k i e => by simp [SM, T10] at *; omega
/-- an argument that is a number from 0 to b, or not -/
theorem argb (x : Int32) (b : Nat) (B C : Int32) (hB : B = nI b) (hC : C = nI (b + 1)) (hb : b + 1 < 2 ^ 31) : (∃ j, j ≤ b ∧ x = nI j ∧ s_in (nI j) 0 B = true ∧ ¬ nI j < 0 ∧ ¬ C ≤ nI j ∧ nI j < C ∧ nI j ≤ B ∧ ¬ B < nI j) ∨ (s_in x 0 B = false ∧ (x < 0 ∨ (¬ x < 0 ∧ C ≤ x ∧ ¬ x < C ∧ ¬ x ≤ B ∧ B < x))) := by
  subst hB hC
  rcases arg x b hb with ⟨j, hj, rfl⟩ | h
  · refine Or.inl ⟨j, hj, rfl, ?_, nneg (by omega), ?_, ?_, ?_, ?_⟩
    · rw [in_n (by omega) (by omega)]
      simp [hj]
    · rw [nleL (by omega) (by omega)]; omega
    · rw [nltL (by omega) (by omega)]; omega
    · rw [nleL (by omega) (by omega)]; omega
    · rw [nltL (by omega) (by omega)]; omega
  · exact Or.inr h
section
variable {n hr lw tx ts : Nat} {d : Dt} {F : Nat → Lw} {tb : Nat → Nat} {im : Im} {sh : Sh4} {μ μ2 : ax_M}
abbrev RR (d : Dt) (n hr : Nat) : Nat → Option Nat := s_rul d n (s_awk d (nI hr))
theorem RRn {d : Dt} {n hr c r : Nat} (h : RR d n hr c = some r) : r < n := s_rul_lt h
theorem K.frs (h : K n d hr lw tx F ts tb im sh μ) : ∃ μ2, m_X0_findRulers μ = some μ2 ∧ K n d hr lw tx F ts tb im sh μ2 ∧ Ch SC μ μ2 ∧ ∀ c, c < 36 → μ2 32 c = rI (RR d n hr c) := by
  obtain ⟨μ2, e1, e2, e3⟩ := c_frs h.rc h.lc
  rw [h.h2] at e3
  exact ⟨μ2, e1, h.ch (s3C e2), s3C e2, e3⟩
theorem K.look (h : K n d hr lw tx F ts tb im sh μ) : ∃ μ2, m_X0_look μ = some μ2 ∧ K n d hr lw tx F ts tb im sh μ2 ∧ Ch SC μ μ2 ∧ (∀ c, c < 36 → μ2 32 c = rI (RR d n hr c)) ∧ ∀ c, c < 36 → μ2 33 c = s_fat d (RR d n hr c) c (nI hr) := by
  obtain ⟨μ2, e1, e2, e3, e4⟩ := c_look h.rc h.lc
  rw [h.h2] at e3 e4
  exact ⟨μ2, e1, h.ch (s4C e2), s4C e2, e3, e4⟩
theorem K.rl (h : K n d hr lw tx F ts tb im sh μ) : ∃ μ2, m_X10_rulesBut (-1) μ = some μ2 ∧ K n d hr lw tx F ts tb im sh μ2 ∧ Ch SM μ μ2 ∧ ∀ c, c < 36 → μ2 68 c = rI (RR d n hr c) := by
  obtain ⟨μ2, e1, e2, e3⟩ := m_rl h.rm h.lm
  rw [h.h4] at e3
  exact ⟨μ2, e1, h.cm (t3M e2), t3M e2, e3⟩
theorem b_count (h : K n d hr lw tx F ts tb im sh μ) (x : Int32) : ∃ v, m_X9_count x μ = some v ∧ m_X10_count x μ = some v := by
  have a1 : μ 25 1 = nI n := h.rc.2.1
  have a2 : μ 51 0 = nI n := h.rm.2.1
  obtain ⟨-, ⟨⟨-, c1, c2⟩, ⟨c3, -⟩, ⟨c4, -⟩, -⟩, ⟨⟨-, m1, m2⟩, ⟨m3, -⟩, ⟨m4, -⟩, -⟩⟩ := h
  unfold m_X9_count m_X10_count
  rw [a1, a2, c1, c2, c3, c4, m1, m2, m3, m4]
  by_cases x0 : x = 0
  · exact ⟨nI n, by simp [x0], by simp [x0]⟩
  · by_cases x1 : x = 1
    · exact ⟨nI hr, by simp [x1], by simp [x1]⟩
    · by_cases x2 : x = 2
      · exact ⟨nI tx, by simp [x2], by simp [x2]⟩
      · by_cases x3 : x = 3
        · exact ⟨nI lw, by simp [x3], by simp [x3]⟩
        · by_cases x4 : x = 4
          · exact ⟨nI ts, by simp [x4], by simp [x4]⟩
          · exact ⟨-2, by simp [x0, x1, x2, x3, x4], by simp [x0, x1, x2, x3, x4]⟩
theorem b_asks (h : K n d hr lw tx F ts tb im sh μ) (x1 x2 x3 : Int32) : Bo (m_X9_asks x1 x2 x3) (m_X10_asks x1 x2 x3) μ := by
  rcases argb x1 2 2 3 rfl rfl (by decide) with ⟨p, hp, rfl, g1, g2, g3, g4, g5, g6⟩ | ⟨b0, b1⟩
  · rcases argr n x2 h.n6 with ⟨r, hr', rfl, k1⟩ | k0
    · rcases argc x3 with ⟨c, hc, rfl, l1⟩ | l0
      · refine h.q (v := s_say d p r c (nI hr)) ?_ fun μ' h' => ?_
        · obtain ⟨μ2, e1, e2⟩ := c_say h.rc h.lc (hh := nI hr) (show p < 3 by omega) hr' hc
          refine ⟨μ2, ?_, s2C e2⟩
          simp [m_X9_asks, g2, g3, c_rug h.rc.2.1, k1, c_cel, l1, bI, h.h2, e1, bind2_some]
        · obtain ⟨μ2, e1, e2⟩ := m_say h'.rm h'.lm (show p < 3 by omega) hr' hc
          rw [h'.h4] at e1
          refine ⟨μ2, ?_, t2M e2⟩
          simp [m_X10_asks, m_in, g1, m_rug h'.n6 h'.rm.2.1, k1, m_cel, l1, bI, e1, bind2_some]
      · exact h.no (-2) (by simp [m_X9_asks, g2, g3, c_rug h.rc.2.1, k1, c_cel, l0, bI]) (by simp [m_X10_asks, m_in, g1, m_rug h.n6 h.rm.2.1, k1, m_cel, l0, bI])
    · exact h.no (-2) (by simp [m_X9_asks, g2, g3, c_rug h.rc.2.1, k0, bI]) (by simp [m_X10_asks, m_in, g1, m_rug h.n6 h.rm.2.1, k0, bI])
  · exact h.no (-2) (by rcases b1 with b | ⟨b2, b3, b4, b5, b6⟩ <;> simp [m_X9_asks, *]) (by simp [m_X10_asks, m_in, b0, bI])
theorem b_told (h : K n d hr lw tx F ts tb im sh μ) (x1 x2 : Int32) : Bo (m_X9_told x1 x2) (m_X10_told x1 x2) μ := by
  rcases argr n x1 h.n6 with ⟨r, hr', rfl, k1⟩ | k0
  · have h6 := h.n6
    have ha := c_rug (x := nI r) h.rc.2.1
    have hb := fun μ' (h' : K n d hr lw tx F ts tb im sh μ') => m_rug (x := nI r) h'.n6 h'.rm.2.1
    obtain ⟨c1, c2, c3, c4, c5, c6, -, -, -, -⟩ := h.rc.2.2 r hr'
    obtain ⟨m1, m2, m3, m4, m5, -, -, -, -⟩ := h.rm.2.2 r hr'
    have i6 : ix 6 (nI r) = some r := ix_nI (by omega) (by decide)
    have i0 : ix 18 (nI (3 * r)) = some (3 * r) := ix_nI (by omega) (by decide)
    have i1 : ix 18 (nI (3 * r + 1)) = some (3 * r + 1) := ix_nI (by omega) (by decide)
    have i2 : ix 18 (nI (3 * r + 2)) = some (3 * r + 2) := ix_nI (by omega) (by decide)
    by_cases x0 : x2 = 0
    · subst x0
      exact h.no (100 * nI (d_a d r) + nI (d_b d r)) (by simp [m_X9_told, ha, k1, bI, m_X0_corners, i6, c3, c4]) (by simp [m_X10_told, hb μ h, k1, bI, m_X10_cornersOf, n3, na1, i0, i1, m3, m4])
    · by_cases x1 : x2 = 1
      · subst x1
        exact h.no (d_g d r) (by simp [m_X9_told, ha, k1, bI, i6, c6]) (by simp [m_X10_told, hb μ h, k1, bI, n3, na2, i2, m5])
      · by_cases x3 : x2 = 2
        · subst x3
          exact h.no (d_k d r) (by simp [m_X9_told, ha, k1, bI, i6, c1]) (by simp [m_X10_told, hb μ h, k1, bI, i6, m1])
        · by_cases x4 : x2 = 3
          · subst x4
            exact h.no (d_m d r) (by simp [m_X9_told, ha, k1, bI, i6, c2]) (by simp [m_X10_told, hb μ h, k1, bI, i6, m2])
          · by_cases x5 : x2 = 4
            · subst x5
              exact h.no (nI (s_sz d r)) (by simp [m_X9_told, ha, k1, bI, i6, c5]) (by simp [m_X10_told, hb μ h, k1, bI, m_siz h.rm hr'])
            · by_cases x6 : x2 = 5
              · subst x6
                refine h.q (v := s_cnt (RR d n hr) r) ?_ fun μ' h' => ?_
                · obtain ⟨μ2, e1, e2⟩ := c_rnow2 h.rc h.lc hr'
                  rw [h.h2] at e1
                  exact ⟨μ2, by simp [m_X9_told, ha, k1, bI, e1, bind2_some], s3C e2⟩
                · obtain ⟨μ2, e1, e2⟩ := m_rnow h'.rm h'.lm hr'
                  rw [h'.h4] at e1
                  exact ⟨μ2, by simp [m_X10_told, hb μ' h', k1, bI, e1, bind2_some], t3M e2⟩
              · by_cases x7 : x2 = 6
                · subst x7
                  refine h.q (v := bI (s_asl d r (nI hr))) ?_ fun μ' h' => ?_
                  · obtain ⟨μ2, e1, e2⟩ := c_asl h.rc h.lc (hh := nI hr) hr'
                    exact ⟨μ2, by cases hz : s_asl d r (nI hr) <;> rw [hz] at e1 <;> simp [m_X9_told, ha, k1, bI, h.h2, e1, bind2_some], s2C e2⟩
                  · obtain ⟨μ2, e1, e2⟩ := m_asl h'.rm h'.lm hr'
                    rw [h'.h4] at e1
                    exact ⟨μ2, by cases hz : s_asl d r (nI hr) <;> rw [hz] at e1 <;> simp [m_X10_told, hb μ' h', k1, bI, e1, bind2_some], t2M e2⟩
                · exact h.no (-7) (by simp [m_X9_told, ha, k1, bI, x0, x1, x3, x4, x5, x6, x7]) (by simp [m_X10_told, hb μ h, k1, bI, x0, x1, x3, x4, x5, x6, x7])
  · exact h.no (-5) (by simp [m_X9_told, c_rug h.rc.2.1, k0, bI]) (by simp [m_X10_told, m_rug h.n6 h.rm.2.1, k0, bI])
end
