/-! ===== the law's loop ===== -/
theorem go32 {P Q : ax_M → Option (Int32 × ax_M)} {L : ax_M → Option (Int32 × ax_M)} {μ : ax_M} (h : Bo P Q μ) (hL : ∀ μ, Kx μ → ∃ μ2, L μ = some (1, μ2)) : ∃ μ2, (bind2 (P μ) fun v μ1 => bind2 (Q μ1) fun w μ3 => if v = w then L μ3 else some (0, μ3)) = some (1, μ2) := by
  obtain ⟨v, μ2, μ3, e1, e2, h3⟩ := h
  rw [e1, bind2_some, e2, bind2_some, if_pos rfl]
  exact hL μ3 h3
theorem go64 {P Q : ax_M → Option (Int64 × ax_M)} {L : ax_M → Option (Int32 × ax_M)} {μ : ax_M} (h : Bo P Q μ) (hL : ∀ μ, Kx μ → ∃ μ2, L μ = some (1, μ2)) : ∃ μ2, (bind2 (P μ) fun v μ1 => bind2 (Q μ1) fun w μ3 => if lg_cmp v w = 0 then L μ3 else some (0, μ3)) = some (1, μ2) := by
  obtain ⟨v, μ2, μ3, e1, e2, h3⟩ := h
  rw [e1, bind2_some, e2, bind2_some, if_pos ((lg_eq v v).mpr rfl)]
  exact hL μ3 h3
theorem l7 {L i : Nat} (hL : L ≤ 3584) (hi : i < 2 ^ 31) : (Int32.ofNat L - 7 < nI i) = (L < i + 7) := by
  have e : (nI L - 7).toInt = (L : Int) - 7 := by
    rw [Int32.toInt_sub, nI_toInt (by omega)]
    have : (7 : Int32).toInt = 7 := by decide
    rw [this]
    exact Int.bmod_eq_of_le (by omega) (by omega)
  have e2 := nI_toInt hi
  show (nI L - 7 < nI i) = _
  rw [Int32.lt_iff_toInt_lt, e, e2]
  exact propext ⟨fun h => by omega, fun h => by omega⟩
theorem law_loop (xs : Nat → Int32) {L : Nat} (hL : L ≤ 3584) : ∀ (m i k : Nat) (μ : ax_M), i + m = 3600 → m < k → Kx μ → ∃ μ2, m_L_law_18 xs L k (nI i) μ = some (1, μ2) := by
  intro m
  induction m using Nat.strongRecOn with
  | _ m ih =>
    intro i k μ hi hk hK
    obtain ⟨k, rfl⟩ : ∃ k2, k = k2 + 1 := ⟨k - 1, by omega⟩
    rw [m_L_law_18]
    simp only [l7 hL (show i < 2 ^ 31 by omega)]
    by_cases hend : L < i + 7
    · rw [if_pos hend]
      exact ⟨μ, rfl⟩
    · rw [if_neg hend]
      have e0 : ix L (nI i) = some i := ix_nI (by omega) (by omega)
      have e1 : ix L (nI i + 1) = some (i + 1) := by rw [na1]; exact ix_nI (by omega) (by omega)
      have e2 : ix L (nI i + 2) = some (i + 2) := by rw [na2]; exact ix_nI (by omega) (by omega)
      have e3 : ix L (nI i + 3) = some (i + 3) := by rw [show nI i + 3 = nI (i + 3) from nI_add i 3]; exact ix_nI (by omega) (by omega)
      have e4 : ix L (nI i + 4) = some (i + 4) := by rw [show nI i + 4 = nI (i + 4) from nI_add i 4]; exact ix_nI (by omega) (by omega)
      have e5 : ix L (nI i + 5) = some (i + 5) := by rw [show nI i + 5 = nI (i + 5) from nI_add i 5]; exact ix_nI (by omega) (by omega)
      have e6 : ix L (nI i + 6) = some (i + 6) := by rw [show nI i + 6 = nI (i + 6) from nI_add i 6]; exact ix_nI (by omega) (by omega)
      have e7 : nI i + 7 = nI (i + 7) := nI_add i 7
      have hL7 : ∀ μ, Kx μ → ∃ μ2, m_L_law_18 xs L k (nI (i + 7)) μ = some (1, μ2) := fun μ h => ih (3600 - (i + 7)) (by omega) (i + 7) k μ (by omega) (by omega) h
      obtain ⟨n, d, hr, lw, tx, F, ts, tb, im, sh, h⟩ := hK
      rw [e0, ob_some]
      simp only [e1, e2, e3, e4, e5, e6, e7, ob_some]
      generalize xs i &&& 63 = c
      by_cases c0 : c = 0
      · rw [if_pos c0]
        obtain ⟨v, a1, a2⟩ := b_count h (xs (i + 1))
        rw [a1, ob_some, a2, ob_some, if_pos rfl]
        exact hL7 μ h.x
      rw [if_neg c0]
      by_cases c1 : c = 1
      · rw [if_pos c1]
        exact go32 (b_strikes h (xs (i + 1))) hL7
      rw [if_neg c1]
      by_cases c2 : c = 2
      · rw [if_pos c2]
        exact go32 (b_feed h (xs (i + 1)) (xs (i + 2)) (xs (i + 3)) (xs (i + 4)) (xs (i + 5)) (xs (i + 6))) hL7
      rw [if_neg c2]
      by_cases c3 : c = 3
      · rw [if_pos c3]
        exact go32 (b_text h) hL7
      rw [if_neg c3]
      by_cases c4 : c = 4
      · rw [if_pos c4]
        exact go32 (b_force h (xs (i + 1))) hL7
      rw [if_neg c4]
      by_cases c5 : c = 5
      · rw [if_pos c5]
        exact go32 (b_asks h (xs (i + 1)) (xs (i + 2)) (xs (i + 3))) hL7
      rw [if_neg c5]
      by_cases c6 : c = 6
      · rw [if_pos c6]
        exact go32 (b_spread h (xs (i + 1)) (xs (i + 2))) hL7
      rw [if_neg c6]
      by_cases c7 : c = 7
      · rw [if_pos c7]
        exact go32 (b_put h (xs (i + 1)) (xs (i + 2)) (xs (i + 3))) hL7
      rw [if_neg c7]
      by_cases c8 : c = 8
      · rw [if_pos c8]
        exact go32 (b_told h (xs (i + 1)) (xs (i + 2))) hL7
      rw [if_neg c8]
      by_cases c9 : c = 9
      · rw [if_pos c9]
        exact go32 (b_over h (xs (i + 1)) (xs (i + 2))) hL7
      rw [if_neg c9]
      by_cases c10 : c = 10
      · rw [if_pos c10]
        exact go64 (b_rules h (xs (i + 1))) hL7
      rw [if_neg c10]
      by_cases c11 : c = 11
      · rw [if_pos c11]
        exact go32 (b_walk h (xs (i + 1)) (xs (i + 2))) hL7
      rw [if_neg c11]
      by_cases c12 : c = 12
      · rw [if_pos c12]
        exact go32 (b_visit h (xs (i + 1))) hL7
      rw [if_neg c12]
      by_cases c13 : c = 13
      · rw [if_pos c13]
        exact go32 (b_ball h (xs (i + 1)) (xs (i + 2)) (xs (i + 3))) hL7
      rw [if_neg c13]
      by_cases c14 : c = 14
      · rw [if_pos c14]
        exact go32 (b_way h (xs (i + 1)) (xs (i + 2))) hL7
      rw [if_neg c14]
      by_cases c15 : c = 15
      · rw [if_pos c15]
        exact go32 (b_borders h (xs (i + 1))) hL7
      rw [if_neg c15]
      by_cases c16 : c = 16
      · rw [if_pos c16]
        exact go32 (b_league h (xs (i + 1)) (xs (i + 2))) hL7
      rw [if_neg c16]
      by_cases c17 : c = 17
      · rw [if_pos c17]
        exact go32 (b_place h (xs (i + 1)) (xs (i + 2))) hL7
      rw [if_neg c17]
      by_cases c18 : c = 18
      · rw [if_pos c18]
        exact go32 (b_freest h (xs (i + 1))) hL7
      rw [if_neg c18]
      by_cases c19 : c = 19
      · rw [if_pos c19]
        exact go32 (b_fold h (xs (i + 1))) hL7
      rw [if_neg c19]
      by_cases c20 : c = 20
      · rw [if_pos c20]
        exact go64 (b_share h (xs (i + 1)) (xs (i + 2))) hL7
      rw [if_neg c20]
      by_cases c21 : c = 21
      · rw [if_pos c21]
        exact go64 (b_mean h (xs (i + 1)) (xs (i + 2))) hL7
      rw [if_neg c21]
      by_cases c22 : c = 22
      · rw [if_pos c22]
        exact go32 (b_judge h (xs (i + 1)) (xs (i + 2))) hL7
      rw [if_neg c22]
      by_cases c23 : c = 23
      · rw [if_pos c23]
        exact go32 (b_kinds h (xs (i + 1)) (xs (i + 2)) (xs (i + 3)) (xs (i + 4))) hL7
      rw [if_neg c23]
      by_cases c24 : c = 24
      · rw [if_pos c24]
        exact go32 (b_crowds h (xs (i + 1)) (xs (i + 2)) (xs (i + 3)) (xs (i + 4))) hL7
      rw [if_neg c24]
      by_cases c25 : c = 25
      · rw [if_pos c25]
        exact go64 (b_where h (xs (i + 1))) hL7
      rw [if_neg c25]
      by_cases c26 : c = 26
      · rw [if_pos c26]
        exact go32 (b_laws h (xs (i + 1)) (xs (i + 2))) hL7
      rw [if_neg c26]
      by_cases c27 : c = 27
      · rw [if_pos c27]
        exact go32 (b_film h (xs (i + 1)) (xs (i + 2)) (xs (i + 3))) hL7
      rw [if_neg c27]
      by_cases c28 : c = 28
      · rw [if_pos c28]
        exact go32 (b_drawn h (xs (i + 1)) (xs (i + 2)) (xs (i + 3))) hL7
      rw [if_neg c28]
      by_cases c29 : c = 29
      · rw [if_pos c29]
        exact go64 (b_odds h (xs (i + 1)) (xs (i + 2)) (xs (i + 3)) (xs (i + 4)) (xs (i + 5))) hL7
      rw [if_neg c29]
      by_cases c30 : c = 30
      · rw [if_pos c30]
        exact go32 (b_image h) hL7
      rw [if_neg c30]
      by_cases c31 : c = 31
      · rw [if_pos c31]
        exact go32 (b_back h) hL7
      rw [if_neg c31]
      by_cases c32 : c = 32
      · rw [if_pos c32]
        exact go32 (b_sheet h (xs (i + 1)) (xs (i + 2)) (xs (i + 3))) hL7
      rw [if_neg c32]
      by_cases c33 : c = 33
      · rw [if_pos c33]
        exact go32 (b_cell h (xs (i + 1)) (xs (i + 2)) (xs (i + 3))) hL7
      rw [if_neg c33]
      by_cases c34 : c = 34
      · rw [if_pos c34]
        exact go32 (b_copy h (xs (i + 1)) (xs (i + 2)) (xs (i + 3)) (xs (i + 4)) (xs (i + 5))) hL7
      rw [if_neg c34]
      by_cases c35 : c = 35
      · rw [if_pos c35]
        exact go32 (b_rugsBy h (xs (i + 1)) (xs (i + 2)) (xs (i + 3)) (xs (i + 4))) hL7
      rw [if_neg c35]
      by_cases c36 : c = 36
      · rw [if_pos c36]
        rw [c_tak h.rc, ob_some, m_tak h.rm, ob_some, if_pos rfl]
        exact hL7 μ h.x
      rw [if_neg c36]
      exact hL7 μ h.x
