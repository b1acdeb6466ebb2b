/-! ===== film (model) ===== -/
def T11 (s : Nat) (k i : Nat) : Bool := k == 66 || k == 67 || k == 68 || (k == 51 && i == 4) || (k == 62 && (decide (40 * s ≤ i) && decide (i < 40 * s + 40)))
def Tf (s : Nat) (k i : Nat) : Bool := k == 66 || k == 67 || k == 68 || (k == 62 && (decide (40 * s ≤ i) && decide (i < 40 * s + 40)))
theorem T11N {s : Nat} (k i : Nat) (h : mN k i = true) : T11 s k i = false := by simp [mN, T11] at *; omega
theorem T311 {s : Nat} (k i : Nat) (h : T11 s k i = false) : T3 k i = false := by simp [T3, T11] at *; omega
theorem m_film {n s z c : Nat} {d : Dt} {μ : ax_M} (h : RM n d μ) (hl : LM d μ) (hs : s < 4) (hz : z ≤ 40) (hc : c < 36) : ∃ μ2, m_X10_film_58 (nI s) (nI c) (nI z) (μ 51 4) fu 0 μ = some (nI z, μ2) ∧ (∀ i, i < z → μ2 62 (40 * s + i) = s_fw d n c (nI i)) ∧ Ch (Tf s) μ μ2 := by
  obtain ⟨b, hb, hq⟩ := loopK (N := 40) (fun k i (a : ax_M) => m_X10_film_58 (nI s) (nI c) (nI z) (μ 51 4) k (nI i) a) (fun i a => (∀ j, j < i → j < z → a 62 (40 * s + j) = s_fw d n c (nI j)) ∧ Ch (T11 s) μ a) (fun a => some (nI z, ax_w a 51 4 (μ 51 4))) (by omega)
    (fun k i a hi hI => by
      obtain ⟨h3, hch⟩ := hI
      have e40 : (40 : Int32) * nI s + nI i = nI (40 * s + i) := by rw [show (40 : Int32) = nI 40 from rfl, pk_mul, nI_add]
      show ∃ a2, m_X10_film_58 (nI s) (nI c) (nI z) (μ 51 4) (k + 1) (nI i) a = _ ∧ _
      rw [m_X10_film_58, if_neg (by rw [show (40 : Int32) = nI 40 from rfl, nleL (by omega) (by omega)]; omega), e40, ix_nI (show 40 * s + i < 160 by omega) (by decide), na1]
      simp only [ob_some]
      simp only [show (nI z ≤ nI i) = (z ≤ i) from nleL (by omega) (by omega)]
      by_cases e : z ≤ i
      · rw [if_pos e]
        refine ⟨_, rfl, fun j h1 h2 => ?_, hch.w (by simp [T11]; omega)⟩
        rw [w_i (by omega)]
        exact h3 j (by omega) h2
      · rw [if_neg e]
        generalize hμ1 : ax_w (ax_w a 62 (40 * s + i) 0) 51 4 (nI i) = μ1
        have hc1 : Ch (T11 s) μ μ1 := by
          rw [← hμ1]
          exact (hch.w (by simp [T11]; omega)).w (by simp [T11])
        have h14 : μ1 51 4 = nI i := by rw [← hμ1, w_ss]
        have h162 : ∀ j, j ≠ i → μ1 62 (40 * s + j) = a 62 (40 * s + j) := fun j hj => by rw [← hμ1, w_k (by decide), w_i (by omega)]
        obtain ⟨μ2, e1, e2, e3⟩ := m_rl (h.ch hc1 T11N) (hl.ch hc1 T11N)
        rw [h14] at e3
        have hc2 : Ch (T11 s) μ μ2 := hc1.tr (e2.mono T311)
        obtain ⟨μ3, f1, f2⟩ := m_fat (h.ch hc2 T11N) (hl.ch hc2 T11N) e3 (fun c r => s_rul_lt) hc
        rw [e2 51 4 rfl, h14] at f1
        rw [e1, ob_some, f1, bind2_some]
        refine ⟨_, rfl, fun j h1 h2 => ?_, (hc2.tr ((f2.mono T23).mono T311)).w (by simp [T11]; omega)⟩
        by_cases ej : j = i
        · subst ej
          exact w_ss
        · rw [w_i (by omega), f2 62 _ rfl, e2 62 _ rfl, h162 j ej]
          exact h3 j (by omega) h2)
    (fun k a hI => by
      show m_X10_film_58 (nI s) (nI c) (nI z) (μ 51 4) (k + 1) (nI 40) a = _
      rw [m_X10_film_58, if_pos (by decide)])
    μ ⟨fun j hj => by omega, Ch.rf⟩
  refine ⟨_, hq, fun i hi => ?_, fun k i hk => ?_⟩
  · rw [w_k (by decide)]
    exact hb.1 i (by omega) hi
  · by_cases e : k = 51 ∧ i = 4
    · obtain ⟨rfl, rfl⟩ := e
      exact w_ss
    · rw [w_e e]
      exact hb.2 k i (by simp [Tf, T11] at *; omega)
