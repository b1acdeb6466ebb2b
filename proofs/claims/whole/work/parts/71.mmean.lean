/-! ===== mean (model) ===== -/
theorem m_mn {n x : Nat} {d : Dt} {μ : ax_M} {R : Nat → Option Nat} (h : RM n d μ) (hl : LM d μ) (hR : ∀ c, c < 36 → μ 68 c = rI (R c)) (hRn : ∀ c r, R c = some r → r < n) (x2 x3 : Int32) :
    ∃ μ2, m_X10_mean_38 (nI x) x2 x3 fu 0 0 μ = (if x3 = 0 then some (-4611686018427387904, μ2) else (m_X10_lowest (s_sum (fun c => if rI (R c) = nI x then s_fat d (R c) c (μ 51 4) else 0) 36).toInt64 x3.toInt64 x2 μ2).bind fun v3 => some (v3, μ2)) ∧ Ch T2 μ μ2 := by
  obtain ⟨b, hb, hq⟩ := loopK (N := 36) (fun k i (a : Int32 × ax_M) => m_X10_mean_38 (nI x) x2 x3 k a.1 (nI i) a.2) (fun i a => a.1 = s_sum (fun c => if rI (R c) = nI x then s_fat d (R c) c (μ 51 4) else 0) i ∧ Ch T2 μ a.2) (fun a => if x3 = 0 then some (-4611686018427387904, a.2) else (m_X10_lowest a.1.toInt64 x3.toInt64 x2 a.2).bind fun v3 => some (v3, a.2)) (by omega)
    (fun k i a hi hI => by
      obtain ⟨v, μ1⟩ := a
      obtain ⟨h1, h2⟩ := hI
      have hv : v = _ := h1
      have hch : Ch T2 μ μ1 := h2
      clear h1 h2
      subst hv
      have hR1 : ∀ c, c < 36 → μ1 68 c = rI (R c) := fun c hc => by rw [hch 68 c rfl]; exact hR c hc
      show ∃ a2, m_X10_mean_38 (nI x) x2 x3 (k + 1) _ (nI i) μ1 = _ ∧ _
      rw [m_X10_mean_38, if_neg (ge36 hi), ix_nI hi (by decide), ob_some, hR1 i hi, na1]
      by_cases e : rI (R i) = nI x
      · rw [if_pos e]
        obtain ⟨μ2, f1, f2⟩ := m_fat (h.ch hch T2N) (hl.ch hch T2N) hR1 hRn hi
        rw [hch 51 4 rfl] at f1
        rw [f1, bind2_some]
        refine ⟨(_, μ2), rfl, ?_, hch.tr f2⟩
        show _ = s_sum _ (i + 1)
        rw [s_sum, if_pos e]
      · rw [if_neg e]
        refine ⟨(_, μ1), rfl, ?_, hch⟩
        show _ = s_sum _ (i + 1)
        rw [s_sum, if_neg e])
    (fun k a hI => by
      show m_X10_mean_38 (nI x) x2 x3 (k + 1) a.1 (nI 36) a.2 = _
      rw [m_X10_mean_38, if_pos (by decide)])
    (0, μ) ⟨rfl, Ch.rf⟩
  refine ⟨b.2, ?_, hb.2⟩
  rw [← hb.1]
  exact hq
