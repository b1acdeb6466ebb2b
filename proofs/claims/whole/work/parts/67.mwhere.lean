theorem m_w49 {n s i : Nat} {d : Dt} {μ : ax_M} {R : Nat → Option Nat} (h : RM n d μ) (hl : LM d μ) (hR : ∀ c, c < 36 → μ 68 c = rI (R c)) (hRn : ∀ c r, R c = some r → r < n) (hs : s < 4) (hi : i < 40) (x2 : Int32) (k24 : Int64 → Int32 → ax_M → Option (Int64 × ax_M)) (P : Nat → Bool) :
    ∃ μ2, m_X10_where_49 (nI s) x2 (nI i) k24 fu (s_set P 36) 0 μ = k24 (s_set (fun c => P c && !decide (s_fat d (R c) c (μ 51 4) ≠ μ 62 (40 * s + i))) 36) (nI (i + 1)) μ2 ∧ Ch T2 μ μ2 := by
  obtain ⟨b, hb, hq⟩ := loopK (N := 36) (fun k j (a : Int64 × ax_M) => m_X10_where_49 (nI s) x2 (nI i) k24 k a.1 (nI j) a.2) (fun j a => a.1 = s_set (fun c => P c && (decide (j ≤ c) || !decide (s_fat d (R c) c (μ 51 4) ≠ μ 62 (40 * s + i)))) 36 ∧ Ch T2 μ a.2) (fun a => k24 a.1 (nI (i + 1)) a.2) (by omega)
    (fun k j a hj hI => by
      obtain ⟨x, μ1⟩ := a
      obtain ⟨h1, h2⟩ := hI
      have hx : x = _ := h1
      have hch : Ch T2 μ μ1 := h2
      clear h1 h2
      subst hx
      obtain ⟨μ2, e1, e2⟩ := m_fat (h.ch hch T2N) (hl.ch hch T2N) (R := R) (fun c hc => by rw [hch 68 c rfl]; exact hR c hc) hRn hj
      rw [hch 51 4 rfl] at e1
      have e40 : (40 : Int32) * nI s + nI i = nI (40 * s + i) := by rw [show (40 : Int32) = nI 40 from rfl, pk_mul, nI_add]
      show ∃ a2, m_X10_where_49 (nI s) x2 (nI i) k24 (k + 1) _ (nI j) μ1 = _ ∧ _
      rw [m_X10_where_49, if_neg (ge36 hj), e40, ix_nI (show 40 * s + i < 160 by omega) (by decide), ob_some, e1, bind2_some, hch 62 _ rfl, and_m1, s_set_del hj, na1]
      by_cases e : μ 62 (40 * s + i) = s_fat d (R j) j (μ 51 4)
      · rw [if_pos e]
        refine ⟨(_, μ2), rfl, ?_, hch.tr e2⟩
        refine s_set_ext fun c hc => ?_
        by_cases ec : c = j
        · subst ec
          have : ¬ c + 1 ≤ c := by omega
          simp [e]
        · have : (j ≤ c) = (j + 1 ≤ c) := propext ⟨fun h => by omega, fun h => by omega⟩
          simp [this]
      · rw [if_neg e]
        refine ⟨(s_set (fun c => (P c && (decide (j ≤ c) || !decide (s_fat d (R c) c (μ 51 4) ≠ μ 62 (40 * s + i)))) && decide (c ≠ j)) 36, μ2), rfl, ?_, hch.tr e2⟩
        refine s_set_ext fun c hc => ?_
        by_cases ec : c = j
        · subst ec
          have h3 : ¬ s_fat d (R c) c (μ 51 4) = μ 62 (40 * s + i) := fun z => e z.symm
          have : ¬ c + 1 ≤ c := by omega
          simp [h3]
        · have : (j ≤ c) = (j + 1 ≤ c) := propext ⟨fun h => by omega, fun h => by omega⟩
          simp [this, ec])
    (fun k a hI => by
      show m_X10_where_49 (nI s) x2 (nI i) k24 (k + 1) a.1 (nI 36) a.2 = _
      rw [m_X10_where_49, if_pos (by decide), na1])
    (s_set P 36, μ) ⟨s_set_ext fun c hc => by simp, Ch.rf⟩
  refine ⟨b.2, ?_, hb.2⟩
  have e : b.1 = s_set (fun c => P c && !decide (s_fat d (R c) c (μ 51 4) ≠ μ 62 (40 * s + i))) 36 := by
    rw [hb.1]
    refine s_set_ext fun c hc => ?_
    have : ¬ 36 ≤ c := by omega
    simp [this]
  rw [← e]
  exact hq
theorem m_whr {n s z : Nat} {d : Dt} {μ : ax_M} (h : RM n d μ) (hl : LM d μ) (hs : s < 4) (hz : z ≤ 40) (h61 : μ 61 s = nI z) {C : Nat → Int32} (hC : ∀ i, i < z → μ 62 (40 * s + i) = C i) : ∃ μ2, m_X10_where_24 (nI s) (μ 51 4) fu 68719476735 0 μ = some (s_set (fun c => !s_any (fun i => decide (s_fw d n c (nI i) ≠ C i)) z) 36, μ2) ∧ Ch T3 μ μ2 := by
  obtain ⟨b, hb, hq⟩ := loopK (N := z) (fun k i (a : Int64 × ax_M) => m_X10_where_24 (nI s) (μ 51 4) k a.1 (nI i) a.2) (fun i a => a.1 = s_set (fun c => !s_any (fun i => decide (s_fw d n c (nI i) ≠ C i)) i) 36 ∧ Ch T9 μ a.2) (fun a => some (a.1, ax_w a.2 51 4 (μ 51 4))) (by omega)
    (fun k i a hi hI => by
      obtain ⟨x, μ1⟩ := a
      obtain ⟨h1, h2⟩ := hI
      have hx : x = _ := h1
      have hch : Ch T9 μ μ1 := h2
      clear h1 h2
      subst hx
      have hc1 : Ch T9 μ (ax_w μ1 51 4 (nI i)) := hch.w rfl
      obtain ⟨μ2, e1, e2, e3⟩ := m_rl (h.ch hc1 T9N) (hl.ch hc1 T9N)
      rw [w_ss] at e3
      have hc2 : Ch T9 μ μ2 := hc1.tr (e2.mono T39)
      have h4 : μ2 51 4 = nI i := by rw [e2 51 4 rfl, w_ss]
      obtain ⟨μ3, f1, f2⟩ := m_w49 (h.ch hc2 T9N) (hl.ch hc2 T9N) e3 (fun c r => s_rul_lt) hs (show i < 40 by omega) (μ 51 4) (m_X10_where_24 (nI s) (μ 51 4) k) (fun c => !s_any (fun i => decide (s_fw d n c (nI i) ≠ C i)) i)
      rw [h4, hc2 62 _ rfl, hC i hi] at f1
      show ∃ a2, m_X10_where_24 (nI s) (μ 51 4) (k + 1) _ (nI i) μ1 = _ ∧ _
      rw [m_X10_where_24, ix_nI hs (by decide)]
      simp only [ob_some]
      rw [hch 61 s rfl, h61, if_neg (by rw [nleL (by omega) (by omega)]; omega), e1, ob_some]
      refine ⟨(s_set (fun c => !s_any (fun i => decide (s_fw d n c (nI i) ≠ C i)) i && !decide (s_fat d (s_rul d n (s_awk d (nI i)) c) c (nI i) ≠ C i)) 36, μ3), f1, ?_, hc2.tr ((f2.mono T23).mono T39)⟩
      refine s_set_ext fun c hc => ?_
      show _ = !s_any (fun i => decide (s_fw d n c (nI i) ≠ C i)) (i + 1)
      rw [s_any, Bool.not_or]
      rfl)
    (fun k a hI => by
      show m_X10_where_24 (nI s) (μ 51 4) (k + 1) a.1 (nI z) a.2 = _
      rw [m_X10_where_24, ix_nI hs (by decide)]
      simp only [ob_some]
      rw [hI.2 61 s rfl, h61, if_pos (Int32.le_refl _)])
    (68719476735, μ) ⟨by
      show (68719476735 : Int64) = s_set (fun _ => true) 36
      decide +kernel, Ch.rf⟩
  refine ⟨_, ?_, ch_back hb.2⟩
  rw [← hb.1]
  exact hq
