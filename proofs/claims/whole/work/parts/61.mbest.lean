theorem s_fr_bt {d : Dt} {n i : Nat} (hn : n ≤ 6) : s_all d n (s_bt d (nI i) (-1)) (nI i) = s_fr d n i := by
  refine s_all_ext fun q hq => ?_
  have : ¬ nI q = -1 := nm1 (by omega)
  simp [s_bt, this]
theorem s_fo_bt {d : Dt} {n i : Nat} {h : Int32} (hn : n ≤ 6) (hi : i < n) : s_all d n (s_bt d h (nI i)) h = s_fo d n h i := by
  refine s_all_ext fun q hq => ?_
  have : (nI q = nI i) = (q = i) := neqL (by omega) (by omega)
  simp [s_bt, this]
theorem m_fre {n : Nat} {d : Dt} {μ : ax_M} (h : RM n d μ) (hl : LM d μ) (x1 : Int32) : ∃ μ2, m_X10_freest_25 x1 (μ 51 4) fu (-1) 0 0 μ = some (s_pk x1 (s_bs (s_fr d n) 0 24), μ2) ∧ Ch T3 μ μ2 := by
  have hn := h.1
  obtain ⟨b, hb, hq⟩ := loopK (N := 24) (fun k i (a : Int32 × Int32 × ax_M) => m_X10_freest_25 x1 (μ 51 4) k a.1 a.2.1 (nI i) a.2.2) (fun i a => (a.1, a.2.1) = s_bs (s_fr d n) 0 i ∧ Ch T9 μ a.2.2) (fun a => some (s_pk x1 (a.1, a.2.1), ax_w a.2.2 51 4 (μ 51 4))) (by omega)
    (fun k i a hi hI => by
      obtain ⟨x, y, μ3⟩ := a
      obtain ⟨h1, h2⟩ := hI
      have hxy : (x, y) = s_bs (s_fr d n) 0 i := h1
      have hch : Ch T9 μ μ3 := h2
      have hc1 : Ch T9 μ (ax_w μ3 51 4 (nI i)) := hch.w rfl
      obtain ⟨μ5, f1, f2⟩ := m_fall (h.ch hc1 T9N) (hl.ch hc1 T9N) (-1)
      rw [w_ss, s_fr_bt hn] at f1
      have hch5 : Ch T9 μ μ5 := hc1.tr (f2.mono T39)
      have hs : s_bs (s_fr d n) 0 (i + 1) = if x = -1 then (nI i, s_fr d n i) else if y ≤ s_fr d n i then (x, y) else (nI i, s_fr d n i) := by
        rw [s_bs, ← hxy]
      show ∃ a2, m_X10_freest_25 x1 (μ 51 4) (k + 1) x y (nI i) μ3 = _ ∧ _
      rw [m_X10_freest_25, if_neg (show ¬ (24 : Int32) ≤ nI i by rw [show (24 : Int32) = nI 24 from rfl, nleL (by omega) (by omega)]; omega), f1, bind2_some]
      unfold m_X10_freest_62 m_X10_freest_75
      rw [na1]
      by_cases e0 : x = -1
      · rw [if_pos e0]
        rw [if_pos e0] at hs
        exact ⟨(nI i, _, μ5), rfl, hs.symm, hch5⟩
      · rw [if_neg e0]
        rw [if_neg e0] at hs
        by_cases e : y ≤ s_fr d n i
        · rw [if_pos e]
          rw [if_pos e] at hs
          exact ⟨(x, y, μ5), rfl, hs.symm, hch5⟩
        · rw [if_neg e]
          rw [if_neg e] at hs
          exact ⟨(nI i, _, μ5), rfl, hs.symm, hch5⟩)
    (fun k a hI => by
      show m_X10_freest_25 x1 (μ 51 4) (k + 1) a.1 a.2.1 (nI 24) a.2.2 = _
      rw [m_X10_freest_25, if_pos (by decide)]
      unfold s_pk
      by_cases e : x1 = 0 <;> simp [e])
    (-1, 0, μ) ⟨rfl, Ch.rf⟩
  refine ⟨_, ?_, ch_back hb.2⟩
  rw [← hb.1]
  exact hq
theorem m_fld {n : Nat} {d : Dt} {μ : ax_M} (h : RM n d μ) (hl : LM d μ) (x1 : Int32) : ∃ v μ1 μ2, m_X10_finedAll (-1) μ = some (v, μ1) ∧ m_X10_fold_23 x1 fu (-1) v 0 μ1 = some (s_pk x1 (s_bs (s_fo d n (μ 51 4)) 0 n), μ2) ∧ Ch T3 μ μ2 := by
  have hn := h.1
  obtain ⟨μ1, e1, e2⟩ := m_fall h hl (-1)
  generalize hv : s_all d n (s_bt d (μ 51 4) (-1)) (μ 51 4) = v at e1
  refine ⟨v, μ1, ?_⟩
  obtain ⟨b, hb, hq⟩ := loopK (N := n) (fun k i (a : Int32 × Int32 × ax_M) => m_X10_fold_23 x1 k a.1 a.2.1 (nI i) a.2.2) (fun i a => (a.1, a.2.1) = s_bs (s_fo d n (μ 51 4)) v i ∧ Ch T3 μ a.2.2) (fun a => some (s_pk x1 (a.1, a.2.1), a.2.2)) (by omega)
    (fun k i a hi hI => by
      obtain ⟨x, y, μ3⟩ := a
      obtain ⟨h1, h2⟩ := hI
      have hxy : (x, y) = s_bs (s_fo d n (μ 51 4)) v i := h1
      have hch : Ch T3 μ μ3 := h2
      have h51 : μ3 51 0 = nI n := by rw [hch 51 0 rfl]; exact h.2.1
      obtain ⟨μ5, f1, f2⟩ := m_fall (h.ch hch T3N) (hl.ch hch T3N) (nI i)
      rw [hch 51 4 rfl, s_fo_bt hn hi] at f1
      have hch5 : Ch T3 μ μ5 := hch.tr f2
      have hs : s_bs (s_fo d n (μ 51 4)) v (i + 1) = if x = -1 then (nI i, s_fo d n (μ 51 4) i) else if y ≤ s_fo d n (μ 51 4) i then (x, y) else (nI i, s_fo d n (μ 51 4) i) := by
        rw [s_bs, ← hxy]
      show ∃ a2, m_X10_fold_23 x1 (k + 1) x y (nI i) μ3 = _ ∧ _
      rw [m_X10_fold_23]
      simp only [h51]
      rw [if_neg (by rw [nleL (by omega) (by omega)]; omega), f1, bind2_some]
      unfold m_X10_fold_56 m_X10_fold_69
      rw [na1]
      by_cases e0 : x = -1
      · rw [if_pos e0]
        rw [if_pos e0] at hs
        exact ⟨(nI i, _, μ5), rfl, hs.symm, hch5⟩
      · rw [if_neg e0]
        rw [if_neg e0] at hs
        by_cases e : y ≤ s_fo d n (μ 51 4) i
        · rw [if_pos e]
          rw [if_pos e] at hs
          exact ⟨(x, y, μ5), rfl, hs.symm, hch5⟩
        · rw [if_neg e]
          rw [if_neg e] at hs
          exact ⟨(nI i, _, μ5), rfl, hs.symm, hch5⟩)
    (fun k a hI => by
      show m_X10_fold_23 x1 (k + 1) a.1 a.2.1 (nI n) a.2.2 = _
      rw [m_X10_fold_23]
      have h51 : a.2.2 51 0 = nI n := by rw [hI.2 51 0 rfl]; exact h.2.1
      simp only [h51]
      rw [if_pos (Int32.le_refl _)]
      unfold s_pk
      by_cases e : x1 = 0 <;> simp [e])
    (-1, v, μ1) ⟨rfl, e2⟩
  refine ⟨b.2.2, e1, ?_, hb.2⟩
  have e0 : s_bs (s_fo d n (μ 51 4)) 0 n = s_bs (s_fo d n (μ 51 4)) v n := by
    cases n with
    | zero =>
      have : v = 0 := by
        rw [← hv]
        unfold s_all
        exact s_sum_0 36
      rw [this]
    | succ n => exact s_bs_z n
  rw [e0, ← hb.1]
  exact hq
