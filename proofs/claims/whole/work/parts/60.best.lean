/-! ===== freest and fold, on both sides ===== -/
def s_bs (f : Nat → Int32) (z : Int32) : Nat → Int32 × Int32
  | 0 => (-1, z)
  | i + 1 => if (s_bs f z i).1 = -1 then (nI i, f i) else if (s_bs f z i).2 ≤ f i then s_bs f z i else (nI i, f i)
theorem s_bs_ne {f : Nat → Int32} {z : Int32} : ∀ {i : Nat}, 0 < i → i < 2 ^ 31 → ¬ (s_bs f z i).1 = -1
  | i + 1, _, h => by
    unfold s_bs
    split
    · exact nm1 (by omega)
    · split
      · rename_i h1 _
        exact h1
      · exact nm1 (by omega)
theorem s_bs_z {f : Nat → Int32} {z z2 : Int32} : ∀ i : Nat, (s_bs f z (i + 1)) = (s_bs f z2 (i + 1))
  | 0 => by simp [s_bs]
  | i + 1 => by
    have e1 : ∀ z : Int32, s_bs f z (i + 2) = (fun p : Int32 × Int32 => if p.1 = -1 then (nI (i + 1), f (i + 1)) else if p.2 ≤ f (i + 1) then p else (nI (i + 1), f (i + 1))) (s_bs f z (i + 1)) := fun z => by rw [s_bs]
    rw [e1 z, e1 z2, s_bs_z i]
theorem s_bs_ext {f g : Nat → Int32} {z : Int32} : ∀ {i : Nat}, (∀ j, j < i → f j = g j) → s_bs f z i = s_bs g z i
  | 0, _ => rfl
  | i + 1, h => by
    rw [s_bs, s_bs, s_bs_ext (fun j hj => h j (by omega)), h i (by omega)]
def s_pk (x1 : Int32) (p : Int32 × Int32) : Int32 := if x1 = 0 then p.1 else p.2
def s_fr (d : Dt) (n i : Nat) : Int32 := s_all d n (s_awk d (nI i)) (nI i)
def s_fo (d : Dt) (n : Nat) (h : Int32) (r : Nat) : Int32 := s_all d n (fun q => s_awk d h q && decide (q ≠ r)) h
theorem c_fre {n : Nat} {d : Dt} {μ : ax_M} (h : RC n d μ) (hl : LC d μ) (x1 : Int32) : ∃ μ2, m_X9_freest_12 x1 μ = some (s_pk x1 (s_bs (s_fr d n) 0 24), μ2) ∧ Ch S2 μ μ2 := by
  have one : ∀ (i : Nat) (μ1 : ax_M), Ch S2 μ μ1 → ∃ μ2 μ3, m_X0_awakeAt (nI i) μ1 = some (mkA (s_awk d (nI i)) n, μ2) ∧ m_X0_fineOfAll (nI i) (mkA (s_awk d (nI i)) n) μ2 = some (s_fr d n i, μ3) ∧ Ch S2 μ μ3 := by
    intro i μ1 hch
    obtain ⟨μ2, e1, e2⟩ := c_awk (h.ch hch S2N) (hl.ch hch S2N) (nI i)
    obtain ⟨μ3, f1, f2⟩ := c_foa (h.ch (hch.tr e2) S2N) (hl.ch (hch.tr e2) S2N) (nI i) (s_awk d (nI i))
    exact ⟨μ2, μ3, e1, f1, (hch.tr e2).tr f2⟩
  obtain ⟨μ1, μ2, e1, e2, e3⟩ := one 0 μ Ch.rf
  obtain ⟨b, hb, hq⟩ := loopK (N := 23) (fun k i (a : Int32 × Int32 × ax_M) => m_X9_freest_34 x1 k a.1 a.2.1 (nI (i + 1)) a.2.2) (fun i a => (a.1, a.2.1) = s_bs (s_fr d n) 0 (i + 1) ∧ Ch S2 μ a.2.2) (fun a => some (s_pk x1 (a.1, a.2.1), a.2.2)) (by omega)
    (fun k i a hi hI => by
      obtain ⟨x, y, μ3⟩ := a
      obtain ⟨h1, h2⟩ := hI
      have hxy : (x, y) = s_bs (s_fr d n) 0 (i + 1) := h1
      have hch : Ch S2 μ μ3 := h2
      obtain ⟨μ4, μ5, f1, f2, f3⟩ := one (i + 1) μ3 hch
      have hne := s_bs_ne (f := s_fr d n) (z := 0) (i := i + 1) (by omega) (by omega)
      have hs : s_bs (s_fr d n) 0 (i + 2) = if y ≤ s_fr d n (i + 1) then (x, y) else (nI (i + 1), s_fr d n (i + 1)) := by
        rw [s_bs, if_neg hne, ← hxy]
      show ∃ a2, m_X9_freest_34 x1 (k + 1) x y (nI (i + 1)) μ3 = _ ∧ _
      rw [m_X9_freest_34, if_neg (show ¬ (24 : Int32) ≤ nI (i + 1) by rw [show (24 : Int32) = nI 24 from rfl, nleL (by omega) (by omega)]; omega), f1, bind2_some, f2, bind2_some, na1]
      by_cases e : y ≤ s_fr d n (i + 1)
      · rw [if_pos e]
        rw [if_pos e] at hs
        exact ⟨(x, y, μ5), rfl, hs.symm, f3⟩
      · rw [if_neg e]
        rw [if_neg e] at hs
        exact ⟨(nI (i + 1), s_fr d n (i + 1), μ5), rfl, hs.symm, f3⟩)
    (fun k a hI => by
      show m_X9_freest_34 x1 (k + 1) a.1 a.2.1 (nI 24) a.2.2 = _
      rw [m_X9_freest_34, if_pos (by decide)]
      unfold s_pk
      by_cases e : x1 = 0 <;> simp [e])
    (0, s_fr d n 0, μ2) ⟨rfl, e3⟩
  refine ⟨b.2.2, ?_, hb.2⟩
  rw [← hb.1]
  unfold m_X9_freest_12
  rw [show m_X0_awakeAt 0 μ = some (mkA (s_awk d (nI 0)) n, μ1) from e1, bind2_some, show m_X0_fineOfAll 0 (mkA (s_awk d (nI 0)) n) μ1 = some (s_fr d n 0, μ2) from e2, bind2_some]
  exact hq
theorem c_fld {n : Nat} {d : Dt} {μ : ax_M} (h : RC n d μ) (hl : LC d μ) (x1 : Int32) : ∃ μ2, m_X9_fold_12 x1 μ = some (s_pk x1 (s_bs (s_fo d n (μ 25 2)) 0 n), μ2) ∧ Ch S2 μ μ2 := by
  have hn := h.1
  obtain ⟨μ1, e1, e2⟩ := c_awk h hl (μ 25 2)
  obtain ⟨b, hb, hq⟩ := loopK (N := n) (fun k i (a : Int32 × Int32 × ax_M) => m_X9_fold_35 x1 (mkA (s_awk d (μ 25 2)) n) k a.1 a.2.1 (nI i) a.2.2) (fun i a => (a.1, a.2.1) = s_bs (s_fo d n (μ 25 2)) 0 i ∧ Ch S2 μ a.2.2) (fun a => some (s_pk x1 (a.1, a.2.1), a.2.2)) (by omega)
    (fun k i a hi hI => by
      obtain ⟨x, y, μ3⟩ := a
      obtain ⟨h1, h2⟩ := hI
      have hxy : (x, y) = s_bs (s_fo d n (μ 25 2)) 0 i := h1
      have hch : Ch S2 μ μ3 := h2
      have h25 : μ3 25 1 = nI n := by rw [hch 25 1 rfl]; exact h.2.1
      obtain ⟨μ5, f1, f2⟩ := c_foa (h.ch hch S2N) (hl.ch hch S2N) (μ 25 2) (fun q => s_awk d (μ 25 2) q && decide (q ≠ i))
      have hs : s_bs (s_fo d n (μ 25 2)) 0 (i + 1) = if x = -1 then (nI i, s_fo d n (μ 25 2) i) else if y ≤ s_fo d n (μ 25 2) i then (x, y) else (nI i, s_fo d n (μ 25 2) i) := by
        rw [s_bs, ← hxy]
      show ∃ a2, m_X9_fold_35 x1 (mkA (s_awk d (μ 25 2)) n) (k + 1) x y (nI i) μ3 = _ ∧ _
      rw [m_X9_fold_35]
      simp only [h25]
      rw [if_neg (by rw [nleL (by omega) (by omega)]; omega), hch 25 2 rfl, mkA_del hi hn, f1, bind2_some, na1, show s_all d n (fun q => s_awk d (μ 25 2) q && decide (q ≠ i)) (μ 25 2) = s_fo d n (μ 25 2) i from rfl]
      by_cases e0 : x = -1
      · rw [if_pos e0]
        rw [if_pos e0] at hs
        exact ⟨(nI i, _, μ5), rfl, hs.symm, hch.tr f2⟩
      · rw [if_neg e0]
        rw [if_neg e0] at hs
        by_cases e : y ≤ s_fo d n (μ 25 2) i
        · rw [if_pos e]
          rw [if_pos e] at hs
          exact ⟨(x, y, μ5), rfl, hs.symm, hch.tr f2⟩
        · rw [if_neg e]
          rw [if_neg e] at hs
          exact ⟨(nI i, _, μ5), rfl, hs.symm, hch.tr f2⟩)
    (fun k a hI => by
      show m_X9_fold_35 x1 _ (k + 1) a.1 a.2.1 (nI n) a.2.2 = _
      rw [m_X9_fold_35]
      have h25 : a.2.2 25 1 = nI n := by rw [hI.2 25 1 rfl]; exact h.2.1
      simp only [h25]
      rw [if_pos (Int32.le_refl _)]
      unfold s_pk
      by_cases e : x1 = 0 <;> simp [e])
    (-1, 0, μ1) ⟨rfl, e2⟩
  refine ⟨b.2.2, ?_, hb.2⟩
  rw [← hb.1]
  unfold m_X9_fold_12
  rw [e1, bind2_some]
  exact hq
