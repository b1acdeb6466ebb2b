/-! ===== where, on both sides ===== -/
theorem s_any_f {g : Nat → Bool} : ∀ {n : Nat}, s_any g n = false ↔ ∀ j, j < n → g j = false
  | 0 => ⟨fun _ j hj => by omega, fun _ => rfl⟩
  | n + 1 => by
    unfold s_any
    rw [Bool.or_eq_false_iff, s_any_f]
    constructor
    · rintro ⟨h1, h2⟩ j hj
      by_cases e : j = n
      · rw [e, h2]
      · exact h1 j (by omega)
    · intro h
      exact ⟨fun j hj => h j (by omega), h n (by omega)⟩
theorem s_ff_m1 {g : Nat → Bool} : ∀ {m i : Nat}, i + m < 2 ^ 31 → (s_ff g m i = -1 ↔ ∀ j, i ≤ j → j < i + m → g j = false)
  | 0, i, _ => ⟨fun _ j h1 h2 => by omega, fun _ => rfl⟩
  | m + 1, i, h => by
    unfold s_ff
    cases hg : g i with
    | true =>
      rw [if_pos rfl]
      constructor
      · intro z
        exact absurd z (nm1 (by omega))
      · intro z
        have := z i (Nat.le_refl i) (by omega)
        rw [hg] at this
        cases this
    | false =>
      rw [if_neg (by decide), s_ff_m1 (by omega)]
      constructor
      · intro z j h1 h2
        by_cases e : j = i
        · rw [e, hg]
        · exact z j (by omega) (by omega)
      · intro z j h1 h2
        exact z j (by omega) (by omega)
theorem ff_any {g : Nat → Bool} {z : Nat} (hz : z ≤ 40) : decide (s_ff g z 0 = -1) = !s_any g z := by
  cases e : s_any g z with
  | false =>
    rw [s_any_f] at e
    simp only [Bool.not_false, decide_eq_true_eq]
    exact (s_ff_m1 (by omega)).mpr fun j _ hj => e j (by omega)
  | true =>
    simp only [Bool.not_true, decide_eq_false_iff_not]
    intro h
    have h2 := (s_ff_m1 (by omega)).mp h
    have : s_any g z = false := s_any_f.mpr fun j hj => h2 j (by omega) (by omega)
    rw [this] at e
    cases e
theorem s_set_del {P : Nat → Bool} {k : Nat} (hk : k < 36) : (s_set P 36) &&& ((shL 1 (nI k)) ^^^ (-1)) = s_set (fun c => P c && decide (c ≠ k)) 36 := by
  apply i64_ext
  intro j hj
  rw [Int64.toBitVec_and, BitVec.getLsbD_and, Int64.toBitVec_xor, BitVec.getLsbD_xor, s_set_bit P 36 (Nat.le_refl 36), s_set_bit _ 36 (Nat.le_refl 36), shL_bit hk]
  have : (-1 : Int64).toBitVec = BitVec.allOnes 64 := by decide
  rw [this, BitVec.getLsbD_allOnes]
  simp only [hj, decide_true, Bool.xor_true]
  by_cases e : j = k <;> simp [e]
theorem and_m1 (v : Int64) : v &&& (-1) = v := by
  apply i64_ext
  intro j hj
  rw [Int64.toBitVec_and, BitVec.getLsbD_and]
  have : (-1 : Int64).toBitVec = BitVec.allOnes 64 := by decide
  rw [this, BitVec.getLsbD_allOnes]
  simp [hj]
theorem c_whr {n s z : Nat} {d : Dt} {μ : ax_M} (h : RC n d μ) (hl : LC d μ) (hs : s < 4) (hz : z ≤ 40) (h50 : μ 50 s = nI z) {C : Nat → Int32} (hC : ∀ i, i < z → μ (45 + s) i = C i) : ∃ μ2, m_X9_where_18 (nI s) fu 0 0 μ = some (s_set (fun c => !s_any (fun i => decide (s_fw d n c (nI i) ≠ C i)) z) 36, μ2) ∧ Ch S2 μ μ2 := by
  obtain ⟨b, hb, hq⟩ := loopK (N := 36) (fun k i (a : Int64 × ax_M) => m_X9_where_18 (nI s) k a.1 (nI i) a.2) (fun i a => a.1 = s_set (fun c => !s_any (fun i => decide (s_fw d n c (nI i) ≠ C i)) z) i ∧ Ch S2 μ a.2) (fun a => some a) (by omega)
    (fun k i a hi hI => by
      obtain ⟨x, μ1⟩ := a
      obtain ⟨h1, h2⟩ := hI
      have hx : x = _ := h1
      have hch : Ch S2 μ μ1 := h2
      clear h1 h2
      subst hx
      obtain ⟨μ2, e1, e2⟩ := c_fo2 (h.ch hch S2N) (hl.ch hch S2N) hs hz hi (C := C) (fun j hj => by rw [hch (45 + s) j (by simp [S2]; omega)]; exact hC j hj)
      show ∃ a2, m_X9_where_18 (nI s) (k + 1) _ (nI i) μ1 = _ ∧ _
      rw [m_X9_where_18, if_neg (ge36 hi), ix_nI hs (by decide)]
      simp only [ob_some]
      rw [hch 50 s rfl, h50, e1, bind2_some, na1]
      have hff := ff_any (g := fun j => decide (s_fw d n i (nI j) ≠ C j)) hz
      cases ha : s_any (fun j => decide (s_fw d n i (nI j) ≠ C j)) z with
      | false =>
        rw [ha] at hff
        have hm := of_decide_eq_true hff
        rw [if_pos hm]
        refine ⟨(_, μ2), rfl, ?_, hch.tr e2⟩
        show _ = s_set _ (i + 1)
        rw [s_set, ha]
        simp
      | true =>
        rw [ha] at hff
        have hm := of_decide_eq_false hff
        rw [if_neg hm]
        refine ⟨(_, μ2), rfl, ?_, hch.tr e2⟩
        show _ = s_set _ (i + 1)
        rw [s_set, ha]
        simp)
    (fun k a hI => by
      show m_X9_where_18 (nI s) (k + 1) a.1 (nI 36) a.2 = _
      rw [m_X9_where_18, if_pos (by decide)])
    (0, μ) ⟨rfl, Ch.rf⟩
  refine ⟨b.2, ?_, hb.2⟩
  rw [← hb.1]
  exact hq
