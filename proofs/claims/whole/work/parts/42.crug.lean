theorem s_top_succ {P : Nat → Bool} {n : Nat} : s_top P (n + 1) = if P n then some n else s_top P n := rfl
theorem s_say01 {d : Dt} {p r c : Nat} {h : Int32} (hp : p ≠ 0) : s_say d p r c h = 0 ∨ s_say d p r c h = 1 := by
  unfold s_say
  rw [if_neg hp]
  split
  · exact Or.inl rfl
  · exact Or.inr rfl
theorem c_asl {n : Nat} {d : Dt} {μ : ax_M} (h : RC n d μ) (hl : LC d μ) {r : Nat} {hh : Int32} (hr : r < n) : ∃ μ2, m_X0_isAsleep (nI r) hh μ = some (bI (s_asl d r hh), μ2) ∧ Ch S2 μ μ2 := by
  have h0 := h
  obtain ⟨h1, h2, h3⟩ := h
  obtain ⟨hk, -, ha, -, -, -, la, -, -, -⟩ := h3 r hr
  obtain ⟨μ2, e1, e2⟩ := c_say h0 hl (p := 2) (r := r) (c := d_a d r) (hh := hh) (by decide) hr la
  have hk2 : μ2 26 r = d_k d r := by rw [e2 26 r rfl, hk]
  unfold m_X0_isAsleep m_X0_isAsleep_33 m_X0_isAsleep_55
  rw [ix_nI (by omega) (by decide)]
  simp only [ob_some, hk, ha]
  rw [show m_X0_says 2 (nI r) (nI (d_a d r)) hh μ = some (s_say d 2 r (d_a d r) hh, μ2) from e1]
  simp only [bind2_some, hk2]
  unfold s_asl bI
  have h01 := s_say01 (d := d) (p := 2) (r := r) (c := d_a d r) (h := hh) (by decide)
  by_cases c5 : d_k d r = 5
  · refine ⟨μ, ?_, Ch.rf⟩
    simp [c5]
  · refine ⟨μ2, ?_, e2⟩
    simp only [if_neg c5]
    rcases h01 with h01 | h01 <;> rw [h01] <;> by_cases k2 : d_k d r = 2 <;> by_cases k4 : d_k d r = 4 <;> by_cases a14 : hh = 14 <;> by_cases a15 : hh = 15 <;> simp [k2, k4, a14, a15] <;> simp_all
theorem c_adm {n : Nat} {d : Dt} {μ : ax_M} (h : RC n d μ) (hl : LC d μ) {r c : Nat} (hr : r < n) (hc : c < 36) : ∃ μ2, m_X0_admits (nI r) (nI c) μ = some (bI (s_adm d r c (μ 25 2)), μ2) ∧ Ch S2 μ μ2 := by
  have h0 := h
  obtain ⟨h1, h2, h3⟩ := h
  obtain ⟨hk, hm, -, -, -, hg, -, -, -, -⟩ := h3 r hr
  obtain ⟨μ2, e1, e2⟩ := c_say h0 hl (p := 1) (r := r) (c := c) (hh := μ 25 2) (by decide) hr hc
  have hk2 : μ2 26 r = d_k d r := by rw [e2 26 r rfl, hk]
  have hm2 : μ2 27 r = d_m d r := by rw [e2 27 r rfl, hm]
  have hg2 : μ2 31 r = d_g d r := by rw [e2 31 r rfl, hg]
  unfold m_X0_admits m_X0_admits_31 m_X9_isA
  rw [ix_nI (by omega) (by decide)]
  simp only [ob_some, hk]
  rw [show m_X0_says 1 (nI r) (nI c) (μ 25 2) μ = some (s_say d 1 r c (μ 25 2), μ2) from e1]
  simp only [bind2_some, hk2, ob_some, hm2, hg2]
  unfold s_adm bI
  have h01 := s_say01 (d := d) (p := 1) (r := r) (c := c) (h := μ 25 2) (by decide)
  by_cases c3 : d_k d r = 3
  · refine ⟨μ, ?_, Ch.rf⟩
    simp [c3]
  · refine ⟨μ2, ?_, e2⟩
    simp only [if_neg c3]
    by_cases c2 : d_k d r = 2 <;> by_cases c4 : d_k d r = 4 <;> rcases h01 with h01 | h01 <;> rw [h01] <;> by_cases cg : d_g d r < d_m d r <;> simp [c2, c4, cg] <;> simp_all [Int32.not_lt, Int32.not_le]
theorem c_fin {n : Nat} {d : Dt} {μ : ax_M} (h : RC n d μ) (hl : LC d μ) {r c : Nat} {hh : Int32} (hr : r < n) (hc : c < 36) : ∃ μ2, m_X0_fineOf (nI r) (nI c) hh μ = some (s_fin d r c hh, μ2) ∧ Ch S2 μ μ2 := by
  have h0 := h
  obtain ⟨h1, h2, h3⟩ := h
  obtain ⟨hk, hm, -, -, -, hg, -, -, -, -⟩ := h3 r hr
  obtain ⟨μ2, e1, e2⟩ := c_say h0 hl (p := 0) (r := r) (c := c) (hh := hh) (by decide) hr hc
  have hk2 : μ2 26 r = d_k d r := by rw [e2 26 r rfl, hk]
  have hm2 : μ2 27 r = d_m d r := by rw [e2 27 r rfl, hm]
  have hf := c_frg (h0.ch e2 S2N) hr hc
  unfold m_X0_fineOf m_X0_fineOf_63
  rw [ix_nI (by omega) (by decide)]
  simp only [ob_some, hk, hm, if_neg (nm1 (show r < 2 ^ 31 by omega))]
  rw [show (m_X0_says 0 (nI r) (nI c) hh μ) = some (s_say d 0 r c hh, μ2) from e1]
  simp only [bind2_some, hf, ob_some, hk2, hm2]
  unfold s_fin s_tar bI
  by_cases c5 : d_k d r = 5
  · exact ⟨μ, by simp [c5], Ch.rf⟩
  · refine ⟨μ2, ?_, e2⟩
    simp only [if_neg c5]
    by_cases cf : s_frg d r c = true <;> by_cases c1 : d_k d r = 1 <;> by_cases c2 : d_k d r = 2 <;> by_cases c3 : d_k d r = 3 <;> by_cases c4 : d_k d r = 4 <;> simp [cf, c1, c2, c3, c4] <;> simp_all
theorem c_fat {n : Nat} {d : Dt} {μ : ax_M} (h : RC n d μ) (hl : LC d μ) {o : Option Nat} {c : Nat} {hh : Int32} (ho : ∀ r, o = some r → r < n) (hc : c < 36) : ∃ μ2, m_X0_fineOf (rI o) (nI c) hh μ = some (s_fat d o c hh, μ2) ∧ Ch S2 μ μ2 := by
  cases o with
  | none =>
    refine ⟨μ, ?_, Ch.rf⟩
    unfold m_X0_fineOf
    simp [rI, s_fat]
  | some r => exact c_fin h hl (ho r rfl) hc
theorem c_awk {n : Nat} {d : Dt} {μ : ax_M} (h : RC n d μ) (hl : LC d μ) (hh : Int32) : ∃ μ2, m_X0_awakeAt hh μ = some (mkA (s_awk d hh) n, μ2) ∧ Ch S2 μ μ2 := by
  have h6 := h.1
  have hN : ∀ μ2, Ch S2 μ μ2 → μ2 25 1 = nI n := fun μ2 e => by rw [e 25 1 rfl]; exact h.2.1
  obtain ⟨b, hb, hq⟩ := loopF (N := n) (fun k i (a : Int32 × ax_M) => m_X0_awakeAt_4 hh k a.1 (nI i) a.2) (fun i a => a.1 = mkA (s_awk d hh) i ∧ Ch S2 μ a.2) (fun b => b.1 = mkA (s_awk d hh) n ∧ Ch S2 μ b.2) (by omega)
    (fun k i a hi hI => by
      obtain ⟨x, μ1⟩ := a
      obtain ⟨rfl, hc⟩ := hI
      have hc : Ch S2 μ μ1 := hc
      obtain ⟨μ2, e1, e2⟩ := c_asl (h.ch hc S2N) (hl.ch hc S2N) (hh := hh) hi
      refine Or.inl ⟨(mkA (s_awk d hh) (i + 1), μ2), ?_, rfl, hc.tr e2⟩
      show m_X0_awakeAt_4 hh (k + 1) (mkA (s_awk d hh) i) (nI i) μ1 = _
      rw [m_X0_awakeAt_4]
      simp only [hN μ1 hc]
      rw [if_neg (by rw [nleL (by omega) (by omega)]; omega), e1, bind2_some, mkA_up (by omega), na1]
      unfold bI s_awk
      cases s_asl d i hh <;> rfl)
    (fun k a hI => by
      obtain ⟨x, μ1⟩ := a
      refine ⟨_, ?_, hI⟩
      show m_X0_awakeAt_4 hh (k + 1) x (nI n) μ1 = _
      rw [m_X0_awakeAt_4]
      simp only [hN μ1 hI.2]
      rw [if_pos (Int32.le_refl _)])
    (0, μ) ⟨(mkA_0 _).symm, Ch.rf⟩
  refine ⟨b.2, ?_, hq.2⟩
  unfold m_X0_awakeAt
  rw [← hq.1]
  exact hb
theorem c_rul {n : Nat} {d : Dt} {μ : ax_M} (h : RC n d μ) {A : Nat → Bool} {c : Nat} (hc : c < 36) : m_X0_rulerAmong (mkA A n) (nI c) μ = some (rI (s_rul d n A c)) := by
  have h6 := h.1
  have key : ∀ (m k : Nat), m ≤ n → m < k → m_X0_rulerAmong_7 (mkA A n) (nI c) μ k (nI m - 1) = some (rI (s_top (fun r => A r && s_lie d r c) m)) := by
    intro m
    induction m with
    | zero =>
      intro k _ hk
      obtain ⟨k, rfl⟩ : ∃ k2, k = k2 + 1 := ⟨k - 1, by omega⟩
      rw [m_X0_rulerAmong_7]
      rfl
    | succ m ih =>
      intro k hm hk
      obtain ⟨k, rfl⟩ : ∃ k2, k = k2 + 1 := ⟨k - 1, by omega⟩
      rw [m_X0_rulerAmong_7, nI_pred, if_neg (nneg (by omega)), mkA_bit (by omega), c_lie h (by omega) hc, ob_some]
      have e : nI m + (-1) = nI m - 1 := by
        rw [Int32.sub_eq_add_neg]
      rw [e, ih k (by omega) (by omega)]
      rw [s_top_succ]
      unfold bI
      have hmn : m < n := by omega
      cases A m <;> cases s_lie d m c <;> simp [hmn] <;> rfl
  unfold m_X0_rulerAmong
  rw [h.2.1]
  exact key n fu (Nat.le_refl n) (by have : 7 ≤ fu := by decide
                                     omega)
