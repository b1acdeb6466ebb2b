/-! ===== the model: what is unlike ===== -/
def T9 (k : Nat) (i : Nat) : Bool := k == 66 || k == 67 || k == 68 || (k == 51 && i == 4)
theorem T9N (k i : Nat) (h : mN k i = true) : T9 k i = false := by simp [mN, T9] at *; omega
theorem T39 (k i : Nat) (h : T9 k i = false) : T3 k i = false := by simp [T3, T9] at *; omega
theorem ch_back {μ μ1 : ax_M} (h : Ch T9 μ μ1) : Ch T3 μ (ax_w μ1 51 4 (μ 51 4)) := by
  intro k i hs
  by_cases e : k = 51 ∧ i = 4
  · obtain ⟨rfl, rfl⟩ := e
    exact w_ss
  · rw [w_e e]
    exact h k i (by simp [T3, T9] at *; omega)
theorem m_unl {n s z c : Nat} {d : Dt} {μ : ax_M} (h : RM n d μ) (hl : LM d μ) (hs : s < 4) (hz : z ≤ 40) (h61 : μ 61 s = nI z) (hc : c < 36) : ∃ μ2, m_X10_unlike (nI s) (nI c) μ = some (s_ff (fun i => decide (s_fw d n c (nI i) ≠ μ 62 (40 * s + i))) z 0, μ2) ∧ Ch T3 μ μ2 := by
  have key : ∀ (m i k : Nat) (μ1 : ax_M), i + m = z → m + 1 < k → Ch T9 μ μ1 → ∃ μ2, m_X10_unlike_11 (nI s) (nI c) (μ 51 4) k (-1) (nI i) μ1 = some (s_ff (fun i => decide (s_fw d n c (nI i) ≠ μ 62 (40 * s + i))) m i, μ2) ∧ Ch T3 μ μ2 := by
    intro m
    induction m with
    | zero =>
      intro i k μ1 hi hk hch
      obtain ⟨k, rfl⟩ : ∃ k2, k = k2 + 1 := ⟨k - 1, by omega⟩
      refine ⟨_, ?_, ch_back hch⟩
      rw [m_X10_unlike_11, ix_nI hs (by decide), ob_some, hch 61 s rfl, h61, if_pos (by rw [nleL (by omega) (by omega)]; omega)]
      rfl
    | succ m ih =>
      intro i k μ1 hi hk hch
      obtain ⟨k, rfl⟩ : ∃ k2, k = k2 + 1 := ⟨k - 1, by omega⟩
      have hc1 : Ch T9 μ (ax_w μ1 51 4 (nI i)) := hch.w rfl
      obtain ⟨μ2, e1, e2, e3⟩ := m_rl (h.ch hc1 T9N) (hl.ch hc1 T9N)
      rw [w_ss] at e3
      have hc2 : Ch T9 μ μ2 := hc1.tr (e2.mono T39)
      obtain ⟨μ3, f1, f2⟩ := m_fat (h.ch hc2 T9N) (hl.ch hc2 T9N) e3 (fun c r => s_rul_lt) hc
      have h4 : μ2 51 4 = nI i := by rw [e2 51 4 rfl, w_ss]
      rw [h4] at f1
      have hc3 : Ch T9 μ μ3 := hc2.tr ((f2.mono T23).mono T39)
      have e40 : (40 : Int32) * nI s + nI i = nI (40 * s + i) := by rw [show (40 : Int32) = nI 40 from rfl, pk_mul, nI_add]
      rw [m_X10_unlike_11, ix_nI hs (by decide)]
      simp only [ob_some]
      rw [hch 61 s rfl, h61, if_neg (by rw [nleL (by omega) (by omega)]; omega), if_pos trivial, e1, ob_some, e40, ix_nI (show 40 * s + i < 160 by omega) (by decide), ob_some, f1, bind2_some, hc2 62 _ rfl, na1, s_ff]
      have efw : s_fat d (s_rul d n (s_awk d (nI i)) c) c (nI i) = s_fw d n c (nI i) := rfl
      rw [efw]
      by_cases e : s_fw d n c (nI i) = μ 62 (40 * s + i)
      · rw [if_pos e.symm]
        obtain ⟨μ4, g1, g2⟩ := ih (i + 1) k μ3 (by omega) (by omega) hc3
        refine ⟨μ4, ?_, g2⟩
        rw [g1]
        simp [e]
      · rw [if_neg (fun z => e z.symm)]
        obtain ⟨k, rfl⟩ : ∃ k2, k = k2 + 1 := ⟨k - 1, by omega⟩
        refine ⟨_, ?_, ch_back hc3⟩
        rw [m_X10_unlike_11, ix_nI hs (by decide), ob_some, if_neg (nm1 (by omega))]
        simp [e]
  exact key z 0 fu μ (by omega) (by have : 42 ≤ fu := by decide
                                    omega) Ch.rf
theorem c_fo2 {n : Nat} {d : Dt} {μ : ax_M} (h : RC n d μ) (hl : LC d μ) {s z c : Nat} (hs : s < 4) (hz : z ≤ 40) (hc : c < 36) {C : Nat → Int32} (hC : ∀ i, i < z → μ (45 + s) i = C i) : ∃ μ2, m_X0_firstOther (45 + s) (nI z) (nI c) μ = some (s_ff (fun i => decide (s_fw d n c (nI i) ≠ C i)) z 0, μ2) ∧ Ch S2 μ μ2 := by
  obtain ⟨μ2, e1, e2⟩ := c_fo h hl hs hz hc
  refine ⟨μ2, ?_, e2⟩
  rw [e1]
  congr 2
  exact s_ff_ext fun j _ hj => by rw [hC j (by omega)]
theorem m_unl2 {n s z c : Nat} {d : Dt} {μ : ax_M} (h : RM n d μ) (hl : LM d μ) (hs : s < 4) (hz : z ≤ 40) (h61 : μ 61 s = nI z) (hc : c < 36) {C : Nat → Int32} (hC : ∀ i, i < z → μ 62 (40 * s + i) = C i) : ∃ μ2, m_X10_unlike (nI s) (nI c) μ = some (s_ff (fun i => decide (s_fw d n c (nI i) ≠ C i)) z 0, μ2) ∧ Ch T3 μ μ2 := by
  obtain ⟨μ2, e1, e2⟩ := m_unl h hl hs hz h61 hc
  refine ⟨μ2, ?_, e2⟩
  rw [e1]
  congr 2
  exact s_ff_ext fun j _ hj => by rw [hC j (by omega)]
/-! the answers of freest and fold -/
theorem mkA_del {A : Nat → Bool} {n r : Nat} (hr : r < n) (hn : n ≤ 6) : (mkA A n) &&& ((shI 1 (nI r)) ^^^ (-1)) = mkA (fun q => A q && decide (q ≠ r)) n := by
  have key : ∀ (a b c d e f : Bool) (r : Fin 6), (mk6 a b c d e f) &&& ((shI 1 (nI r)) ^^^ (-1)) = mk6 (a && r.val != 0) (b && r.val != 1) (c && r.val != 2) (d && r.val != 3) (e && r.val != 4) (f && r.val != 5) := by decide +kernel
  unfold mkA
  rw [key _ _ _ _ _ _ ⟨r, by omega⟩]
  have hr6 : r < 6 := by omega
  match r, hr6 with
  | 0, _ => simp
  | 1, _ => simp
  | 2, _ => simp
  | 3, _ => simp
  | 4, _ => simp
  | 5, _ => simp
theorem s_all_ext {d : Dt} {n : Nat} {A B : Nat → Bool} {h : Int32} (hAB : ∀ q, q < n → A q = B q) : s_all d n A h = s_all d n B h := by
  unfold s_all
  refine s_sum_ext fun c _ => ?_
  rw [show s_rul d n A c = s_rul d n B c from s_top_ext fun r hr => by rw [hAB r hr]]
