/-! ===== the model: walks ===== -/
def JM (n : Nat) (R : Nat → Option Nat) (F : Nat → Int32) (w : Nat → Nat) (i : Nat) (μ : ax_M) : Prop := μ 51 31 = s_sum (fun j => F (w j)) i ∧ μ 51 32 = nI (s_wb R w i) ∧ μ 51 33 = mkA (s_wm R w i) n
def T5 (k : Nat) (i : Nat) : Bool := k == 66 || k == 67 || (k == 51 && (i == 30 || i == 31 || i == 32 || i == 33))
def T7 (k : Nat) (i : Nat) : Bool := k == 66 || k == 67 || k == 68 || (k == 51 && (i == 30 || i == 31 || i == 32 || i == 33))
theorem T5N (k i : Nat) (h : mN k i = true) : T5 k i = false := by simp [mN, T5] at *; omega
theorem T7N (k i : Nat) (h : mN k i = true) : T7 k i = false := by simp [mN, T7] at *; omega
theorem T25 (k i : Nat) (h : T5 k i = false) : T2 k i = false := by simp [T2, T5] at *; omega
theorem T57 (k i : Nat) (h : T7 k i = false) : T5 k i = false := by simp [T7, T5] at *; omega
theorem T37 (k i : Nat) (h : T7 k i = false) : T3 k i = false := by simp [T3, T7] at *; omega
theorem w_e {μ : ax_M} {k i k2 i2 : Nat} {v : Int32} (h : ¬ (k2 = k ∧ i2 = i)) : ax_w μ k i v k2 i2 = μ k2 i2 := by
  by_cases e : k2 = k
  · subst e
    exact w_i (fun z => h ⟨rfl, z⟩)
  · exact w_k e
theorem m_go {n i s : Nat} {d : Dt} {μ : ax_M} {R : Nat → Option Nat} {w : Nat → Nat} (h : RM n d μ) (hl : LM d μ) (hR : ∀ c, c < 36 → μ 68 c = rI (R c)) (hRn : ∀ c r, R c = some r → r < n) (hc : w i < 36) (hJ : JM n R (fun c => s_fat d (R c) c (μ 51 4)) w i μ) (k27 : Int32 → ax_M → Option ax_M) :
    ∃ μ2, m_X10_goesOver_147 (nI s) (nI i) (nI (w i)) (bI (s_crs R (s_pv w i) (w i))) k27 μ = k27 (nI (i + 1)) μ2 ∧ JM n R (fun c => s_fat d (R c) c (μ 51 4)) w (i + 1) μ2 ∧ μ2 51 30 = μ 51 30 ∧ Ch T5 μ μ2 := by
  have hb : ∀ c r, R c = some r → r < 2 ^ 31 := fun c r h2 => by have := hRn c r h2; have := h.1; omega
  have h6 := h.1
  obtain ⟨j1, j2, j3⟩ := hJ
  obtain ⟨μ1, e1, e2⟩ := m_fat h hl hR hRn hc
  -- after the borders
  have last : ∀ (μ3 : ax_M) (s1 s2 : Int32), s1 + s2 = nI (s_wb R w (i + 1)) → μ3 51 31 = s_sum (fun j => s_fat d (R (w j)) (w j) (μ 51 4)) (i + 1) → μ3 51 33 = mkA (s_wm R w i) n → μ3 51 30 = μ 51 30 → Ch T5 μ μ3 → ∃ μ2, m_X10_goesOver_176 (nI s) (nI i) (nI (w i)) s1 s2 k27 μ3 = k27 (nI (i + 1)) μ2 ∧ JM n R (fun c => s_fat d (R c) c (μ 51 4)) w (i + 1) μ2 ∧ μ2 51 30 = μ 51 30 ∧ Ch T5 μ μ2 := by
    intro μ3 s1 s2 a2 a1 a3 a0 hch
    unfold m_X10_goesOver_176
    have a68 : (ax_w μ3 51 32 (s1 + s2)) 68 (w i) = rI (R (w i)) := by
      rw [w_k (by decide), hch 68 _ rfl]
      exact hR _ hc
    rw [ix_nI hc (by decide)]
    simp only [ob_some, a68, rI_m1 (hb (w i)), na1, or0]
    by_cases e : R (w i) = none
    · rw [if_pos e]
      refine ⟨_, rfl, ⟨?_, ?_, ?_⟩, ?_, (hch.w rfl).w rfl⟩
      · rw [w_i (by decide), w_i (by decide), a1]
      · rw [w_i (by decide), w_ss, a2]
      · rw [w_ss, w_i (by decide), a3]
        exact mkA_same fun q => by simp [s_wm, s_any, e]
      · rw [w_i (by decide), w_i (by decide), a0]
    · rw [if_neg e]
      obtain ⟨y, hy⟩ : ∃ y, R (w i) = some y := by
        cases hz : R (w i) with
        | none => exact absurd hz e
        | some y => exact ⟨y, rfl⟩
      have hyn := hRn _ y hy
      refine ⟨_, rfl, ⟨?_, ?_, ?_⟩, ?_, (hch.w rfl).w rfl⟩
      · rw [w_i (by decide), w_i (by decide), a1]
      · rw [w_i (by decide), w_ss, a2]
      · rw [w_ss, w_i (by decide), a3, hy, show rI (some y) = nI y from rfl, mkA_set hyn (by omega)]
        refine mkA_same fun q => ?_
        simp only [s_wm, s_any, hy]
        by_cases hqy : q = y
        · subst hqy
          simp
        · have h2 : ¬ y = q := fun z => hqy z.symm
          simp [hqy, h2]
      · rw [w_i (by decide), w_i (by decide), a0]
  unfold m_X10_goesOver_147
  rw [e1, bind2_some]
  have b1 : (ax_w μ1 51 31 (μ 51 31 + s_fat d (R (w i)) (w i) (μ 51 4))) 51 31 = s_sum (fun j => s_fat d (R (w j)) (w j) (μ 51 4)) (i + 1) := by
    rw [w_ss, j1]
    rfl
  have b2 : (ax_w μ1 51 31 (μ 51 31 + s_fat d (R (w i)) (w i) (μ 51 4))) 51 32 = nI (s_wb R w i) := by
    rw [w_i (by decide), e2 51 32 rfl, j2]
  have b3 : (ax_w μ1 51 31 (μ 51 31 + s_fat d (R (w i)) (w i) (μ 51 4))) 51 33 = mkA (s_wm R w i) n := by
    rw [w_i (by decide), e2 51 33 rfl, j3]
  have b0 : (ax_w μ1 51 31 (μ 51 31 + s_fat d (R (w i)) (w i) (μ 51 4))) 51 30 = μ 51 30 := by
    rw [w_i (by decide), e2 51 30 rfl]
  rw [b2]
  cases hx : s_crs R (s_pv w i) (w i) with
  | false =>
    rw [if_pos (by simp [bI])]
    refine last _ _ _ ?_ b1 b3 b0 ((e2.mono T25).w rfl)
    rw [show (0 : Int32) = nI 0 from rfl, nI_add]
    simp [s_wb, s_num, hx]
  | true =>
    rw [if_neg (by simp [bI])]
    refine last _ _ _ ?_ b1 b3 b0 ((e2.mono T25).w rfl)
    rw [na1]
    simp [s_wb, s_num, hx]
theorem m_thru {n s z : Nat} {d : Dt} {μ : ax_M} {w : Nat → Nat} (h : RM n d μ) (hl : LM d μ) (hs : s < 4) (hz : z ≤ 40) (h61 : μ 61 s = nI z) (hw : ∀ j, j < z → w j < 36 ∧ μ 62 (40 * s + j) = nI (w j)) :
    ∃ μ2, m_X10_goesOver (nI s) μ = some μ2 ∧ μ2 51 30 = rI (s_idx (fun i => s_stp d (s_rul d n (s_awk d (μ 51 4))) (s_pv w i) (w i) (μ 51 4)) z 0) ∧ JM n (s_rul d n (s_awk d (μ 51 4))) (fun c => s_fat d (s_rul d n (s_awk d (μ 51 4)) c) c (μ 51 4)) w (s_til (s_idx (fun i => s_stp d (s_rul d n (s_awk d (μ 51 4))) (s_pv w i) (w i) (μ 51 4)) z 0) z) μ2 ∧ Ch T7 μ μ2 := by
  have h6 := h.1
  obtain ⟨μ0, e1, e2, e3⟩ := m_rl h hl
  generalize hRR : s_rul d n (s_awk d (μ 51 4)) = R at *
  have hRn : ∀ c r, R c = some r → r < n := fun c r hr => by rw [← hRR] at hr; exact s_rul_lt hr
  have hb : ∀ c r, R c = some r → r < 2 ^ 31 := fun c r h2 => by have := hRn c r h2; omega
  have key : ∀ (m i k : Nat) (μ1 : ax_M), i + m = z → m < k → Ch T7 μ μ1 → (∀ c, c < 36 → μ1 68 c = rI (R c)) → JM n R (fun c => s_fat d (R c) c (μ 51 4)) w i μ1 → μ1 51 30 = -1 → ∃ μ2, m_X10_goesOver_27 (nI s) k (nI i) μ1 = some μ2 ∧ μ2 51 30 = rI (s_idx (fun i => s_stp d R (s_pv w i) (w i) (μ 51 4)) m i) ∧ JM n R (fun c => s_fat d (R c) c (μ 51 4)) w (s_til (s_idx (fun i => s_stp d R (s_pv w i) (w i) (μ 51 4)) m i) z) μ2 ∧ Ch T7 μ μ2 := by
    intro m
    induction m with
    | zero =>
      intro i k μ1 hi hk hch hR hJ h30
      obtain ⟨k, rfl⟩ : ∃ k2, k = k2 + 1 := ⟨k - 1, by omega⟩
      refine ⟨μ1, ?_, h30, ?_, hch⟩
      · rw [m_X10_goesOver_27, ix_nI hs (by decide), ob_some, hch 61 s rfl, h61, if_pos (by rw [nleL (by omega) (by omega)]; omega)]
      · have : i = z := by omega
        subst this
        exact hJ
    | succ m ih =>
      intro i k μ1 hi hk hch hR hJ h30
      obtain ⟨k, rfl⟩ : ∃ k2, k = k2 + 1 := ⟨k - 1, by omega⟩
      have hwi := hw i (by omega)
      have e40 : (40 : Int32) * nI s + nI i = nI (40 * s + i) := by rw [show (40 : Int32) = nI 40 from rfl, pk_mul, nI_add]
      have c62 : μ1 62 (40 * s + i) = nI (w i) := by rw [hch 62 _ rfl]; exact hwi.2
      -- to the step, with what is crossed
      have step : m_X10_goesOver_27 (nI s) (k + 1) (nI i) μ1 = m_X10_goesOver_110 (nI s) (nI i) (nI (w i)) (bI (s_crs R (s_pv w i) (w i))) (m_X10_goesOver_27 (nI s) k) μ1 := by
        rw [m_X10_goesOver_27, ix_nI hs (by decide)]
        simp only [ob_some]
        rw [hch 61 s rfl, h61, if_neg (by rw [nleL (by omega) (by omega)]; omega), if_pos h30, e40, ix_nI (show 40 * s + i < 160 by omega) (by decide)]
        simp only [ob_some]
        rw [c62, within35 hwi.1, ob_some]
        cases i with
        | zero =>
          rw [if_pos (show nI 0 ≤ 0 from by decide)]
          simp [s_pv, s_crs, bI]
        | succ j =>
          have hwj := hw j (by omega)
          rw [if_neg (show ¬ nI (j + 1) ≤ 0 by rw [show (0 : Int32) = nI 0 from rfl, nleL (by omega) (by omega)]; omega), ix_nI hwi.1 (by decide), show nI (40 * s + (j + 1)) - 1 = nI (40 * s + j) from nI_pred (40 * s + j), ix_nI (show 40 * s + j < 160 by omega) (by decide)]
          simp only [ob_some]
          rw [show μ1 62 (40 * s + j) = nI (w j) by rw [hch 62 _ rfl]; exact hwj.2, within35 hwj.1, ob_some, ix_nI hwj.1 (by decide), ob_some, hR _ hwi.1, hR _ hwj.1]
          simp only [rI_inj (hb _) (hb _)]
          by_cases e : R (w (j + 1)) = R (w j)
          · rw [if_pos e]
            simp [s_pv, s_crs, bI, e]
          · rw [if_neg e]
            have e' : ¬ R (w j) = R (w (j + 1)) := fun z => e z.symm
            simp [s_pv, s_crs, bI, e']
      rw [step]
      -- going on
      have goon : ∀ μ3 : ax_M, Ch T2 μ1 μ3 → s_stp d R (s_pv w i) (w i) (μ 51 4) = false → ∃ μ2, m_X10_goesOver_147 (nI s) (nI i) (nI (w i)) (bI (s_crs R (s_pv w i) (w i))) (m_X10_goesOver_27 (nI s) k) μ3 = some μ2 ∧ μ2 51 30 = rI (s_idx (fun i => s_stp d R (s_pv w i) (w i) (μ 51 4)) (m + 1) i) ∧ JM n R (fun c => s_fat d (R c) c (μ 51 4)) w (s_til (s_idx (fun i => s_stp d R (s_pv w i) (w i) (μ 51 4)) (m + 1) i) z) μ2 ∧ Ch T7 μ μ2 := by
        intro μ3 h3 hx
        have hch3 : Ch T7 μ μ3 := hch.tr ((h3.mono T25).mono T57)
        have hR3 : ∀ c, c < 36 → μ3 68 c = rI (R c) := fun c hc => by rw [h3 68 c rfl]; exact hR c hc
        obtain ⟨j1, j2, j3⟩ := hJ
        have h4 : μ3 51 4 = μ 51 4 := hch3 51 4 rfl
        obtain ⟨μ4, g1, g2, g3, g4⟩ := m_go (s := s) (h.ch hch3 T7N) (hl.ch hch3 T7N) hR3 hRn hwi.1 (by
          rw [h4]
          exact ⟨by rw [h3 51 31 rfl]; exact j1, by rw [h3 51 32 rfl]; exact j2, by rw [h3 51 33 rfl]; exact j3⟩) (m_X10_goesOver_27 (nI s) k)
        rw [h4] at g2
        obtain ⟨μ5, k1, k2, k3, k4⟩ := ih (i + 1) k μ4 (by omega) (by omega) (hch3.tr (g4.mono T57)) (fun c hc => by rw [g4 68 c rfl]; exact hR3 c hc) g2 (by rw [g3, h3 51 30 rfl]; exact h30)
        refine ⟨μ5, by rw [g1, k1], ?_, ?_, k4⟩
        · simp only [s_idx, hx, Bool.false_eq_true, if_false]
          exact k2
        · simp only [s_idx, hx, Bool.false_eq_true, if_false]
          exact k3
      -- asking
      have ask : (∀ a, s_pv w i = some a → ¬ R a = R (w i)) → ∃ μ2, m_X10_goesOver_124 (nI s) (nI i) (nI (w i)) (bI (s_crs R (s_pv w i) (w i))) 1 (m_X10_goesOver_27 (nI s) k) μ1 = some μ2 ∧ μ2 51 30 = rI (s_idx (fun i => s_stp d R (s_pv w i) (w i) (μ 51 4)) (m + 1) i) ∧ JM n R (fun c => s_fat d (R c) c (μ 51 4)) w (s_til (s_idx (fun i => s_stp d R (s_pv w i) (w i) (μ 51 4)) (m + 1) i) z) μ2 ∧ Ch T7 μ μ2 := by
        intro hp
        obtain ⟨μ3, f1, f2⟩ := m_let (h.ch hch T7N) (hl.ch hch T7N) hR hRn hwi.1
        rw [hch 51 4 rfl] at f1
        have hst : s_stp d R (s_pv w i) (w i) (μ 51 4) = !s_let d (R (w i)) (w i) (μ 51 4) := by
          unfold s_stp
          cases e : s_pv w i with
          | none => rfl
          | some a => simp [hp a e]
        unfold m_X10_goesOver_124
        rw [if_neg (by decide), f1, bind2_some]
        cases hx : s_let d (R (w i)) (w i) (μ 51 4) with
        | true =>
          rw [if_neg (by simp [bI])]
          exact goon μ3 f2 (by rw [hst, hx]; rfl)
        | false =>
          rw [if_pos (by simp [bI])]
          have hx2 : s_stp d R (s_pv w i) (w i) (μ 51 4) = true := by rw [hst, hx]; rfl
          obtain ⟨k, rfl⟩ : ∃ k2, k = k2 + 1 := ⟨k - 1, by omega⟩
          have hch3 : Ch T7 μ (ax_w μ3 51 30 (nI i)) := (hch.tr ((f2.mono T25).mono T57)).w rfl
          refine ⟨ax_w μ3 51 30 (nI i), ?_, ?_, ?_, hch3⟩
          · rw [m_X10_goesOver_27, ix_nI hs (by decide), ob_some, hch3 61 s rfl, h61, w_ss]
            split
            · rfl
            · rw [if_neg (nm1 (by omega))]
          · rw [w_ss]
            simp [s_idx, hx2, rI]
          · obtain ⟨j1, j2, j3⟩ := hJ
            simp only [s_idx, hx2, if_true, s_til]
            exact ⟨by rw [w_i (by decide), f2 51 31 rfl]; exact j1, by rw [w_i (by decide), f2 51 32 rfl]; exact j2, by rw [w_i (by decide), f2 51 33 rfl]; exact j3⟩
      unfold m_X10_goesOver_110
      cases i with
      | zero =>
        rw [if_pos (show nI 0 = 0 from rfl)]
        exact ask (fun a ha => by cases ha)
      | succ j =>
        rw [if_neg (show ¬ nI (j + 1) = 0 by rw [show (0 : Int32) = nI 0 from rfl, neqL (by omega) (by omega)]; omega)]
        by_cases e : R (w j) = R (w (j + 1))
        · rw [if_pos (by simp [s_pv, s_crs, bI, e])]
          unfold m_X10_goesOver_124
          rw [if_pos rfl]
          exact goon μ1 Ch.rf (by simp [s_stp, s_pv, e])
        · rw [if_neg (by simp [s_pv, s_crs, bI, e])]
          refine ask (fun a ha => ?_)
          cases ha
          exact e
  unfold m_X10_goesOver
  rw [e1, ob_some]
  refine key z 0 fu _ (by omega) (by have : 41 ≤ fu := by decide
                                     omega) (((((e2.mono T37).w rfl).w rfl).w rfl).w rfl) (fun c hc => ?_) ⟨?_, ?_, ?_⟩ ?_
  · rw [w_k (by decide), w_k (by decide), w_k (by decide), w_k (by decide)]
    exact e3 c hc
  · rw [w_i (by decide), w_i (by decide), w_ss]
    rfl
  · rw [w_i (by decide), w_ss]
    rfl
  · rw [w_ss]
    simp [mkA, mk6, s_wm, s_any]
  · rw [w_i (by decide), w_i (by decide), w_i (by decide), w_ss]
