def T10 (k : Nat) (i : Nat) : Bool := k == 66 || k == 67 || (k == 51 && (i == 31 || i == 32 || i == 36))
theorem T10N (k i : Nat) (h : mN k i = true) : T10 k i = false := by simp [mN, T10] at *; omega
theorem T210 (k i : Nat) (h : T10 k i = false) : T2 k i = false := by simp [T2, T10] at *; omega
theorem m_wby {n sd c m : Nat} {d : Dt} {μ : ax_M} {R : Nat → Option Nat} (h : RM n d μ) (hl : LM d μ) (hR : ∀ c, c < 36 → μ 68 c = rI (R c)) (hRn : ∀ c r, R c = some r → r < n) (hsd : sd < 200000) (hc : c < 36) (hm : m < 100) :
    ∃ μ2, m_X10_walksBy (nI sd) (nI (100 * c + m)) μ = some μ2 ∧ μ2 51 36 = nI (s_at (sd + 1) c m) ∧ μ2 51 31 = s_sum (fun j => s_fat d (R (s_at (sd + 1) c j)) (s_at (sd + 1) c j) (μ 51 4)) m ∧ μ2 51 32 = nI (s_sb R (sd + 1) c m) ∧ Ch T10 μ μ2 := by
  have hn := h.1
  have hb : ∀ c r, R c = some r → r < 2 ^ 31 := fun c r h => by have := hRn c r h; omega
  have hd : nI (100 * c + m) / 100 = nI c := by
    rw [nd100 (by omega)]
    congr 1
    omega
  have hr : rmI (nI (100 * c + m)) 100 = nI m := by
    rw [nr100 (by omega)]
    congr 1
    omega
  obtain ⟨b, hb2, hq⟩ := loopK (N := m) (fun k i (a : Int64 × ax_M) => m_X10_walksBy_32 (nI (100 * c + m)) k a.1 (nI i) a.2) (fun i a => a.1 = lN (s_sl (sd + 1) i) ∧ a.2 51 36 = nI (s_at (sd + 1) c i) ∧ a.2 51 31 = s_sum (fun j => s_fat d (R (s_at (sd + 1) c j)) (s_at (sd + 1) c j) (μ 51 4)) i ∧ a.2 51 32 = nI (s_sb R (sd + 1) c i) ∧ Ch T10 μ a.2) (fun a => some a.2) (by omega)
    (fun k i a hi hI => by
      obtain ⟨x, μ1⟩ := a
      obtain ⟨a1, a2, a3, a4, a5⟩ := hI
      have h1 : x = _ := a1
      have h2 : μ1 51 36 = _ := a2
      have h3 : μ1 51 31 = _ := a3
      have h4 : μ1 51 32 = _ := a4
      have hch : Ch T10 μ μ1 := a5
      clear a1 a2 a3 a4 a5
      subst h1
      have hat := s_at_lt (l := sd + 1) hc i
      have hat2 := s_at_lt (l := sd + 1) hc (i + 1)
      have hsl := s_sl_lt (show sd + 1 < 2147483647 by omega) i
      have hsl2 := s_sl_lt (show sd + 1 < 2147483647 by omega) (i + 1)
      obtain ⟨μ6, f1, f2⟩ := m_fat (h.ch hch T10N) (hl.ch hch T10N) (R := R) (fun c hc => by rw [hch 68 c rfl]; exact hR c hc) hRn hat
      rw [hch 51 4 rfl] at f1
      show ∃ a2, m_X10_walksBy_32 (nI (100 * c + m)) (k + 1) _ (nI i) μ1 = _ ∧ _
      rw [m_X10_walksBy_32, hr, if_neg (by rw [nleL (by omega) (by omega)]; omega), h2]
      rw [lot_s hsl, show s_lot (s_sl (sd + 1) i) = s_sl (sd + 1) (i + 1) from rfl, lot_4 hsl2, m_step hat (Nat.mod_lt _ (by decide)), ob_some, f1, bind2_some, na1]
      generalize hμ2 : ax_w μ6 51 31 (μ1 51 31 + s_fat d (R (s_at (sd + 1) c i)) (s_at (sd + 1) c i) (μ 51 4)) = μ2
      have g1 : μ2 51 36 = nI (s_at (sd + 1) c i) := by rw [← hμ2, w_i (by decide), f2 51 36 rfl, h2]
      have g2 : μ2 51 31 = s_sum (fun j => s_fat d (R (s_at (sd + 1) c j)) (s_at (sd + 1) c j) (μ 51 4)) (i + 1) := by
        rw [← hμ2, w_ss, h3]
        rfl
      have g3 : μ2 51 32 = nI (s_sb R (sd + 1) c i) := by rw [← hμ2, w_i (by decide), f2 51 32 rfl, h4]
      have g4 : Ch T10 μ μ2 := by rw [← hμ2]; exact (hch.tr (f2.mono T210)).w rfl
      have g5 : ∀ c, c < 36 → μ2 68 c = rI (R c) := fun c hc => by rw [g4 68 c rfl]; exact hR c hc
      cases hs : s_step (s_at (sd + 1) c i) (s_sl (sd + 1) (i + 1) % 4) with
      | none =>
        have e : s_at (sd + 1) c (i + 1) = s_at (sd + 1) c i := by
          rw [s_at, hs]
        rw [if_pos (show rI none = -1 from rfl)]
        refine ⟨(lN (s_sl (sd + 1) (i + 1)), μ2), rfl, rfl, ?_, g2, ?_, g4⟩
        · show μ2 51 36 = _
          rw [e, g1]
        · show μ2 51 32 = _
          rw [g3]
          simp [s_sb, s_num, e]
      | some v =>
        have hv := s_step_lt hat hs
        have e : s_at (sd + 1) c (i + 1) = v := by
          rw [s_at, hs]
        rw [if_neg (show ¬ rI (some v) = -1 from nm1 (by omega)), show rI (some v) = nI v from rfl, g1, ix_nI hat (by decide), within35 hv]
        simp only [ob_some]
        rw [ix_nI hv (by decide)]
        simp only [ob_some, g5 _ hat, g5 _ hv, rI_inj (hb _) (hb _)]
        have fin : ∀ s2 : Int32, nI (s_sb R (sd + 1) c i) + s2 = nI (s_sb R (sd + 1) c (i + 1)) → ∃ a2 : Int64 × ax_M, m_X10_walksBy_124 (nI (100 * c + m)) (lN (s_sl (sd + 1) (i + 1))) (nI i) (nI v) (μ2 51 32) s2 (m_X10_walksBy_32 (nI (100 * c + m)) k) μ2 = m_X10_walksBy_32 (nI (100 * c + m)) k a2.1 (nI (i + 1)) a2.2 ∧ a2.1 = lN (s_sl (sd + 1) (i + 1)) ∧ a2.2 51 36 = nI (s_at (sd + 1) c (i + 1)) ∧ a2.2 51 31 = s_sum (fun j => s_fat d (R (s_at (sd + 1) c j)) (s_at (sd + 1) c j) (μ 51 4)) (i + 1) ∧ a2.2 51 32 = nI (s_sb R (sd + 1) c (i + 1)) ∧ Ch T10 μ a2.2 := by
          intro s2 hs2
          refine ⟨(lN (s_sl (sd + 1) (i + 1)), ax_w (ax_w μ2 51 32 (μ2 51 32 + s2)) 51 36 (nI v)), ?_, rfl, ?_, ?_, ?_, (g4.w rfl).w rfl⟩
          · unfold m_X10_walksBy_124
            rw [na1]
          · show ax_w (ax_w μ2 51 32 (μ2 51 32 + s2)) 51 36 (nI v) 51 36 = _
            rw [w_ss, e]
          · show ax_w (ax_w μ2 51 32 (μ2 51 32 + s2)) 51 36 (nI v) 51 31 = _
            rw [w_i (by decide), w_i (by decide), g2]
          · show ax_w (ax_w μ2 51 32 (μ2 51 32 + s2)) 51 36 (nI v) 51 32 = _
            rw [w_i (by decide), w_ss, g3, hs2]
        by_cases e2 : R (s_at (sd + 1) c i) = R v
        · rw [if_pos e2]
          refine fin 0 ?_
          rw [show (0 : Int32) = nI 0 from rfl, nI_add]
          simp [s_sb, s_num, e, e2]
        · rw [if_neg e2]
          refine fin 1 ?_
          rw [na1]
          simp [s_sb, s_num, e, e2])
    (fun k a hI => by
      show m_X10_walksBy_32 (nI (100 * c + m)) (k + 1) a.1 (nI m) a.2 = _
      rw [m_X10_walksBy_32, hr, if_pos (Int32.le_refl _)])
    (lN (sd + 1), ax_w (ax_w (ax_w μ 51 31 0) 51 32 0) 51 36 (nI c)) ⟨rfl, by
      show ax_w (ax_w (ax_w μ 51 31 0) 51 32 0) 51 36 (nI c) 51 36 = _
      rw [w_ss]
      rfl, by
      show ax_w (ax_w (ax_w μ 51 31 0) 51 32 0) 51 36 (nI c) 51 31 = _
      rw [w_i (by decide), w_i (by decide), w_ss]
      rfl, by
      show ax_w (ax_w (ax_w μ 51 31 0) 51 32 0) 51 36 (nI c) 51 32 = _
      rw [w_i (by decide), w_ss]
      rfl, ((Ch.rf.w rfl).w rfl).w rfl⟩
  refine ⟨b.2, ?_, hb2.2.1, hb2.2.2.1, hb2.2.2.2.1, hb2.2.2.2.2⟩
  unfold m_X10_walksBy
  rw [hd, within35 hc, ob_some, nI_l (by omega), lN_1]
  exact hq
