/-! ===== strolls ===== -/
def s_lot (l : Nat) : Nat := l * 48271 % 2147483647
def s_sl (l : Nat) : Nat → Nat
  | 0 => l
  | i + 1 => s_lot (s_sl l i)
def s_at (l c : Nat) : Nat → Nat
  | 0 => c
  | i + 1 => (match s_step (s_at l c i) (s_sl l (i + 1) % 4) with
    | none => s_at l c i
    | some v => v)
theorem s_at_lt {l c : Nat} (hc : c < 36) : ∀ i, s_at l c i < 36
  | 0 => hc
  | i + 1 => by
    have ih := s_at_lt (l := l) hc i
    unfold s_at
    split
    · exact ih
    · rename_i v hv
      exact s_step_lt ih hv
theorem s_sl_lt {l : Nat} (hl : l < 2147483647) : ∀ i, s_sl l i < 2147483647
  | 0 => hl
  | i + 1 => Nat.mod_lt _ (by decide)
theorem lot_s {l : Nat} (hl : l < 2147483647) : rmL (lN l * 48271) 2147483647 = lN (s_lot l) := by
  rw [show (48271 : Int64) = lN 48271 from rfl, lN_mul, show (2147483647 : Int64) = lN 2147483647 from rfl]
  exact pk_lRem (by omega) (by decide) (by decide)
theorem lot_4 {l : Nat} (hl : l < 2147483647) : (rmL (lN l) 4).toInt32 = nI (l % 4) := by
  rw [show rmL (lN l) 4 = lN (l % 4) from pk_lRem (b := 4) (by omega) (by decide) (by decide), lN_i]
def s_sb (R : Nat → Option Nat) (l c i : Nat) : Nat := s_num (fun j => decide (R (s_at l c j) ≠ R (s_at l c (j + 1)))) i
def S38 (k : Nat) (_ : Nat) : Bool := k == 38
theorem c_str {n sd c m : Nat} {μ : ax_M} {R : Nat → Option Nat} {F : Nat → Int32} (hn : n ≤ 6) (hR : ∀ c, c < 36 → μ 32 c = rI (R c)) (hF : ∀ c, c < 36 → μ 33 c = F c) (hRn : ∀ c r, R c = some r → r < n) (hsd : sd < 200000) (hc : c < 36) (hm : m < 100) :
    ∃ μ2, m_X2_stroll (nI sd) (nI c) (nI m) μ = some μ2 ∧ μ2 38 1 = nI (s_at (sd + 1) c m) ∧ μ2 38 2 = s_sum (fun j => F (s_at (sd + 1) c j)) m ∧ μ2 38 3 = nI (s_sb R (sd + 1) c m) ∧ Ch S38 μ μ2 := by
  have hb : ∀ c r, R c = some r → r < 2 ^ 31 := fun c r h => by have := hRn c r h; omega
  obtain ⟨b, hb2, hq⟩ := loopK (N := m) (fun k i (a : Int64 × ax_M) => m_X2_stroll_24 (nI m) k a.1 (nI i) a.2) (fun i a => a.1 = lN (s_sl (sd + 1) i) ∧ a.2 38 1 = nI (s_at (sd + 1) c i) ∧ a.2 38 2 = s_sum (fun j => F (s_at (sd + 1) c j)) i ∧ a.2 38 3 = nI (s_sb R (sd + 1) c i) ∧ Ch S38 μ a.2) (fun a => some a.2) (by omega)
    (fun k i a hi hI => by
      obtain ⟨x, μ1⟩ := a
      obtain ⟨a1, a2, a3, a4, a5⟩ := hI
      have h1 : x = _ := a1
      have h2 : μ1 38 1 = _ := a2
      have h3 : μ1 38 2 = _ := a3
      have h4 : μ1 38 3 = _ := a4
      have hch : Ch S38 μ μ1 := a5
      clear a1 a2 a3 a4 a5
      subst h1
      have hat := s_at_lt (l := sd + 1) hc i
      have hat2 := s_at_lt (l := sd + 1) hc (i + 1)
      have hsl := s_sl_lt (show sd + 1 < 2147483647 by omega) i
      have hsl2 := s_sl_lt (show sd + 1 < 2147483647 by omega) (i + 1)
      have hR1 : ∀ c, c < 36 → μ1 32 c = rI (R c) := fun c hc => by rw [hch 32 c rfl]; exact hR c hc
      show ∃ a2, m_X2_stroll_24 (nI m) (k + 1) _ (nI i) μ1 = _ ∧ _
      rw [m_X2_stroll_24, if_neg (by rw [nleL (by omega) (by omega)]; omega), h2, ix_nI hat (by decide), ob_some]
      rw [lot_s hsl, show s_lot (s_sl (sd + 1) i) = s_sl (sd + 1) (i + 1) from rfl, lot_4 hsl2]
      generalize hμ2 : ax_w μ1 38 2 (μ1 38 2 + μ1 33 (s_at (sd + 1) c i)) = μ2
      have g1 : μ2 38 1 = nI (s_at (sd + 1) c i) := by rw [← hμ2, w_i (by decide), h2]
      have g2 : μ2 38 2 = s_sum (fun j => F (s_at (sd + 1) c j)) (i + 1) := by
        rw [← hμ2, w_ss, h3, hch 33 _ rfl, hF _ hat]
        rfl
      have g3 : μ2 38 3 = nI (s_sb R (sd + 1) c i) := by rw [← hμ2, w_i (by decide), h4]
      have g4 : Ch S38 μ μ2 := by rw [← hμ2]; exact hch.w rfl
      have g5 : ∀ c, c < 36 → μ2 32 c = rI (R c) := fun c hc => by rw [g4 32 c rfl]; exact hR c hc
      rw [g1, c_step hat (Nat.mod_lt _ (by decide)), ob_some, na1]
      cases hs : s_step (s_at (sd + 1) c i) (s_sl (sd + 1) (i + 1) % 4) with
      | none =>
        have e : s_at (sd + 1) c (i + 1) = s_at (sd + 1) c i := by
          rw [s_at, hs]
        rw [if_pos (show rI none = -1 from rfl)]
        refine ⟨(lN (s_sl (sd + 1) (i + 1)), μ2), rfl, rfl, ?_, g2, ?_, g4⟩
        · show μ2 38 1 = _
          rw [e, g1]
        · show μ2 38 3 = _
          rw [g3]
          simp [s_sb, s_num, e]
      | some v =>
        have hv := s_step_lt hat hs
        have e : s_at (sd + 1) c (i + 1) = v := by
          rw [s_at, hs]
        rw [if_neg (show ¬ rI (some v) = -1 from nm1 (by omega)), show rI (some v) = nI v from rfl, ix_nI hat (by decide), ix_nI hv (by decide)]
        simp only [ob_some, g5 _ hat, g5 _ hv, rI_inj (hb _) (hb _)]
        have fin : ∀ s2 : Int32, nI (s_sb R (sd + 1) c i) + s2 = nI (s_sb R (sd + 1) c (i + 1)) → ∃ a2 : Int64 × ax_M, m_X2_stroll_120 (nI m) (lN (s_sl (sd + 1) (i + 1))) (nI i) (nI v) (μ2 38 3) s2 (m_X2_stroll_24 (nI m) k) μ2 = m_X2_stroll_24 (nI m) k a2.1 (nI (i + 1)) a2.2 ∧ a2.1 = lN (s_sl (sd + 1) (i + 1)) ∧ a2.2 38 1 = nI (s_at (sd + 1) c (i + 1)) ∧ a2.2 38 2 = s_sum (fun j => F (s_at (sd + 1) c j)) (i + 1) ∧ a2.2 38 3 = nI (s_sb R (sd + 1) c (i + 1)) ∧ Ch S38 μ a2.2 := by
          intro s2 hs2
          refine ⟨(lN (s_sl (sd + 1) (i + 1)), ax_w (ax_w μ2 38 3 (μ2 38 3 + s2)) 38 1 (nI v)), ?_, rfl, ?_, ?_, ?_, (g4.w rfl).w rfl⟩
          · unfold m_X2_stroll_120
            rw [na1]
          · show ax_w (ax_w μ2 38 3 (μ2 38 3 + s2)) 38 1 (nI v) 38 1 = _
            rw [w_ss, e]
          · show ax_w (ax_w μ2 38 3 (μ2 38 3 + s2)) 38 1 (nI v) 38 2 = _
            rw [w_i (by decide), w_i (by decide), g2]
          · show ax_w (ax_w μ2 38 3 (μ2 38 3 + s2)) 38 1 (nI v) 38 3 = _
            rw [w_i (by decide), w_ss, g3, hs2]
        by_cases e2 : R (s_at (sd + 1) c i) = R v
        · rw [if_pos e2]
          refine fin 0 ?_
          rw [show (0 : Int32) = nI 0 from rfl, nI_add]
          simp [s_sb, s_num, e, e2]
        · rw [if_neg e2]
          refine fin 1 ?_
          rw [na1]
          simp [s_sb, s_num, e, e2])
    (fun k a hI => by
      show m_X2_stroll_24 (nI m) (k + 1) a.1 (nI m) a.2 = _
      rw [m_X2_stroll_24, if_pos (Int32.le_refl _)])
    (lN (sd + 1), ax_w (ax_w (ax_w μ 38 1 (nI c)) 38 2 0) 38 3 0) ⟨rfl, by
      show ax_w (ax_w (ax_w μ 38 1 (nI c)) 38 2 0) 38 3 0 38 1 = _
      rw [w_i (by decide), w_i (by decide), w_ss]
      rfl, by
      show ax_w (ax_w (ax_w μ 38 1 (nI c)) 38 2 0) 38 3 0 38 2 = _
      rw [w_i (by decide), w_ss]
      rfl, by
      show ax_w (ax_w (ax_w μ 38 1 (nI c)) 38 2 0) 38 3 0 38 3 = _
      rw [w_ss]
      rfl, ((Ch.rf.w rfl).w rfl).w rfl⟩
  refine ⟨b.2, ?_, hb2.2.1, hb2.2.2.1, hb2.2.2.2.1, hb2.2.2.2.2⟩
  unfold m_X2_stroll
  rw [na1, nI_l (by omega)]
  exact hq
