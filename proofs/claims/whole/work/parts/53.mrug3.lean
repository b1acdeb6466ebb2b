/-! ===== the model: counts, sums, neighbours ===== -/
theorem m_cnt {μ : ax_M} {R : Nat → Option Nat} {n x : Nat} (hn : n ≤ 6) (hR : ∀ c, c < 36 → μ 68 c = rI (R c)) (hRn : ∀ c r, R c = some r → r < n) (hx : x < n) : m_X10_ruledBy (nI x) μ = some (s_cnt R x) := by
  have hb : ∀ c r, R c = some r → r < 2 ^ 31 := fun c r h => by have := hRn c r h; omega
  obtain ⟨b, hb2, hq⟩ := loopK (N := 36) (fun k i (a : Int32) => m_X10_ruledBy_4 (nI x) μ k a (nI i)) (fun i a => a = s_sum (fun c => bI (decide (R c = some x))) i) (fun a => some a) (by omega)
    (fun k i a hi hI => by
      subst hI
      refine ⟨_, ?_, rfl⟩
      show m_X10_ruledBy_4 (nI x) μ (k + 1) _ (nI i) = _
      rw [m_X10_ruledBy_4, if_neg (ge36 hi), ix_nI hi (by decide), ob_some, hR i hi, na1, s_sum]
      simp only [rI_eq (hb i) (show x < 2 ^ 31 by omega)]
      by_cases e : R i = some x
      · rw [if_pos e]
        simp [e, bI]
      · rw [if_neg e]
        simp [e, bI])
    (fun k a hI => by
      show m_X10_ruledBy_4 (nI x) μ (k + 1) a (nI 36) = _
      rw [m_X10_ruledBy_4, if_pos (by decide)])
    0 rfl
  subst hb2
  exact hq
theorem m_rnow {n : Nat} {d : Dt} {μ : ax_M} (h : RM n d μ) (hl : LM d μ) {r : Nat} (hr : r < n) : ∃ μ2, m_X10_ruledNow (nI r) μ = some (s_cnt (s_rul d n (s_awk d (μ 51 4))) r, μ2) ∧ Ch T3 μ μ2 := by
  obtain ⟨μ1, e1, e2, e3⟩ := m_rl h hl
  refine ⟨μ1, ?_, e2⟩
  unfold m_X10_ruledNow
  rw [e1, ob_some, m_cnt h.1 e3 (fun c r => s_rul_lt) hr]
  rfl
theorem m_fall {n : Nat} {d : Dt} {μ : ax_M} (h : RM n d μ) (hl : LM d μ) (x : Int32) : ∃ μ2, m_X10_finedAll x μ = some (s_all d n (s_bt d (μ 51 4) x) (μ 51 4), μ2) ∧ Ch T3 μ μ2 := by
  obtain ⟨μ1, e1, e2, e3⟩ := m_rls h hl x
  obtain ⟨b, hb, hq⟩ := loopK (N := 36) (fun k i (a : Int32 × ax_M) => m_X10_finedAll_9 k a.1 (nI i) a.2) (fun i a => a.1 = s_sum (fun c => s_fat d (s_rul d n (s_bt d (μ 51 4) x) c) c (μ 51 4)) i ∧ Ch T3 μ a.2 ∧ Ch T2 μ1 a.2) (fun a => some a) (by omega)
    (fun k i a hi hI => by
      obtain ⟨v, μ2⟩ := a
      obtain ⟨rfl, hc0, hd0⟩ := hI
      have hc : Ch T3 μ μ2 := hc0
      have hd : Ch T2 μ1 μ2 := hd0
      obtain ⟨μ3, f1, f2⟩ := m_fat (h.ch hc T3N) (hl.ch hc T3N) (R := s_rul d n (s_bt d (μ 51 4) x)) (fun c hc => by rw [hd 68 c rfl]; exact e3 c hc) (fun c r => s_rul_lt) hi
      refine ⟨(_, μ3), ?_, rfl, hc.tr (f2.mono T23), hd.tr f2⟩
      show m_X10_finedAll_9 (k + 1) _ (nI i) μ2 = _
      rw [m_X10_finedAll_9, if_neg (ge36 hi), f1, bind2_some, na1, hc 51 4 rfl])
    (fun k a hI => by
      show m_X10_finedAll_9 (k + 1) a.1 (nI 36) a.2 = _
      rw [m_X10_finedAll_9, if_pos (by decide)])
    (0, μ1) ⟨rfl, e2, Ch.rf⟩
  refine ⟨b.2, ?_, hb.2.1⟩
  unfold m_X10_finedAll
  rw [e1, ob_some]
  show m_X10_finedAll_9 fu 0 0 μ1 = some (s_sum _ 36, b.2)
  rw [← hb.1]
  exact hq
theorem m_step {μ : ax_M} {c w : Nat} (hc : c < 36) (hw : w < 4) : m_X10_besideOf (nI c) (nI w) μ = some (rI (s_step c w)) := by
  unfold m_X10_besideOf s_step
  rw [nr6 (by omega)]
  simp only [show (nI w = 0) = (w = 0) from neqL (k := 0) (by omega) (by decide), show (nI w = 1) = (w = 1) from neqL (k := 1) (by omega) (by decide), show (nI w = 2) = (w = 2) from neqL (k := 2) (by omega) (by decide),
    show (5 ≤ nI (c % 6)) = (5 ≤ c % 6) from nleL (a := 5) (by decide) (by omega), show (nI (c % 6) ≤ 0) = (c % 6 ≤ 0) from nleL (k := 0) (by omega) (by decide), show (30 ≤ nI c) = (30 ≤ c) from nleL (a := 30) (by decide) (by omega), show (nI c ≤ 5) = (c ≤ 5) from nleL (k := 5) (by omega) (by decide)]
  repeat' split
  all_goals first
    | omega
    | rfl
    | exact congrArg some (show nI c + 1 = nI (c + 1) from na1 c)
    | exact congrArg some (show nI c + nI 6 = nI (c + 6) from nI_add c 6)
    | exact congrArg some (show nI c - nI 1 = nI (c - 1) from pk_sub (by omega))
    | exact congrArg some (show nI c - nI 6 = nI (c - 6) from pk_sub (by omega))
    | (simp_all; omega)
theorem within35 {c : Nat} (hc : c < 36) (μ : ax_M) : m_X10_within (nI c) 0 35 μ = some (nI c) := by
  unfold m_X10_within
  rw [if_pos (show (0 : Int32) ≤ nI c from nI_pos' (by omega)), if_pos (show nI c ≤ (35 : Int32) by rw [show (35 : Int32) = nI 35 from rfl, nleL (by omega) (by omega)]; omega)]
theorem or0 (v : Int32) : v ||| 0 = v := Int32.or_zero
theorem m_nb1 {n x c : Nat} {μ : ax_M} {R : Nat → Option Nat} (hn : n ≤ 6) (hR : ∀ c, c < 36 → μ 68 c = rI (R c)) (hRn : ∀ c r, R c = some r → r < n) (hx : x < n) (hc : c < 36) (k4 : Int32 → Int32 → Option Int32) (A : Nat → Bool) :
    m_X10_besides_13 (nI x) (nI c) k4 μ fu (mkA A n) 0 = k4 (mkA (fun q => A q || s_any (fun w => s_nb1 R x c w q) 4) n) (nI (c + 1)) := by
  have hb : ∀ c r, R c = some r → r < 2 ^ 31 := fun c r h => by have := hRn c r h; omega
  obtain ⟨a, ha, hq⟩ := loopK (N := 4) (fun k i (a : Int32) => m_X10_besides_13 (nI x) (nI c) k4 μ k a (nI i)) (fun i a => a = mkA (fun q => A q || s_any (fun w => s_nb1 R x c w q) i) n) (fun a => k4 a (nI (c + 1))) (by omega)
    (fun k i a hi hI => by
      subst hI
      refine ⟨_, ?_, rfl⟩
      have e : ∀ q, (A q || s_any (fun w => s_nb1 R x c w q) (i + 1)) = ((A q || s_any (fun w => s_nb1 R x c w q) i) || s_nb1 R x c i q) := fun q => (Bool.or_assoc ..).symm
      rw [mkA_same e]
      show m_X10_besides_13 (nI x) (nI c) k4 μ (k + 1) _ (nI i) = _
      rw [m_X10_besides_13, if_neg (show ¬ (4 : Int32) ≤ nI i by rw [show (4 : Int32) = nI 4 from rfl, nleL (by omega) (by omega)]; omega), m_step hc hi, ob_some, ix_nI hc (by decide), ob_some, hR c hc]
      simp only [rI_eq (hb c) (show x < 2 ^ 31 by omega), na1, or0]
      by_cases e1 : R c = some x
      · rw [if_pos e1]
        cases e2 : s_step c i with
        | none =>
          rw [if_pos (show rI none = -1 from rfl)]
          congr 1
          exact mkA_same fun q => by simp [s_nb1, e2]
        | some v =>
          have hv := s_step_lt hc e2
          rw [if_neg (show ¬ rI (some v) = -1 from nm1 (by omega))]
          rw [show rI (some v) = nI v from rfl, within35 hv, ob_some, ix_nI hv (by decide)]
          simp only [ob_some, hR v hv, rI_eq (hb v) (show x < 2 ^ 31 by omega), rI_m1 (hb v)]
          by_cases e4 : R v = none
          · rw [if_pos e4]
            congr 1
            exact mkA_same fun q => by simp [s_nb1, e2, e4]
          · rw [if_neg e4]
            by_cases e3 : R v = some x
            · rw [if_pos e3]
              congr 1
              refine mkA_same fun q => ?_
              simp only [s_nb1, e2, e3, e1]
              by_cases hqx : q = x
              · subst hqx
                simp
              · have : ¬ x = q := fun z => hqx z.symm
                simp [this]
            · rw [if_neg e3]
              obtain ⟨y, hy⟩ : ∃ y, R v = some y := by
                cases hz : R v with
                | none => exact absurd hz e4
                | some y => exact ⟨y, rfl⟩
              have hyn := hRn v y hy
              rw [hy, show rI (some y) = nI y from rfl, mkA_set hyn (by omega)]
              congr 1
              refine mkA_same fun q => ?_
              simp only [s_nb1, e2, hy, e1]
              have hyx : ¬ y = x := fun z => e3 (by rw [hy, z])
              by_cases hqy : q = y
              · subst hqy
                simp [hyx]
              · have h2 : ¬ y = q := fun z => hqy z.symm
                simp [hqy, h2]
      · rw [if_neg e1]
        congr 1
        exact mkA_same fun q => by simp [s_nb1, e1])
    (fun k a hI => by
      show m_X10_besides_13 (nI x) (nI c) k4 μ (k + 1) a (nI 4) = _
      rw [m_X10_besides_13, if_pos (by decide), na1])
    (mkA A n) (mkA_same fun q => by simp [s_any])
  subst ha
  exact hq
theorem m_nb {n x : Nat} {μ : ax_M} {R : Nat → Option Nat} (hn : n ≤ 6) (hR : ∀ c, c < 36 → μ 68 c = rI (R c)) (hRn : ∀ c r, R c = some r → r < n) (hx : x < n) : m_X10_besides (nI x) μ = some (mkA (s_nb R x) n) := by
  obtain ⟨a, ha, hq⟩ := loopK (N := 36) (fun k i (a : Int32) => m_X10_besides_4 (nI x) μ k a (nI i)) (fun i a => a = mkA (fun q => s_any (fun c => s_any (fun w => s_nb1 R x c w q) 4) i) n) (fun a => some a) (by omega)
    (fun k i a hi hI => by
      subst hI
      refine ⟨_, ?_, rfl⟩
      show m_X10_besides_4 (nI x) μ (k + 1) _ (nI i) = _
      rw [m_X10_besides_4, if_neg (ge36 hi), m_nb1 hn hR hRn hx hi]
      rfl)
    (fun k a hI => by
      show m_X10_besides_4 (nI x) μ (k + 1) a (nI 36) = _
      rw [m_X10_besides_4, if_pos (by decide)])
    0 (show (0 : Int32) = mkA (fun _ => false) n by simp [mkA, mk6])
  subst ha
  exact hq
