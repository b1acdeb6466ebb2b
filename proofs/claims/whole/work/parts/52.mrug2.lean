/-! ===== the model: rulers and fines ===== -/
theorem m_asl {n : Nat} {d : Dt} {μ : ax_M} (h : RM n d μ) (hl : LM d μ) {r : Nat} (hr : r < n) : ∃ μ2, m_X10_isAsleep (nI r) μ = some (bI (s_asl d r (μ 51 4)), μ2) ∧ Ch T2 μ μ2 := by
  have h0 := h
  obtain ⟨h1, h2, h3⟩ := h
  obtain ⟨hk, -, ha, -, -, la, -, -, -⟩ := h3 r hr
  obtain ⟨μ2, e1, e2⟩ := m_say h0 hl (p := 2) (r := r) (c := d_a d r) (by decide) hr la
  have hk2 : μ2 52 r = d_k d r := by rw [e2 52 r rfl, hk]
  have hh2 : μ2 51 4 = μ 51 4 := e2 51 4 rfl
  unfold m_X10_isAsleep m_X10_isNursed
  rw [n3, ix_nI (show r < 6 by omega) (by decide), ix_nI (show 3 * r < 18 by omega) (by decide)]
  simp only [ob_some, hk, ha]
  rw [show m_X10_asksOf 2 (nI r) (nI (d_a d r)) μ = some (s_say d 2 r (d_a d r) (μ 51 4), μ2) from e1]
  simp only [bind2_some, hk2, hh2]
  unfold s_asl bI
  generalize μ 51 4 = hh at *
  have h01 := s_say01 (d := d) (p := 2) (r := r) (c := d_a d r) (h := hh) (by decide)
  by_cases c5 : d_k d r = 5
  · refine ⟨μ, ?_, Ch.rf⟩
    simp [c5]
  · refine ⟨μ2, ?_, e2⟩
    simp only [if_neg c5]
    rcases h01 with h01 | h01 <;> rw [h01] <;> by_cases k2 : d_k d r = 2 <;> by_cases k4 : d_k d r = 4 <;> by_cases a14 : hh = 14 <;> by_cases a15 : hh = 15 <;> simp [k2, k4, a14, a15] <;> simp_all
def T68 (k : Nat) (_ : Nat) : Bool := k == 68
theorem T683 (k i : Nat) (h : T3 k i = false) : T68 k i = false := by simp [T68, T3] at *; omega
theorem m_r46 {n : Nat} {d : Dt} {μ : ax_M} (h : RM n d μ) {r : Nat} (hr : r < n) (x1 : Int32) (k23 : Int32 → ax_M → Option ax_M) : ∃ μ2, m_X10_rulesBut_46 x1 (nI r) k23 fu 0 μ = k23 (nI (r + 1)) μ2 ∧ Ch T68 μ μ2 ∧ ∀ c, c < 36 → μ2 68 c = if s_lie d r c then nI r else μ 68 c := by
  obtain ⟨b, hb, hq⟩ := loopK (N := 36) (fun k i (a : ax_M) => m_X10_rulesBut_46 x1 (nI r) k23 k (nI i) a) (fun i a => Ch T68 μ a ∧ (∀ c, c < i → a 68 c = if s_lie d r c then nI r else μ 68 c) ∧ ∀ c, i ≤ c → a 68 c = μ 68 c) (fun a => k23 (nI (r + 1)) a) (by omega)
    (fun k i a hi hI => by
      obtain ⟨hch, hlo, hhi⟩ := hI
      have hN : ∀ k i, mN k i = true → T68 k i = false := fun k i h => T683 k i (T3N k i h)
      refine ⟨ax_w a 68 i (if s_lie d r i then nI r else μ 68 i), ?_, hch.w rfl, fun c hc => ?_, fun c hc => ?_⟩
      · show m_X10_rulesBut_46 x1 (nI r) k23 (k + 1) (nI i) a = _
        rw [m_X10_rulesBut_46, if_neg (ge36 hi), m_lie (h.ch hch hN) hr hi, ob_some, ix_nI hi (by decide), na1]
        simp only [ob_some]
        rw [hhi i (Nat.le_refl i)]
        cases s_lie d r i <;> simp [bI]
      · by_cases e : c = i
        · subst e
          exact w_ss
        · rw [w_i e]
          exact hlo c (by omega)
      · rw [w_i (by omega)]
        exact hhi c (by omega))
    (fun k a hI => by
      show m_X10_rulesBut_46 x1 (nI r) k23 (k + 1) (nI 36) a = _
      rw [m_X10_rulesBut_46, if_pos (by decide), na1])
    μ ⟨Ch.rf, fun c hc => by omega, fun c hc => rfl⟩
  exact ⟨b, hq, hb.1, hb.2.1⟩
/-- awake, and not the one that is left out -/
def s_bt (d : Dt) (h x : Int32) (q : Nat) : Bool := s_awk d h q && decide (nI q ≠ x)
theorem m_r23 {n : Nat} {d : Dt} {μ : ax_M} (h : RM n d μ) (hl : LM d μ) (x : Int32) (h68 : ∀ c, c < 36 → μ 68 c = -1) : ∃ μ2, m_X10_rulesBut_23 x fu 0 μ = some μ2 ∧ Ch T3 μ μ2 ∧ ∀ c, c < 36 → μ2 68 c = rI (s_rul d n (s_bt d (μ 51 4) x) c) := by
  have hn := h.1
  obtain ⟨b, hb, hq⟩ := loopK (N := n) (fun k i (a : ax_M) => m_X10_rulesBut_23 x k (nI i) a) (fun i a => Ch T3 μ a ∧ ∀ c, c < 36 → a 68 c = rI (s_top (fun r => s_bt d (μ 51 4) x r && s_lie d r c) i)) (fun a => some a) (by omega)
    (fun k i a hi hI => by
      obtain ⟨hch, h3⟩ := hI
      have hn0 : a 51 0 = nI n := by rw [hch 51 0 rfl]; exact h.2.1
      show ∃ a2, m_X10_rulesBut_23 x (k + 1) (nI i) a = _ ∧ _
      rw [m_X10_rulesBut_23]
      simp only [hn0]
      rw [if_neg (by rw [nleL (by omega) (by omega)]; omega)]
      by_cases e : nI i = x
      · rw [if_pos e, na1]
        refine ⟨a, rfl, hch, fun c hc => ?_⟩
        rw [s_top_succ, h3 c hc]
        simp [s_bt, e]
      · rw [if_neg e]
        obtain ⟨μ2, f1, f2⟩ := m_asl (h.ch hch T3N) (hl.ch hch T3N) hi
        have f3 : Ch T3 μ μ2 := hch.tr (f2.mono T23)
        rw [f1, bind2_some, hch 51 4 rfl, na1]
        cases ha : s_asl d i (μ 51 4) with
        | true =>
          rw [if_neg (by simp [bI])]
          refine ⟨μ2, rfl, f3, fun c hc => ?_⟩
          rw [s_top_succ, f2 68 c rfl, h3 c hc]
          simp [s_bt, s_awk, ha]
        | false =>
          rw [if_pos (by simp [bI])]
          obtain ⟨μ3, g1, g2, g3⟩ := m_r46 (h.ch f3 T3N) hi x (m_X10_rulesBut_23 x k)
          refine ⟨μ3, g1, f3.tr (g2.mono T683), fun c hc => ?_⟩
          rw [s_top_succ, g3 c hc, f2 68 c rfl, h3 c hc]
          cases hli : s_lie d i c <;> simp [s_bt, s_awk, ha, e, hli]
          rfl)
    (fun k a hI => by
      show m_X10_rulesBut_23 x (k + 1) (nI n) a = _
      rw [m_X10_rulesBut_23]
      have hn0 : a 51 0 = nI n := by rw [hI.1 51 0 rfl]; exact h.2.1
      simp only [hn0]
      rw [if_pos (Int32.le_refl _)])
    μ ⟨Ch.rf, h68⟩
  exact ⟨b, hq, hb⟩
theorem m_rls {n : Nat} {d : Dt} {μ : ax_M} (h : RM n d μ) (hl : LM d μ) (x : Int32) : ∃ μ2, m_X10_rulesBut x μ = some μ2 ∧ Ch T3 μ μ2 ∧ ∀ c, c < 36 → μ2 68 c = rI (s_rul d n (s_bt d (μ 51 4) x) c) := by
  obtain ⟨b, hb, hq⟩ := loopK (N := 36) (fun k i (a : ax_M) => m_X10_rulesBut_2 x k (nI i) a) (fun i a => Ch T3 μ a ∧ ∀ c, c < i → a 68 c = -1) (fun a => m_X10_rulesBut_23 x fu 0 a) (by omega)
    (fun k i a hi hI => by
      refine ⟨ax_w a 68 i (-1), ?_, hI.1.w rfl, fun c hc => ?_⟩
      · show m_X10_rulesBut_2 x (k + 1) (nI i) a = _
        rw [m_X10_rulesBut_2, if_neg (ge36 hi), ix_nI hi (by decide), ob_some, na1]
      · by_cases e : c = i
        · subst e
          exact w_ss
        · rw [w_i e]
          exact hI.2 c (by omega))
    (fun k a hI => by
      show m_X10_rulesBut_2 x (k + 1) (nI 36) a = _
      rw [m_X10_rulesBut_2, if_pos (by decide)])
    μ ⟨Ch.rf, fun c hc => by omega⟩
  obtain ⟨hch, h68⟩ := hb
  obtain ⟨μ2, e1, e2, e3⟩ := m_r23 (h.ch hch T3N) (hl.ch hch T3N) x h68
  refine ⟨μ2, ?_, hch.tr e2, ?_⟩
  · rw [← e1]
    exact hq
  · rw [hch 51 4 rfl] at e3
    exact e3
theorem s_bt_m1 {d : Dt} {n : Nat} (hn : n ≤ 6) (h : Int32) (c : Nat) : s_rul d n (s_bt d h (-1)) c = s_rul d n (s_awk d h) c := by
  refine s_top_ext fun r hr => ?_
  have : ¬ nI r = -1 := nm1 (by omega)
  simp [s_bt, this]
/-- with none left out -/
theorem m_rl {n : Nat} {d : Dt} {μ : ax_M} (h : RM n d μ) (hl : LM d μ) : ∃ μ2, m_X10_rulesBut (-1) μ = some μ2 ∧ Ch T3 μ μ2 ∧ ∀ c, c < 36 → μ2 68 c = rI (s_rul d n (s_awk d (μ 51 4)) c) := by
  obtain ⟨μ2, e1, e2, e3⟩ := m_rls h hl (-1)
  exact ⟨μ2, e1, e2, fun c hc => by rw [e3 c hc, s_bt_m1 h.1]⟩
theorem m_fin {n : Nat} {d : Dt} {μ : ax_M} (h : RM n d μ) (hl : LM d μ) {r c : Nat} (hr : r < n) (hc : c < 36) : ∃ μ2, m_X10_finedBy (nI r) (nI c) μ = some (s_fin d r c (μ 51 4), μ2) ∧ Ch T2 μ μ2 := by
  have h0 := h
  obtain ⟨h1, h2, h3⟩ := h
  obtain ⟨hk, hm, -, -, hg, -, -, -, -⟩ := h3 r hr
  obtain ⟨μ2, e1, e2⟩ := m_say h0 hl (p := 0) (r := r) (c := c) (by decide) hr hc
  have hk2 : μ2 52 r = d_k d r := by rw [e2 52 r rfl, hk]
  have hm2 : μ2 53 r = d_m d r := by rw [e2 53 r rfl, hm]
  have hf := m_frg (h0.ch e2 T2N) hr hc
  unfold m_X10_finedBy m_X10_finedBy_52
  rw [ix_nI (by omega) (by decide)]
  simp only [ob_some, hk, hm]
  rw [show (m_X10_asksOf 0 (nI r) (nI c) μ) = some (s_say d 0 r c (μ 51 4), μ2) from e1]
  simp only [bind2_some, hf, ob_some, hk2, hm2]
  generalize μ 51 4 = hh at *
  unfold s_fin s_tar bI
  by_cases c5 : d_k d r = 5
  · exact ⟨μ, by simp [c5], Ch.rf⟩
  · refine ⟨μ2, ?_, e2⟩
    simp only [if_neg c5]
    by_cases cf : s_frg d r c = true <;> by_cases c1 : d_k d r = 1 <;> by_cases c2 : d_k d r = 2 <;> by_cases c3 : d_k d r = 3 <;> by_cases c4 : d_k d r = 4 <;> simp [cf, c1, c2, c3, c4] <;> simp_all
theorem m_fat {n : Nat} {d : Dt} {μ : ax_M} (h : RM n d μ) (hl : LM d μ) {R : Nat → Option Nat} (hR : ∀ c, c < 36 → μ 68 c = rI (R c)) (hRn : ∀ c r, R c = some r → r < n) {c : Nat} (hc : c < 36) : ∃ μ2, m_X10_finedAt (nI c) μ = some (s_fat d (R c) c (μ 51 4), μ2) ∧ Ch T2 μ μ2 := by
  have h6 := h.1
  unfold m_X10_finedAt
  rw [ix_nI hc (by decide)]
  simp only [ob_some, hR c hc]
  cases e : R c with
  | none => exact ⟨μ, by simp [rI, s_fat], Ch.rf⟩
  | some r =>
    have hr := hRn c r e
    obtain ⟨μ2, e1, e2⟩ := m_fin h hl hr hc
    refine ⟨μ2, ?_, e2⟩
    rw [if_neg (show ¬ rI (some r) = -1 from nm1 (by omega)), show rI (some r) = nI r from rfl, e1, bind2_some]
    rfl
theorem m_let {n : Nat} {d : Dt} {μ : ax_M} (h : RM n d μ) (hl : LM d μ) {R : Nat → Option Nat} (hR : ∀ c, c < 36 → μ 68 c = rI (R c)) (hRn : ∀ c r, R c = some r → r < n) {c : Nat} (hc : c < 36) : ∃ μ2, m_X10_isLetOn (nI c) μ = some (bI (s_let d (R c) c (μ 51 4)), μ2) ∧ Ch T2 μ μ2 := by
  have h6 := h.1
  unfold m_X10_isLetOn
  rw [ix_nI hc (by decide)]
  simp only [ob_some, hR c hc]
  cases e : R c with
  | none => exact ⟨μ, by simp [rI, s_let, bI], Ch.rf⟩
  | some r =>
    have hr := hRn c r e
    obtain ⟨μ2, e1, e2⟩ := m_say h hl (p := 1) (r := r) (c := c) (by decide) hr hc
    obtain ⟨hk, hm, -, -, hg, -, -, -, -⟩ := h.2.2 r hr
    have hk2 : μ2 52 r = d_k d r := by rw [e2 52 r rfl, hk]
    have hm2 : μ2 53 r = d_m d r := by rw [e2 53 r rfl, hm]
    have hg2 : μ2 54 (3 * r + 2) = d_g d r := by rw [e2 54 _ rfl, hg]
    have hw : m_X10_within (nI r) 0 5 μ = some (nI r) := by
      unfold m_X10_within
      rw [if_pos (show (0 : Int32) ≤ nI r from nI_pos' (by omega)), if_pos (show nI r ≤ (5 : Int32) by rw [show (5 : Int32) = nI 5 from rfl, nleL (by omega) (by omega)]; omega)]
    rw [if_neg (show ¬ rI (some r) = -1 from nm1 (by omega)), show rI (some r) = nI r from rfl, hw, ob_some, ix_nI (by omega) (by decide)]
    simp only [ob_some, hk]
    unfold m_X10_isLetOn_45 m_X10_isLetOn_71
    rw [show m_X10_asksOf 1 (nI r) (nI c) μ = some (s_say d 1 r c (μ 51 4), μ2) from e1, n3, na2, ix_nI (show r < 6 by omega) (by decide), ix_nI (show 3 * r + 2 < 18 by omega) (by decide)]
    simp only [bind2_some, ob_some, hk2, hm2, hg2]
    generalize μ 51 4 = hh at *
    have h01 := s_say01 (d := d) (p := 1) (r := r) (c := c) (h := hh) (by decide)
    unfold s_let s_adm bI
    by_cases c3 : d_k d r = 3
    · exact ⟨μ, by simp [c3], Ch.rf⟩
    · refine ⟨μ2, ?_, e2⟩
      simp only [if_neg c3]
      rcases h01 with h01 | h01 <;> rw [h01] <;> by_cases c2 : d_k d r = 2 <;> by_cases c4 : d_k d r = 4 <;> by_cases cg : d_g d r < d_m d r <;> simp [c2, c4, cg] <;> simp_all [Int32.not_lt, Int32.not_le]
