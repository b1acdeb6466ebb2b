theorem kd1 {z : Nat} (hz : z < 3) : (nI z = 1) = (z = 1) := neqL (k := 1) (by omega) (by decide)
/-- all that the relaxing needs, of a memory -/
def WM (n z : Nat) (R : Nat → Option Nat) (fn : Nat → Nat) (op : Nat → Bool) (D : Nat → Option Nat) (μ : ax_M) : Prop := (∀ c, c < 36 → μ 68 c = rI (R c)) ∧ (∀ c, c < 36 → μ 69 c = if op c then nI (s_wt z fn c) else -1) ∧ (∀ c, c < 36 → μ 70 c = rI (D c)) ∧ n ≤ 6 ∧ z < 3 ∧ (∀ c, fn c ≤ 250) ∧ ∀ c r, R c = some r → r < n
theorem m_rx2 {n z a c w st v0 : Nat} {μ : ax_M} {R : Nat → Option Nat} {fn : Nat → Nat} {op : Nat → Bool} {D : Nat → Option Nat} (ha : a < 36) (hw : w < 4) (hs : s_step a w = some c) (h : WM n z R fn op D μ) (hwi : WI op (s_co z R fn) st v0 D) :
    ∃ μ2, m_X10_relaxes (nI a) (nI c) (s_kd z) μ = some (bI (rxf op (s_co z R fn) a c D), μ2) ∧ Ch T70 μ μ2 ∧ WM n z R fn op (rx op (s_co z R fn) a c D) μ2 ∧ WI op (s_co z R fn) st v0 (rx op (s_co z R fn) a c D) := by
  obtain ⟨h1, h2, h3, h4, h5, h6, h7⟩ := h
  obtain ⟨μ2, e1, e2, e3⟩ := m_rx h4 h1 h6 h7 ha hw hs h2 h3 hwi
  exact ⟨μ2, e1, e2, ⟨fun c hc => by rw [e2 68 c rfl]; exact h1 c hc, fun c hc => by rw [e2 69 c rfl]; exact h2 c hc, e3, h4, h5, h6, h7⟩, rx_wi (s_co_le h6) hw ha hs hwi⟩
theorem bI_or (a b : Bool) : bI a ||| bI b = bI (a || b) := by cases a <;> cases b <;> rfl
theorem m_w205 {n z a st v0 : Nat} {μ : ax_M} {R : Nat → Option Nat} {fn : Nat → Nat} {op : Nat → Bool} {D : Nat → Option Nat} (ha : a < 36) (h : WM n z R fn op D μ) (hwi : WI op (s_co z R fn) st v0 D) (x1 : Int32) (f : Bool) (k139 : Int32 → Int32 → ax_M → Option (Int32 × ax_M)) :
    ∃ μ2, m_X10_way_205 x1 (nI z) (bI f) (nI a) k139 μ = k139 (bI (f || rxsf op (s_co z R fn) (s_md a) D)) (nI (a + 1)) μ2 ∧ Ch T70 μ μ2 ∧ WM n z R fn op (rxs op (s_co z R fn) (s_md a) D) μ2 := by
  have hz := h.2.2.2.2.1
  unfold m_X10_way_205 m_X10_way_232
  simp only [kd1 hz, na1, show nI a + 6 = nI (a + 6) from nI_add a 6]
  by_cases e : a < 30
  · rw [if_neg (show ¬ (30 : Int32) ≤ nI a by rw [show (30 : Int32) = nI 30 from rfl, nleL (by omega) (by omega)]; omega)]
    have s1 : s_step a 2 = some (a + 6) := by
      unfold s_step
      rw [if_neg (by decide), if_neg (by decide), if_pos rfl, if_pos (by omega)]
    have s2 : s_step (a + 6) 3 = some a := by
      unfold s_step
      rw [if_neg (by decide), if_neg (by decide), if_neg (by decide), if_pos (by omega)]
      rfl
    obtain ⟨μ1, e1, e2, e3, e4⟩ := m_rx2 ha (by decide) s1 h hwi
    obtain ⟨μ2, f1, f2, f3, f4⟩ := m_rx2 (show a + 6 < 36 by omega) (by decide) s2 e3 e4
    refine ⟨μ2, ?_, e2.tr f2, ?_⟩
    · have hl : rxsf op (s_co z R fn) (s_md a) D = (rxf op (s_co z R fn) a (a + 6) D || rxf op (s_co z R fn) (a + 6) a (rx op (s_co z R fn) a (a + 6) D)) := by
        simp [s_md, e, rxsf]
      rw [hl, ← Bool.or_assoc, ← bI_or, ← bI_or]
      by_cases hz1 : z = 1
      · rw [if_pos hz1, if_pos hz1]
        have : s_kd z = 1 := by simp [s_kd, hz1]
        rw [this] at e1 f1
        rw [e1, bind2_some, f1, bind2_some]
      · rw [if_neg hz1, if_neg hz1]
        have : s_kd z = 0 := by simp [s_kd, hz1]
        rw [this] at e1 f1
        rw [e1, bind2_some, f1, bind2_some]
    · have hl : rxs op (s_co z R fn) (s_md a) D = rx op (s_co z R fn) (a + 6) a (rx op (s_co z R fn) a (a + 6) D) := by
        simp [s_md, e, rxs]
      rw [hl]
      exact f3
  · rw [if_pos (show (30 : Int32) ≤ nI a by rw [show (30 : Int32) = nI 30 from rfl, nleL (by omega) (by omega)]; omega)]
    refine ⟨μ, ?_, Ch.rf, ?_⟩
    · simp [s_md, e, rxsf]
    · simp [s_md, e, rxs]
      exact h
theorem m_wst {n z a st v0 : Nat} {μ : ax_M} {R : Nat → Option Nat} {fn : Nat → Nat} {op : Nat → Bool} {D : Nat → Option Nat} (ha : a < 36) (h : WM n z R fn op D μ) (hwi : WI op (s_co z R fn) st v0 D) (x1 : Int32) (f : Bool) (k139 : Int32 → Int32 → ax_M → Option (Int32 × ax_M)) :
    ∃ μ2, (if 5 ≤ (rmI (nI a) 6) then m_X10_way_205 x1 (nI z) (bI f) (nI a) k139 μ else if (nI z) = 1 then m_X10_way_174 x1 (nI z) (nI a) (bI f) (nI a) (nI a + 1) 1 k139 μ else m_X10_way_174 x1 (nI z) (nI a) (bI f) (nI a) (nI a + 1) 0 k139 μ)
      = k139 (bI (f || rxsf op (s_co z R fn) (s_mr a ++ s_md a) D)) (nI (a + 1)) μ2 ∧ Ch T70 μ μ2 ∧ WM n z R fn op (rxs op (s_co z R fn) (s_mr a ++ s_md a) D) μ2 := by
  have hz := h.2.2.2.2.1
  unfold m_X10_way_174
  rw [nr6 (by omega)]
  simp only [kd1 hz, na1]
  by_cases e : a % 6 < 5
  · rw [if_neg (show ¬ (5 : Int32) ≤ nI (a % 6) by rw [show (5 : Int32) = nI 5 from rfl, nleL (by omega) (by omega)]; omega)]
    have s1 : s_step a 0 = some (a + 1) := by
      unfold s_step
      rw [if_pos rfl, if_pos e]
    have s2 : s_step (a + 1) 1 = some a := by
      unfold s_step
      rw [if_neg (by decide), if_pos rfl, if_pos (by omega)]
      rfl
    obtain ⟨μ1, e1, e2, e3, e4⟩ := m_rx2 ha (by decide) s1 h hwi
    obtain ⟨μ2, f1, f2, f3, f4⟩ := m_rx2 (show a + 1 < 36 by omega) (by decide) s2 e3 e4
    have hlf : rxsf op (s_co z R fn) (s_mr a ++ s_md a) D = ((rxf op (s_co z R fn) a (a + 1) D || rxf op (s_co z R fn) (a + 1) a (rx op (s_co z R fn) a (a + 1) D)) || rxsf op (s_co z R fn) (s_md a) (rx op (s_co z R fn) (a + 1) a (rx op (s_co z R fn) a (a + 1) D))) := by
      rw [rxsf_app]
      simp [s_mr, e, rxsf, rxs]
    have hl : rxs op (s_co z R fn) (s_mr a ++ s_md a) D = rxs op (s_co z R fn) (s_md a) (rx op (s_co z R fn) (a + 1) a (rx op (s_co z R fn) a (a + 1) D)) := by
      rw [rxs_app]
      simp [s_mr, e, rxs]
    obtain ⟨μ3, g1, g2, g3⟩ := m_w205 ha f3 f4 x1 (f || (rxf op (s_co z R fn) a (a + 1) D || rxf op (s_co z R fn) (a + 1) a (rx op (s_co z R fn) a (a + 1) D))) k139
    refine ⟨μ3, ?_, (e2.tr f2).tr g2, ?_⟩
    · rw [hlf, ← Bool.or_assoc f, ← g1, ← Bool.or_assoc f, ← bI_or, ← bI_or]
      by_cases hz1 : z = 1
      · rw [if_pos hz1, if_pos hz1]
        have : s_kd z = 1 := by simp [s_kd, hz1]
        rw [this] at e1 f1
        rw [e1, bind2_some, f1, bind2_some]
      · rw [if_neg hz1, if_neg hz1]
        have : s_kd z = 0 := by simp [s_kd, hz1]
        rw [this] at e1 f1
        rw [e1, bind2_some, f1, bind2_some]
    · rw [hl]
      exact g3
  · rw [if_pos (show (5 : Int32) ≤ nI (a % 6) by rw [show (5 : Int32) = nI 5 from rfl, nleL (by omega) (by omega)]; omega)]
    have hm : s_mr a ++ s_md a = s_md a := by simp [s_mr, e]
    rw [hm]
    exact m_w205 ha h hwi x1 f k139
theorem m_w139 {n z st v0 : Nat} {μ : ax_M} {R : Nat → Option Nat} {fn : Nat → Nat} {op : Nat → Bool} {D : Nat → Option Nat} (h : WM n z R fn op D μ) (hwi : WI op (s_co z R fn) st v0 D) (x1 : Int32) (k128 : Int32 → ax_M → Option (Int32 × ax_M)) :
    ∃ μ2, m_X10_way_139 x1 (nI z) k128 fu 0 0 μ = k128 (bI (rxsf op (s_co z R fn) (s_mls 36) D)) μ2 ∧ Ch T70 μ μ2 ∧ WM n z R fn op (rxs op (s_co z R fn) (s_mls 36) D) μ2 := by
  have hco := s_co_le (z := z) (R := R) h.2.2.2.2.2.1
  obtain ⟨b, hb, hq⟩ := loopK (N := 36) (fun k i (p : Int32 × ax_M) => m_X10_way_139 x1 (nI z) k128 k p.1 (nI i) p.2) (fun i p => p.1 = bI (rxsf op (s_co z R fn) (s_mls i) D) ∧ Ch T70 μ p.2 ∧ WM n z R fn op (rxs op (s_co z R fn) (s_mls i) D) p.2) (fun p => k128 p.1 p.2) (by omega)
    (fun k i p hi hI => by
      obtain ⟨x, μ1⟩ := p
      obtain ⟨a1, a2, a3⟩ := hI
      have hx : x = _ := a1
      have hch : Ch T70 μ μ1 := a2
      have hwm : WM n z R fn op (rxs op (s_co z R fn) (s_mls i) D) μ1 := a3
      clear a1 a2 a3
      subst hx
      obtain ⟨μ2, e1, e2, e3⟩ := m_wst hi hwm (rxs_wi hco (s_mls i) D (mls_edg (by omega)) hwi) x1 (rxsf op (s_co z R fn) (s_mls i) D) (m_X10_way_139 x1 (nI z) k128 k)
      refine ⟨(bI (rxsf op (s_co z R fn) (s_mls (i + 1)) D), μ2), ?_, rfl, hch.tr e2, ?_⟩
      · show m_X10_way_139 x1 (nI z) k128 (k + 1) _ (nI i) μ1 = _
        rw [m_X10_way_139, if_neg (ge36 hi)]
        rw [show rxsf op (s_co z R fn) (s_mls (i + 1)) D = (rxsf op (s_co z R fn) (s_mls i) D || rxsf op (s_co z R fn) (s_mr i ++ s_md i) (rxs op (s_co z R fn) (s_mls i) D)) from rxsf_app _ _ _]
        exact e1
      · show WM n z R fn op (rxs op (s_co z R fn) (s_mls i ++ (s_mr i ++ s_md i)) D) μ2
        rw [rxs_app]
        exact e3)
    (fun k p hI => by
      show m_X10_way_139 x1 (nI z) k128 (k + 1) p.1 (nI 36) p.2 = _
      rw [m_X10_way_139, if_pos (by decide)])
    (0, μ) ⟨rfl, Ch.rf, h⟩
  refine ⟨b.2, ?_, hb.2⟩
  rw [← hb.1]
  exact hq
theorem m_w128 {n z st v0 g : Nat} {R : Nat → Option Nat} {fn : Nat → Nat} {op : Nat → Bool} (x1 : Int32) (hg : g < 36) (hx1 : rmI x1 100 = nI g) :
    ∀ (m k : Nat) (μ : ax_M) (D : Nat → Option Nat), m + 2 < k → WM n z R fn op D μ → WI op (s_co z R fn) st v0 D → s_pot D 36 < m →
    ∃ o μ2, m_X10_way_128 x1 (nI z) k 1 μ = some (rI o, μ2) ∧ Lst op (s_co z R fn) st v0 g o ∧ Ch T70 μ μ2 := by
  intro m
  induction m with
  | zero => intro k μ D hk h hwi hp; omega
  | succ m ih =>
    intro k μ D hk h hwi hp
    have hco := s_co_le (z := z) (R := R) h.2.2.2.2.2.1
    obtain ⟨k, rfl⟩ : ∃ k2, k = k2 + 1 := ⟨k - 1, by omega⟩
    obtain ⟨μ1, e1, e2, e3⟩ := m_w139 h hwi x1 (m_X10_way_128 x1 (nI z) k)
    rw [m_X10_way_128, if_neg (by decide), e1]
    have hw2 := rxs_wi hco (s_mls 36) D (mls_edg (Nat.le_refl 36)) hwi
    cases hf : rxsf op (s_co z R fn) (s_mls 36) D with
    | true =>
      have := (rxs_pot hco (s_mls 36) D (mls_edg (Nat.le_refl 36)) hwi).2 hf
      obtain ⟨o, μ2, g1, g2, g3⟩ := ih k μ1 _ (by omega) e3 hw2 (by omega)
      exact ⟨o, μ2, g1, g2, e2.tr g3⟩
    | false =>
      obtain ⟨k, rfl⟩ : ∃ k2, k = k2 + 1 := ⟨k - 1, by omega⟩
      refine ⟨D g, μ1, ?_, cl_lst hwi (cl_of full_mls hf) g, e2⟩
      have h70 := e3.2.2.1 g hg
      rw [(rxs_no _ _ hf).1] at h70
      rw [m_X10_way_128, if_pos (show bI false = 0 from rfl), hx1, ix_nI hg (by decide), ob_some, h70]
