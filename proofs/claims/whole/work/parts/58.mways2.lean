theorem kd1 {z : Nat} (hz : z < 3) : (nI z = 1) = (z = 1) := neqL (k := 1) (by omega) (by decide)
/-- all that the relaxing needs, of a memory -/
def WM (n z : Nat) (R : Nat → Option Nat) (fn : Nat → Nat) (op : Nat → Bool) (D : Nat → Option Nat) (μ : ax_M) : Prop := (∀ c, c < 36 → μ 68 c = rI (R c)) ∧ (∀ c, c < 36 → μ 69 c = if op c then nI (s_wt z fn c) else -1) ∧ (∀ c, c < 36 → μ 70 c = rI (D c)) ∧ n ≤ 6 ∧ z < 3 ∧ (∀ c, fn c ≤ 250) ∧ ∀ c r, R c = some r → r < n
theorem m_rx2 {n z a c w st v0 : Nat} {μ : ax_M} {R : Nat → Option Nat} {fn : Nat → Nat} {op : Nat → Bool} {D : Nat → Option Nat} (ha : a < 36) (hw : w < 4) (hs : s_step a w = some c) (h : WM n z R fn op D μ) (hwi : WI op (s_co z R fn) st v0 D) :
    ∃ μ2, m_X10_relaxes (nI a) (nI c) (s_kd z) μ = some (bI (rxf op (s_co z R fn) a c D), μ2) ∧ Ch T70 μ μ2 ∧ WM n z R fn op (rx op (s_co z R fn) a c D) μ2 ∧ WI op (s_co z R fn) st v0 (rx op (s_co z R fn) a c D) := by
  obtain ⟨h1, h2, h3, h4, h5, h6, h7⟩ := h
  obtain ⟨μ2, e1, e2, e3⟩ := m_rx h4 h1 h6 h7 ha hw hs h2 h3 hwi
  exact ⟨μ2, e1, e2, ⟨fun c hc => by rw [e2 68 c rfl]; exact h1 c hc, fun c hc => by rw [e2 69 c rfl]; exact h2 c hc, e3, h4, h5, h6, h7⟩, rx_wi (s_co_le h6) hw ha hs hwi⟩
theorem bI_or (a b : Bool) : bI a ||| bI b = bI (a || b) := by cases a <;> cases b <;> rfl
theorem m_w205 {n z a st v0 : Nat} {μ : ax_M} {R : Nat → Option Nat} {fn : Nat → Nat} {op : Nat → Bool} {D : Nat → Option Nat} (ha : a < 36) (h : WM n z R fn op D μ) (hwi : WI op (s_co z R fn) st v0 D) (x1 : Int32) (f : Bool) (k139 : Int32 → Int32 → ax_M → Option (Int32 × ax_M)) :
    ∃ μ2, m_X10_way_205 x1 (nI z) (bI f) (nI a) k139 μ = k139 (bI (f || rxsf op (s_co z R fn) (s_md a) D)) (nI (a + 1)) μ2 ∧ Ch T70 μ μ2 ∧ WM n z R fn op (rxs op (s_co z R fn) (s_md a) D) μ2 := by
  have hz := h.2.2.2.2.1
  unfold m_X10_way_205 m_X10_way_232
  simp only [kd1 hz, na1, show nI a + 6 = nI (a + 6) from nI_add a 6]
  by_cases e : a < 30
  · rw [if_neg (show ¬ (30 : Int32) ≤ nI a by rw [show (30 : Int32) = nI 30 from rfl, nleL (by omega) (by omega)]; omega)]
    have s1 : s_step a 2 = some (a + 6) := by
      unfold s_step
      rw [if_neg (by decide), if_neg (by decide), if_pos rfl, if_pos (by omega)]
    have s2 : s_step (a + 6) 3 = some a := by
      unfold s_step
      rw [if_neg (by decide), if_neg (by decide), if_neg (by decide), if_pos (by omega)]
      rfl
    obtain ⟨μ1, e1, e2, e3, e4⟩ := m_rx2 ha (by decide) s1 h hwi
    obtain ⟨μ2, f1, f2, f3, f4⟩ := m_rx2 (show a + 6 < 36 by omega) (by decide) s2 e3 e4
    refine ⟨μ2, ?_, e2.tr f2, ?_⟩
    · have hl : rxsf op (s_co z R fn) (s_md a) D = (rxf op (s_co z R fn) a (a + 6) D || rxf op (s_co z R fn) (a + 6) a (rx op (s_co z R fn) a (a + 6) D)) := by
        simp [s_md, e, rxsf]
      rw [hl, ← Bool.or_assoc, ← bI_or, ← bI_or]
      by_cases hz1 : z = 1
      · simp only [if_pos hz1]
        have : s_kd z = 1 := by simp [s_kd, hz1]
        rw [this] at e1 f1
        rw [e1, bind2_some, f1, bind2_some]
      · simp only [if_neg hz1]
        have : s_kd z = 0 := by simp [s_kd, hz1]
        rw [this] at e1 f1
        rw [e1, bind2_some, f1, bind2_some]
    · have hl : rxs op (s_co z R fn) (s_md a) D = rx op (s_co z R fn) (a + 6) a (rx op (s_co z R fn) a (a + 6) D) := by
        simp [s_md, e, rxs]
      rw [hl]
      exact f3
  · rw [if_pos (show (30 : Int32) ≤ nI a by rw [show (30 : Int32) = nI 30 from rfl, nleL (by omega) (by omega)]; omega)]
    refine ⟨μ, ?_, Ch.rf, ?_⟩
    · simp [s_md, e, rxsf]
    · simp [s_md, e, rxs]
      exact h
theorem m_wst {n z a st v0 : Nat} {μ : ax_M} {R : Nat → Option Nat} {fn : Nat → Nat} {op : Nat → Bool} {D : Nat → Option Nat} (ha : a < 36) (h : WM n z R fn op D μ) (hwi : WI op (s_co z R fn) st v0 D) (x1 : Int32) (f : Bool) (k139 : Int32 → Int32 → ax_M → Option (Int32 × ax_M)) :
    ∃ μ2, (if 5 ≤ (rmI (nI a) 6) then m_X10_way_205 x1 (nI z) (bI f) (nI a) k139 μ else if (nI z) = 1 then m_X10_way_174 x1 (nI z) (nI a) (bI f) (nI a) (nI a + 1) 1 k139 μ else m_X10_way_174 x1 (nI z) (nI a) (bI f) (nI a) (nI a + 1) 0 k139 μ)
      = k139 (bI (f || rxsf op (s_co z R fn) (s_mr a ++ s_md a) D)) (nI (a + 1)) μ2 ∧ Ch T70 μ μ2 ∧ WM n z R fn op (rxs op (s_co z R fn) (s_mr a ++ s_md a) D) μ2 := by
  have hz := h.2.2.2.2.1
  unfold m_X10_way_174
  rw [nr6 (by omega)]
  simp only [kd1 hz, na1]
  by_cases e : a % 6 < 5
  · rw [if_neg (show ¬ (5 : Int32) ≤ nI (a % 6) by rw [show (5 : Int32) = nI 5 from rfl, nleL (by omega) (by omega)]; omega)]
    have s1 : s_step a 0 = some (a + 1) := by
      unfold s_step
      rw [if_pos rfl, if_pos e]
    have s2 : s_step (a + 1) 1 = some a := by
      unfold s_step
      rw [if_neg (by decide), if_pos rfl, if_pos (by omega)]
      rfl
    obtain ⟨μ1, e1, e2, e3, e4⟩ := m_rx2 ha (by decide) s1 h hwi
    obtain ⟨μ2, f1, f2, f3, f4⟩ := m_rx2 (show a + 1 < 36 by omega) (by decide) s2 e3 e4
    have hlf : rxsf op (s_co z R fn) (s_mr a ++ s_md a) D = ((rxf op (s_co z R fn) a (a + 1) D || rxf op (s_co z R fn) (a + 1) a (rx op (s_co z R fn) a (a + 1) D)) || rxsf op (s_co z R fn) (s_md a) (rx op (s_co z R fn) (a + 1) a (rx op (s_co z R fn) a (a + 1) D))) := by
      rw [rxsf_app]
      simp [s_mr, e, rxsf, rxs]
    have hl : rxs op (s_co z R fn) (s_mr a ++ s_md a) D = rxs op (s_co z R fn) (s_md a) (rx op (s_co z R fn) (a + 1) a (rx op (s_co z R fn) a (a + 1) D)) := by
      rw [rxs_app]
      simp [s_mr, e, rxs]
    obtain ⟨μ3, g1, g2, g3⟩ := m_w205 ha f3 f4 x1 (f || (rxf op (s_co z R fn) a (a + 1) D || rxf op (s_co z R fn) (a + 1) a (rx op (s_co z R fn) a (a + 1) D))) k139
    refine ⟨μ3, ?_, (e2.tr f2).tr g2, ?_⟩
    · rw [hlf, ← Bool.or_assoc f, ← g1, ← Bool.or_assoc f, ← bI_or, ← bI_or]
      by_cases hz1 : z = 1
      · simp only [if_pos hz1]
        have : s_kd z = 1 := by simp [s_kd, hz1]
        rw [this] at e1 f1
        rw [e1, bind2_some, f1, bind2_some]
      · simp only [if_neg hz1]
        have : s_kd z = 0 := by simp [s_kd, hz1]
        rw [this] at e1 f1
        rw [e1, bind2_some, f1, bind2_some]
    · rw [hl]
      exact g3
  · rw [if_pos (show (5 : Int32) ≤ nI (a % 6) by rw [show (5 : Int32) = nI 5 from rfl, nleL (by omega) (by omega)]; omega)]
    have hm : s_mr a ++ s_md a = s_md a := by simp [s_mr, e]
    rw [hm]
    exact m_w205 ha h hwi x1 f k139
theorem m_w139 {n z st v0 : Nat} {μ : ax_M} {R : Nat → Option Nat} {fn : Nat → Nat} {op : Nat → Bool} {D : Nat → Option Nat} (h : WM n z R fn op D μ) (hwi : WI op (s_co z R fn) st v0 D) (x1 : Int32) (k128 : Int32 → ax_M → Option (Int32 × ax_M)) :
    ∃ μ2, m_X10_way_139 x1 (nI z) k128 fu 0 0 μ = k128 (bI (rxsf op (s_co z R fn) (s_mls 36) D)) μ2 ∧ Ch T70 μ μ2 ∧ WM n z R fn op (rxs op (s_co z R fn) (s_mls 36) D) μ2 := by
  have hco := s_co_le (z := z) (R := R) h.2.2.2.2.2.1
  obtain ⟨b, hb, hq⟩ := loopK (N := 36) (fun k i (p : Int32 × ax_M) => m_X10_way_139 x1 (nI z) k128 k p.1 (nI i) p.2) (fun i p => p.1 = bI (rxsf op (s_co z R fn) (s_mls i) D) ∧ Ch T70 μ p.2 ∧ WM n z R fn op (rxs op (s_co z R fn) (s_mls i) D) p.2) (fun p => k128 p.1 p.2) (by omega)
    (fun k i p hi hI => by
      obtain ⟨x, μ1⟩ := p
      obtain ⟨a1, a2, a3⟩ := hI
      have hx : x = _ := a1
      have hch : Ch T70 μ μ1 := a2
      have hwm : WM n z R fn op (rxs op (s_co z R fn) (s_mls i) D) μ1 := a3
      clear a1 a2 a3
      subst hx
      obtain ⟨μ2, e1, e2, e3⟩ := m_wst hi hwm (rxs_wi hco (s_mls i) D (mls_edg (by omega)) hwi) x1 (rxsf op (s_co z R fn) (s_mls i) D) (m_X10_way_139 x1 (nI z) k128 k)
      refine ⟨(bI (rxsf op (s_co z R fn) (s_mls (i + 1)) D), μ2), ?_, rfl, hch.tr e2, ?_⟩
      · show m_X10_way_139 x1 (nI z) k128 (k + 1) _ (nI i) μ1 = _
        rw [m_X10_way_139, if_neg (ge36 hi)]
        rw [show rxsf op (s_co z R fn) (s_mls (i + 1)) D = (rxsf op (s_co z R fn) (s_mls i) D || rxsf op (s_co z R fn) (s_mr i ++ s_md i) (rxs op (s_co z R fn) (s_mls i) D)) from rxsf_app _ _ _]
        exact e1
      · show WM n z R fn op (rxs op (s_co z R fn) (s_mls i ++ (s_mr i ++ s_md i)) D) μ2
        rw [rxs_app]
        exact e3)
    (fun k p hI => by
      show m_X10_way_139 x1 (nI z) k128 (k + 1) p.1 (nI 36) p.2 = _
      rw [m_X10_way_139, if_pos (by decide)])
    (0, μ) ⟨rfl, Ch.rf, h⟩
  refine ⟨b.2, ?_, hb.2⟩
  rw [← hb.1]
  exact hq
theorem m_w128 {n z st v0 g : Nat} {R : Nat → Option Nat} {fn : Nat → Nat} {op : Nat → Bool} (x1 : Int32) (hg : g < 36) (hx1 : rmI x1 100 = nI g) :
    ∀ (m k : Nat) (μ : ax_M) (D : Nat → Option Nat), m + 2 < k → WM n z R fn op D μ → WI op (s_co z R fn) st v0 D → s_pot D 36 < m →
    ∃ o μ2, m_X10_way_128 x1 (nI z) k 1 μ = some (rI o, μ2) ∧ Lst op (s_co z R fn) st v0 g o ∧ Ch T70 μ μ2 := by
  intro m
  induction m with
  | zero => intro k μ D hk h hwi hp; omega
  | succ m ih =>
    intro k μ D hk h hwi hp
    have hco := s_co_le (z := z) (R := R) h.2.2.2.2.2.1
    obtain ⟨k, rfl⟩ : ∃ k2, k = k2 + 1 := ⟨k - 1, by omega⟩
    obtain ⟨μ1, e1, e2, e3⟩ := m_w139 h hwi x1 (m_X10_way_128 x1 (nI z) k)
    rw [m_X10_way_128, if_neg (by decide), e1]
    have hw2 := rxs_wi hco (s_mls 36) D (mls_edg (Nat.le_refl 36)) hwi
    cases hf : rxsf op (s_co z R fn) (s_mls 36) D with
    | true =>
      have := (rxs_pot hco (s_mls 36) D (mls_edg (Nat.le_refl 36)) hwi).2 hf
      obtain ⟨o, μ2, g1, g2, g3⟩ := ih k μ1 _ (by omega) e3 hw2 (by omega)
      exact ⟨o, μ2, g1, g2, e2.tr g3⟩
    | false =>
      obtain ⟨k, rfl⟩ : ∃ k2, k = k2 + 1 := ⟨k - 1, by omega⟩
      refine ⟨D g, μ1, ?_, cl_lst hwi (cl_of full_mls hf) g, e2⟩
      have h70 := e3.2.2.1 g hg
      rw [(rxs_no _ _ hf).1] at h70
      rw [m_X10_way_128, if_pos (show bI false = 0 from rfl), hx1, ix_nI hg (by decide), ob_some, h70]
def T8 (k : Nat) (_ : Nat) : Bool := k == 66 || k == 67 || k == 69 || k == 70
theorem T8N (k i : Nat) (h : mN k i = true) : T8 k i = false := by simp [mN, T8] at *; omega
theorem T28 (k i : Nat) (h : T8 k i = false) : T2 k i = false := by simp [T2, T8] at *; omega
theorem T708 (k i : Nat) (h : T8 k i = false) : T70 k i = false := by simp [T70, T8] at *; omega
/-- the least way, as the model finds it -/
theorem m_least {n z st g : Nat} {d : Dt} {μ : ax_M} {R : Nat → Option Nat} {fn : Nat → Nat} (h : RM n d μ) (hl : LM d μ) (hR : ∀ c, c < 36 → μ 68 c = rI (R c)) (hF : ∀ c, c < 36 → s_fat d (R c) c (μ 51 4) = nI (fn c)) (hfn : ∀ c, fn c ≤ 250) (hRn : ∀ c r, R c = some r → r < n) (hz : z < 3) (hg : g < 36) (hst : st < 36) :
    ∃ o μ2, m_X10_way_39 (nI (100 * st + g)) (nI z) fu 0 μ = some (rI o, μ2) ∧ Lst (fun c => s_let d (R c) c (μ 51 4)) (s_co z R fn) st (s_co z R fn st st) g o ∧ Ch T8 μ μ2 := by
  have hn := h.1
  have hco := s_co_le (z := z) (R := R) hfn
  have hd : nI (100 * st + g) / 100 = nI st := by
    rw [nd100 (by omega)]
    congr 1
    omega
  have hm : rmI (nI (100 * st + g)) 100 = nI g := by
    rw [nr100 (by omega)]
    congr 1
    omega
  have hz0 : (nI z = 0) = (z = 0) := neqL (k := 0) (by omega) (by decide)
  obtain ⟨b, hb, hq⟩ := loopK (N := 36) (fun k i (p : ax_M) => m_X10_way_39 (nI (100 * st + g)) (nI z) k (nI i) p) (fun i p => Ch T8 μ p ∧ ∀ c, c < i → p 69 c = (if s_let d (R c) c (μ 51 4) then nI (s_wt z fn c) else -1) ∧ p 70 c = -1) (fun p => m_X10_way_128 (nI (100 * st + g)) (nI z) fu 1 (ax_w p 70 st (rI (s_d0 (fun c => s_let d (R c) c (μ 51 4)) st (s_co z R fn st st) st)))) (by omega)
    (fun k i p hi hI => by
      obtain ⟨hch, h3⟩ := hI
      have hRp : ∀ c, c < 36 → p 68 c = rI (R c) := fun c hc => by rw [hch 68 c rfl]; exact hR c hc
      obtain ⟨μ2, e1, e2⟩ := m_let (h.ch hch T8N) (hl.ch hch T8N) hRp hRn hi
      rw [hch 51 4 rfl] at e1
      have hch2 : Ch T8 μ μ2 := hch.tr (e2.mono T28)
      -- the weight is set
      have set : ∀ (μ3 : ax_M), Ch T2 μ2 μ3 → ∃ a2, m_X10_way_75 (nI (100 * st + g)) (nI z) (nI i) (nI i) (if s_let d (R i) i (μ 51 4) then nI (s_wt z fn i) else -1) (m_X10_way_39 (nI (100 * st + g)) (nI z) k) μ3 = m_X10_way_39 (nI (100 * st + g)) (nI z) k (nI (i + 1)) a2 ∧ Ch T8 μ a2 ∧ ∀ c, c < i + 1 → a2 69 c = (if s_let d (R c) c (μ 51 4) then nI (s_wt z fn c) else -1) ∧ a2 70 c = -1 := by
        intro μ3 hc3
        refine ⟨ax_w (ax_w μ3 69 i (if s_let d (R i) i (μ 51 4) then nI (s_wt z fn i) else -1)) 70 i (-1), ?_, ((hch2.tr (hc3.mono T28)).w rfl).w rfl, fun c hc => ?_⟩
        · unfold m_X10_way_75
          rw [ix_nI hi (by decide)]
          simp only [ob_some, na1]
        · by_cases e : c = i
          · subst e
            exact ⟨by rw [w_k (by decide), w_ss], w_ss⟩
          · obtain ⟨a1, a2⟩ := h3 c (by omega)
            refine ⟨?_, ?_⟩
            · rw [w_k (by decide), w_i e, hc3 69 c rfl, e2 69 c rfl]
              exact a1
            · rw [w_i e, w_k (by decide), hc3 70 c rfl, e2 70 c rfl]
              exact a2
      show ∃ a2, m_X10_way_39 (nI (100 * st + g)) (nI z) (k + 1) (nI i) p = _ ∧ _
      rw [m_X10_way_39, if_neg (ge36 hi), e1, bind2_some]
      cases hx : s_let d (R i) i (μ 51 4) with
      | false =>
        rw [if_pos (by simp [bI])]
        have := set μ2 Ch.rf
        rw [hx] at this
        exact this
      | true =>
        rw [if_neg (by simp [bI])]
        simp only [hz0]
        by_cases e : z = 0
        · rw [if_pos e]
          obtain ⟨μ3, f1, f2⟩ := m_fat (h.ch hch2 T8N) (hl.ch hch2 T8N) (R := R) (fun c hc => by rw [hch2 68 c rfl]; exact hR c hc) hRn hi
          rw [hch2 51 4 rfl, hF i hi] at f1
          rw [f1, bind2_some]
          have := set μ3 f2
          rw [hx] at this
          simp only [if_true] at this
          rw [show s_wt z fn i = fn i by simp [s_wt, e]] at this
          exact this
        · rw [if_neg e]
          have := set μ2 Ch.rf
          rw [hx] at this
          simp only [if_true] at this
          rw [show s_wt z fn i = 1 by simp [s_wt, e]] at this
          exact this)
    (fun k p hI => by
      obtain ⟨hch, h3⟩ := hI
      show m_X10_way_39 (nI (100 * st + g)) (nI z) (k + 1) (nI 36) p = _
      rw [m_X10_way_39, if_pos (by decide), hd, ix_nI hst (by decide)]
      simp only [ob_some, kd1 hz, (h3 st hst).1]
      have e0 : s_d0 (fun c => s_let d (R c) c (μ 51 4)) st (s_co z R fn st st) st = if s_let d (R st) st (μ 51 4) then some (s_co z R fn st st) else none := by simp [s_d0]
      rw [e0]
      cases hx : s_let d (R st) st (μ 51 4) with
      | false =>
        simp only [Bool.false_eq_true, if_false, if_true]
        by_cases e : z = 1
        · rw [if_pos e]
          rfl
        · rw [if_neg e]
          rfl
      | true =>
        simp only [if_true]
        have hwb : s_wt z fn st ≤ 250 := by
          have := hfn st
          unfold s_wt
          split <;> omega
        by_cases e : z = 1
        · rw [if_pos e, if_neg (show ¬ nI (s_wt z fn st) = -1 from nm1 (by omega))]
          have : s_co z R fn st st = 0 := by simp [s_co, e]
          rw [this]
          rfl
        · rw [if_neg e, co_wt e]
          rfl)
    μ ⟨Ch.rf, fun c hc => by omega⟩
  obtain ⟨hch, h3⟩ := hb
  have hwi : WI (fun c => s_let d (R c) c (μ 51 4)) (s_co z R fn) st (s_co z R fn st st) (s_d0 (fun c => s_let d (R c) c (μ 51 4)) st (s_co z R fn st st)) := d0_wi hst (hco st st)
  have hq2 : m_X10_way_39 (nI (100 * st + g)) (nI z) fu 0 μ = _ := hq
  rw [hq2]
  generalize hb2 : ax_w b 70 st (rI (s_d0 (fun c => s_let d (R c) c (μ 51 4)) st (s_co z R fn st st) st)) = b2
  have hcb : Ch T70 b b2 := by
    rw [← hb2]
    exact Ch.rf.w rfl
  have hcb2 : Ch T8 μ b2 := hch.tr (hcb.mono T708)
  have hwm : WM n z R fn (fun c => s_let d (R c) c (μ 51 4)) (s_d0 (fun c => s_let d (R c) c (μ 51 4)) st (s_co z R fn st st)) b2 := by
    refine ⟨fun c hc => by rw [hcb2 68 c rfl]; exact hR c hc, fun c hc => by rw [hcb 69 c rfl]; exact (h3 c hc).1, fun c hc => ?_, hn, hz, hfn, hRn⟩
    rw [← hb2]
    by_cases e : c = st
    · subst e
      exact w_ss
    · rw [w_i e, (h3 c hc).2]
      simp [s_d0, e, rI]
  have hpot : s_pot (s_d0 (fun c => s_let d (R c) c (μ 51 4)) st (s_co z R fn st st)) 36 < 324037 := by
    have := s_pot_le (D := s_d0 (fun c => s_let d (R c) c (μ 51 4)) st (s_co z R fn st st)) (fun q v hqv => wi_b hwi hqv) 36
    omega
  obtain ⟨o, μ2, g1, g2, g3⟩ := m_w128 (nI (100 * st + g)) hg hm 324037 fu b2 _ (by decide) hwm hwi hpot
  exact ⟨o, μ2, g1, g2, hcb2.tr (g3.mono T708)⟩
