/-! ===== spread, rugsBy ===== -/
def s_pi (f : Nat → Int32) (r : Nat) (v : Int32) : Nat → Int32 := fun q => if q = r then v else f q
/-- a new rug -/
def d_nw (d : Dt) (n k m a b : Nat) : Dt := (d.1, s_pi (d_k d) n (nI k), s_pi (d_m d) n (nI m), s_pi (d_g d) n 0, s_pt (d_a d) n a, s_pt (d_b d) n b)
def Sq (k i : Nat) : Bool := (k == 25 && i == 1) || k == 26 || k == 27 || k == 28 || k == 29 || k == 30 || k == 31
def Tq (k i : Nat) : Bool := (k == 51 && i == 0) || k == 52 || k == 53 || k == 54
def sp_o (n : Nat) (x1 x2 : Int32) : Bool := s_in x1 0 59 && s_corI x2 && decide (n ≠ 6)
def sp_v (n : Nat) (x1 x2 : Int32) : Int32 := if (s_in x1 0 59 && s_corI x2) then (if n = 6 then -4 else nI n) else -2
def sp_n (n : Nat) (x1 x2 : Int32) : Nat := if sp_o n x1 x2 then n + 1 else n
def sp_d (n : Nat) (d : Dt) (x1 x2 : Int32) : Dt := if sp_o n x1 x2 then d_nw d n (x1.toNatClampNeg / 10) (x1.toNatClampNeg % 10) (x2.toNatClampNeg / 100) (x2.toNatClampNeg % 100) else d
section
variable {n hr lw tx ts : Nat} {d : Dt} {F : Nat → Lw} {tb : Nat → Nat} {im : Im} {sh : Sh4} {μ μ2 : ax_M}
theorem c_spr (h : RC n d μ) (x1 x2 : Int32) : ∃ μ2, m_X9_spread x1 x2 μ = some (sp_v n x1 x2, μ2) ∧ RC (sp_n n x1 x2) (sp_d n d x1 x2) μ2 ∧ Ch Sq μ μ2 := by
  have hn := h.1
  rcases argb x1 59 59 60 rfl rfl (by decide) with ⟨j, hj, rfl, g1, g2, g3, g4, g5, g6⟩ | ⟨b0, b1⟩
  · cases hq : s_corI x2 with
    | true =>
      obtain ⟨v, hv, rfl, hs⟩ := corI_of hq
      obtain ⟨q1, q2, q3, q4⟩ := cor_of hs
      by_cases e6 : n = 6
      · have ho : sp_o n (nI j) (nI v) = false := by simp [sp_o, e6]
        refine ⟨μ, ?_, ?_, Ch.rf⟩
        · unfold m_X9_spread sp_v
          rw [if_neg g2, if_neg g3, c_cor, hq, ob_some, if_neg (by decide), h.2.1, if_neg (show ¬ nI n < 6 by rw [e6]; decide), g1, if_pos (show (true && true) = true from rfl), if_pos e6]
        · unfold sp_n sp_d
          rw [ho]
          exact h
      · have ho : sp_o n (nI j) (nI v) = true := by simp [sp_o, e6, g1, hq]
        have hn6 : n < 6 := by omega
        unfold sp_n sp_d sp_v
        rw [ho, if_pos rfl, if_pos rfl, g1, hq, if_pos (show (true && true) = true from rfl), if_neg e6, nI_clamp (by omega), nI_clamp hv]
        generalize hμ : ax_w (ax_w (ax_w (ax_w μ 25 1 (nI (n + 1))) 26 n (nI (j / 10))) 27 n (nI (j % 10))) 31 n 0 = μ1
        refine ⟨ax_w (ax_w (ax_w μ1 28 n (nI (v / 100))) 29 n (nI (v % 100))) 30 n (nI ((v % 100 % 6 - v / 100 % 6 + 1) * (v % 100 / 6 - v / 100 / 6 + 1))), ?_, ?_, ?_⟩
        · unfold m_X9_spread m_X0_add m_X0_lay m_X9_columnOf m_X9_rowOf
          rw [if_neg g2, if_neg g3, c_cor, hq, ob_some, if_neg (by decide), h.2.1, if_pos (show nI n < 6 by rw [show (6 : Int32) = nI 6 from rfl, nltL (by omega) (by omega)]; exact hn6)]
          simp only [ix_nI hn6 (show 6 < 2 ^ 31 by decide), ob_some, nd100 hv, nr100 hv, nd10 (show j < 2 ^ 31 by omega), nr10 (show j < 2 ^ 31 by omega)]
          rw [nr6 (by omega), nr6 (by omega), nd6 (by omega), nd6 (by omega), pk_sub q3, pk_sub q4, na1, na1, na1, pk_mul, hμ]
          simp only [ob_some, bind2_some]
        · subst hμ
          refine ⟨by omega, by simp [ax_w, na1], fun q hq2 => ?_⟩
          have hsz : s_sz (d_nw d n (j / 10) (j % 10) (v / 100) (v % 100)) q = if q = n then (v % 100 % 6 - v / 100 % 6 + 1) * (v % 100 / 6 - v / 100 / 6 + 1) else s_sz d q := by
            by_cases e : q = n <;> simp [s_sz, d_nw, d_a, d_b, s_pt, e]
          have hA : d_a (d_nw d n (j / 10) (j % 10) (v / 100) (v % 100)) q = if q = n then v / 100 else d_a d q := rfl
          have hB : d_b (d_nw d n (j / 10) (j % 10) (v / 100) (v % 100)) q = if q = n then v % 100 else d_b d q := rfl
          have hk : d_k (d_nw d n (j / 10) (j % 10) (v / 100) (v % 100)) q = if q = n then nI (j / 10) else d_k d q := rfl
          have hm : d_m (d_nw d n (j / 10) (j % 10) (v / 100) (v % 100)) q = if q = n then nI (j % 10) else d_m d q := rfl
          have hg : d_g (d_nw d n (j / 10) (j % 10) (v / 100) (v % 100)) q = if q = n then 0 else d_g d q := rfl
          rw [hsz, hA, hB, hk, hm, hg]
          by_cases e : q = n
          · subst e
            simp only [if_true]
            refine ⟨by simp [ax_w], by simp [ax_w], by simp [ax_w], by simp [ax_w], by simp [ax_w], by simp [ax_w], q1, q2, q3, q4⟩
          · simp only [if_neg e]
            obtain ⟨a1, a2, a3, a4, a5, a6, a7, a8, a9, a10⟩ := h.2.2 q (by omega)
            refine ⟨by simp [ax_w, e, a1], by simp [ax_w, e, a2], by simp [ax_w, e, a3], by simp [ax_w, e, a4], by simp [ax_w, e, a5], by simp [ax_w, e, a6], a7, a8, a9, a10⟩
        · subst hμ
          exact ((((((Ch.rf.w rfl).w rfl).w rfl).w rfl).w rfl).w rfl).w rfl
    | false =>
      have ho : sp_o n (nI j) x2 = false := by simp [sp_o, hq]
      refine ⟨μ, ?_, ?_, Ch.rf⟩
      · unfold m_X9_spread sp_v
        rw [if_neg g2, if_neg g3, c_cor, hq, ob_some, if_pos (by decide), if_neg (by simp)]
      · unfold sp_n sp_d
        rw [ho]
        exact h
  · have ho : sp_o n x1 x2 = false := by simp [sp_o, b0]
    refine ⟨μ, ?_, ?_, Ch.rf⟩
    · unfold sp_v
      rw [b0, if_neg (by simp)]
      rcases b1 with b | ⟨b2, b3, b4, b5, b6⟩ <;> simp [m_X9_spread, *]
    · unfold sp_n sp_d
      rw [ho]
      exact h
theorem m_spr (h : RM n d μ) (x1 x2 : Int32) : ∃ μ2, m_X10_spread x1 x2 μ = some (sp_v n x1 x2, μ2) ∧ RM (sp_n n x1 x2) (sp_d n d x1 x2) μ2 ∧ Ch Tq μ μ2 := by
  have hn := h.1
  cases g1 : s_in x1 0 59 with
  | true =>
    obtain ⟨j, hj, rfl⟩ := in_of (b := 59) (by decide) g1
    cases hq : s_corI x2 with
    | true =>
      obtain ⟨v, hv, rfl, hs⟩ := corI_of hq
      obtain ⟨q1, q2, q3, q4⟩ := cor_of hs
      by_cases e6 : n = 6
      · have ho : sp_o n (nI j) (nI v) = false := by simp [sp_o, e6]
        refine ⟨μ, ?_, ?_, Ch.rf⟩
        · unfold m_X10_spread sp_v
          rw [m_in, g1, ob_some, if_neg (by decide), m_cor, hq, ob_some, if_neg (by decide), h.2.1, if_pos (by rw [e6]; rfl), if_pos (show (true && true) = true from rfl), if_pos e6]
        · unfold sp_n sp_d
          rw [ho]
          exact h
      · have ho : sp_o n (nI j) (nI v) = true := by simp [sp_o, e6, g1, hq]
        have hn6 : n < 6 := by omega
        unfold sp_n sp_d sp_v
        rw [ho, if_pos rfl, if_pos rfl, g1, hq, if_pos (show (true && true) = true from rfl), if_neg e6, nI_clamp (by omega), nI_clamp hv]
        have w51 : ∀ (μ : ax_M) (k i : Nat) (x : Int32), k ≠ 51 → (ax_w μ k i x) 51 0 = μ 51 0 := fun μ k i x hk => w_k (fun z => hk z.symm)
        refine ⟨ax_w (ax_w (ax_w (ax_w (ax_w (ax_w μ 52 n (nI (j / 10))) 53 n (nI (j % 10))) 54 (3 * n) (nI (v / 100))) 54 (3 * n + 1) (nI (v % 100))) 54 (3 * n + 2) 0) 51 0 (nI (n + 1)), ?_, ?_, ?_⟩
        · unfold m_X10_spread
          rw [m_in, g1, ob_some, if_neg (by decide), m_cor, hq, ob_some, if_neg (by decide), h.2.1, if_neg (show ¬ nI n = 6 by rw [show (6 : Int32) = nI 6 from rfl, neqL (by omega) (by omega)]; exact e6)]
          simp only [w51 _ 52 _ _ (by decide), w51 _ 53 _ _ (by decide), w51 _ 54 _ _ (by decide), h.2.1, ix_nI hn6 (show 6 < 2 ^ 31 by decide), ob_some, nd100 hv, nr100 hv, nd10 (show j < 2 ^ 31 by omega), nr10 (show j < 2 ^ 31 by omega), n3, na1, na2, ix_nI (show 3 * n < 18 by omega) (show 18 < 2 ^ 31 by decide), ix_nI (show 3 * n + 1 < 18 by omega) (show 18 < 2 ^ 31 by decide), ix_nI (show 3 * n + 2 < 18 by omega) (show 18 < 2 ^ 31 by decide), w_ss]
          rw [show nI (n + 1) - 1 = nI n from nI_pred n]
        · refine ⟨by omega, by simp [ax_w], fun q hq2 => ?_⟩
          have hA : d_a (d_nw d n (j / 10) (j % 10) (v / 100) (v % 100)) q = if q = n then v / 100 else d_a d q := rfl
          have hB : d_b (d_nw d n (j / 10) (j % 10) (v / 100) (v % 100)) q = if q = n then v % 100 else d_b d q := rfl
          have hk : d_k (d_nw d n (j / 10) (j % 10) (v / 100) (v % 100)) q = if q = n then nI (j / 10) else d_k d q := rfl
          have hm : d_m (d_nw d n (j / 10) (j % 10) (v / 100) (v % 100)) q = if q = n then nI (j % 10) else d_m d q := rfl
          have hg : d_g (d_nw d n (j / 10) (j % 10) (v / 100) (v % 100)) q = if q = n then 0 else d_g d q := rfl
          rw [hA, hB, hk, hm, hg]
          by_cases e : q = n
          · subst e
            simp only [if_true]
            refine ⟨by simp [ax_w], by simp [ax_w], by simp [ax_w], by simp [ax_w], by simp [ax_w], q1, q2, q3, q4⟩
          · simp only [if_neg e]
            obtain ⟨a1, a2, a3, a4, a5, a7, a8, a9, a10⟩ := h.2.2 q (by omega)
            have z1 : ¬ 3 * q = 3 * n + 2 := by omega
            have z2 : ¬ 3 * q = 3 * n + 1 := by omega
            have z3 : ¬ 3 * q = 3 * n := by omega
            have z4 : ¬ 3 * q + 1 = 3 * n + 2 := by omega
            have z5 : ¬ 3 * q + 1 = 3 * n + 1 := by omega
            have z6 : ¬ 3 * q + 1 = 3 * n := by omega
            have z7 : ¬ 3 * q + 2 = 3 * n + 2 := by omega
            have z8 : ¬ 3 * q + 2 = 3 * n + 1 := by omega
            have z9 : ¬ 3 * q + 2 = 3 * n := by omega
            refine ⟨by simp [ax_w, e, a1], by simp [ax_w, e, a2], ?_, ?_, ?_, a7, a8, a9, a10⟩
            · rw [w_k (by decide), w_i z1, w_i z2, w_i z3, w_k (by decide), w_k (by decide)]
              exact a3
            · rw [w_k (by decide), w_i z4, w_i z5, w_i z6, w_k (by decide), w_k (by decide)]
              exact a4
            · rw [w_k (by decide), w_i z7, w_i z8, w_i z9, w_k (by decide), w_k (by decide)]
              exact a5
        · exact (((((Ch.rf.w rfl).w rfl).w rfl).w rfl).w rfl).w rfl
    | false =>
      have ho : sp_o n (nI j) x2 = false := by simp [sp_o, hq]
      refine ⟨μ, ?_, ?_, Ch.rf⟩
      · unfold m_X10_spread sp_v
        rw [m_in, g1, ob_some, if_neg (by decide), m_cor, hq, ob_some, if_pos (by decide), if_neg (by simp)]
      · unfold sp_n sp_d
        rw [ho]
        exact h
  | false =>
    have ho : sp_o n x1 x2 = false := by simp [sp_o, g1]
    refine ⟨μ, ?_, ?_, Ch.rf⟩
    · unfold m_X10_spread sp_v
      rw [m_in, g1, ob_some, if_pos (by decide), if_neg (by simp)]
    · unfold sp_n sp_d
      rw [ho]
      exact h
theorem sp_ok {x1 x2 : Int32} (hn : n ≤ 6) (h : OKd n d) : OKd (sp_n n x1 x2) (sp_d n d x1 x2) ∧ n ≤ sp_n n x1 x2 ∧ sp_n n x1 x2 ≤ 6 ∧ d_f (sp_d n d x1 x2) = d_f d := by
  unfold sp_n sp_d
  cases ho : sp_o n x1 x2 with
  | false => exact ⟨h, Nat.le_refl n, hn, rfl⟩
  | true =>
    have ho' := ho
    unfold sp_o at ho'
    simp only [Bool.and_eq_true, decide_eq_true_eq] at ho'
    obtain ⟨⟨o1, o2⟩, o3⟩ := ho'
    obtain ⟨j, hj, rfl⟩ := in_of (b := 59) (by decide) o1
    simp only [if_true]
    refine ⟨fun q hq => ?_, by omega, by omega, rfl⟩
    rw [nI_clamp (by omega)]
    show (∃ k, k ≤ 5 ∧ (if q = n then nI (j / 10) else d_k d q) = nI k) ∧ (∃ m, m ≤ 9 ∧ (if q = n then nI (j % 10) else d_m d q) = nI m) ∧ (∃ g, g ≤ 99 ∧ (if q = n then 0 else d_g d q) = nI g)
    by_cases e : q = n
    · rw [if_pos e, if_pos e, if_pos e]
      exact ⟨⟨j / 10, by omega, rfl⟩, ⟨j % 10, by omega, rfl⟩, ⟨0, by omega, rfl⟩⟩
    · rw [if_neg e, if_neg e, if_neg e]
      exact h q (by omega)
theorem OKi.up {n2 : Nat} (h : OKi n tx im) (hn : n ≤ n2) : OKi n2 tx im := by
  rcases h with h | ⟨h1, h2, h3⟩
  · exact Or.inl h
  · exact Or.inr ⟨h1, by omega, h3⟩
theorem sqR (h : Ch Sq μ μ2) : Ch SR μ μ2 := h.mono fun k i e => by simp [SR, SC, Sq] at *; omega
theorem tqQ (h : Ch Tq μ μ2) : Ch SQ μ μ2 := h.mono fun k i e => by simp [SQ, SM, Tq] at *; omega
theorem b_spread (h : K n d hr lw tx F ts tb im sh μ) (x1 x2 : Int32) : Bo (m_X9_spread x1 x2) (m_X10_spread x1 x2) μ := by
  obtain ⟨μ2, e1, e2, e3⟩ := c_spr h.rc x1 x2
  have hm := h.2.2.off (sqR e3)
  obtain ⟨μ3, f1, f2, f3⟩ := m_spr hm.1.1 x1 x2
  obtain ⟨o1, o2, o3, o4⟩ := sp_ok (x1 := x1) (x2 := x2) h.n6 h.1.2.2.2.2.1
  refine ⟨_, μ2, μ3, e1, f1, (h.upr (sqR e3) ⟨e2, ?_, ?_⟩ (tqQ f3) ⟨f2, ?_, ?_⟩ ⟨h.1.1, h.1.2.1, h.1.2.2.1, by rw [o4]; exact h.1.2.2.2.1, o1, h.1.2.2.2.2.2.1, h.1.2.2.2.2.2.2.1, h.1.2.2.2.2.2.2.2.1.up o2, h.1.2.2.2.2.2.2.2.2⟩).x⟩
  · rw [e3 25 2 rfl]; exact h.h2
  · rw [e3 25 3 rfl]; exact h.2.1.1.2.2
  · rw [f3 51 4 rfl]; exact hm.1.2.1
  · rw [f3 51 10 rfl]; exact hm.1.2.2
/-- rugs by a sheet: what is left to do, from which place, how many came -/
def s_rb (C : Nat → Int32) (z f : Nat) : Nat → Nat → Nat → Nat → Dt → Int32 × Nat × Dt
  | 0, _, c, n, d => (nI c, n, d)
  | m + 1, i, c, n, d => if f + 2 * i + 2 ≤ z then s_rb C z f m (i + 1) (if sp_v n (C (f + 2 * i)) (C (f + 2 * i + 1)) < 0 then c else c + 1) (sp_n n (C (f + 2 * i)) (C (f + 2 * i + 1))) (sp_d n d (C (f + 2 * i)) (C (f + 2 * i + 1))) else (-12, n, d)
theorem le_m2 {a z : Nat} (ha : a < 2 ^ 31) (hz : z ≤ 40) : (nI a ≤ nI z - 2) = (a + 2 ≤ z) := by
  by_cases e : 2 ≤ z
  · rw [show nI z - 2 = nI (z - 2) from pk_sub (b := 2) e, nleL ha (by omega)]
    exact propext ⟨fun h => by omega, fun h => by omega⟩
  · have : z = 0 ∨ z = 1 := by omega
    have h1 := nI_toInt ha
    apply propext
    rw [Int32.le_iff_toInt_le, h1]
    rcases this with rfl | rfl
    · have : (nI 0 - 2).toInt = -2 := by decide
      omega
    · have : (nI 1 - 2).toInt = -1 := by decide
      omega
theorem c_rb {s z f : Nat} {C : Nat → Int32} (hs : s < 4) (hz : z ≤ 40) (hf : f < 2 ^ 31) {y : Nat} (hy : y ≤ 6) : ∀ (m i c k n : Nat) (d : Dt) (μ : ax_M), i + m = y → m < k → c ≤ i → (0 < i → f + 2 * i ≤ 50) → RC n d μ → μ 50 s = nI z → (∀ j, j < z → μ (45 + s) j = C j) → ∃ μ2, m_X9_rugsBy_74 (nI s) (nI y) k (nI c) (nI (f + 2 * i)) (nI i) μ = some ((s_rb C z f m i c n d).1, μ2) ∧ RC (s_rb C z f m i c n d).2.1 (s_rb C z f m i c n d).2.2 μ2 ∧ Ch Sq μ μ2 := by
  intro m
  induction m with
  | zero =>
    intro i c k n d μ hi hk hci hfi h h50 hC
    obtain ⟨k, rfl⟩ : ∃ k2, k = k2 + 1 := ⟨k - 1, by omega⟩
    have : i = y := by omega
    subst this
    rw [m_X9_rugsBy_74, if_pos (Int32.le_refl _)]
    exact ⟨μ, rfl, h, Ch.rf⟩
  | succ m ih =>
    intro i c k n d μ hi hk hci hfi h h50 hC
    obtain ⟨k, rfl⟩ : ∃ k2, k = k2 + 1 := ⟨k - 1, by omega⟩
    have hb : f + 2 * i < 2 ^ 31 := by
      by_cases e : i = 0
      · subst e; omega
      · have := hfi (by omega); omega
    rw [m_X9_rugsBy_74, if_neg (by rw [nleL (by omega) (by omega)]; omega), if_neg (nneg hb), ix_nI hs (by decide), ob_some, h50]
    simp only [le_m2 hb hz, s_rb]
    by_cases e : f + 2 * i + 2 ≤ z
    · rw [if_pos e, if_pos e, ob_some, q_ld45 hs (by omega), ob_some, ob_some, na1, q_ld45 hs (by omega), ob_some, hC _ (by omega), hC _ (by omega)]
      obtain ⟨μ2, e1, e2, e3⟩ := c_spr h (C (f + 2 * i)) (C (f + 2 * i + 1))
      rw [e1, bind2_some, na2, na1, na1, show f + 2 * i + 2 = f + 2 * (i + 1) by omega]
      have g50 : μ2 50 s = nI z := by rw [e3 50 s rfl]; exact h50
      have gC : ∀ j, j < z → μ2 (45 + s) j = C j := fun j hj => by rw [e3 (45 + s) j (by simp [Sq]; omega)]; exact hC j hj
      by_cases e4 : sp_v n (C (f + 2 * i)) (C (f + 2 * i + 1)) < 0
      · rw [if_pos e4, if_pos e4]
        obtain ⟨μ3, f1, f2, f3⟩ := ih (i + 1) c k _ _ μ2 (by omega) (by omega) (by omega) (fun _ => by omega) e2 g50 gC
        exact ⟨μ3, f1, f2, e3.tr f3⟩
      · rw [if_neg e4, if_neg e4]
        obtain ⟨μ3, f1, f2, f3⟩ := ih (i + 1) (c + 1) k _ _ μ2 (by omega) (by omega) (by omega) (fun _ => by omega) e2 g50 gC
        exact ⟨μ3, f1, f2, e3.tr f3⟩
    · rw [if_neg e, if_neg e]
      exact ⟨μ, rfl, h, Ch.rf⟩
theorem m_rb {s z f : Nat} {C : Nat → Int32} (hs : s < 4) (hz : z ≤ 40) (hf : f < 2 ^ 31) {y : Nat} (hy : y ≤ 6) : ∀ (m i c k n : Nat) (d : Dt) (μ : ax_M), i + m = y → m < k → c ≤ i → (0 < i → f + 2 * i ≤ 50) → RM n d μ → μ 61 s = nI z → (∀ j, j < z → μ 62 (40 * s + j) = C j) → ∃ μ2, m_X10_rugsBy_64 (nI s) (nI f) (nI y) k (nI c) (nI i) μ = some ((s_rb C z f m i c n d).1, μ2) ∧ RM (s_rb C z f m i c n d).2.1 (s_rb C z f m i c n d).2.2 μ2 ∧ Ch Tq μ μ2 := by
  intro m
  induction m with
  | zero =>
    intro i c k n d μ hi hk hci hfi h h50 hC
    obtain ⟨k, rfl⟩ : ∃ k2, k = k2 + 1 := ⟨k - 1, by omega⟩
    have : i = y := by omega
    subst this
    rw [m_X10_rugsBy_64, if_pos (Int32.le_refl _)]
    exact ⟨μ, rfl, h, Ch.rf⟩
  | succ m ih =>
    intro i c k n d μ hi hk hci hfi h h50 hC
    obtain ⟨k, rfl⟩ : ∃ k2, k = k2 + 1 := ⟨k - 1, by omega⟩
    have hb : f + 2 * i < 2 ^ 31 := by
      by_cases e : i = 0
      · subst e; omega
      · have := hfi (by omega); omega
    have e2i : nI f + (2 : Int32) * nI i = nI (f + 2 * i) := by
      rw [show (2 : Int32) * nI i = nI (2 * i) from pk_mul 2 i, nI_add]
    rw [m_X10_rugsBy_64, if_neg (by rw [nleL (by omega) (by omega)]; omega), if_neg (nneg hf), e2i, if_neg (by rw [nltL hb hf]; omega), ix_nI hs (by decide), ob_some, h50]
    simp only [le_m2 hb hz, s_rb]
    by_cases e : f + 2 * i + 2 ≤ z
    · have e40 : (40 : Int32) * nI s + nI (f + 2 * i) = nI (40 * s + (f + 2 * i)) := by
        rw [show (40 : Int32) * nI s = nI (40 * s) from pk_mul 40 s, nI_add]
      rw [if_pos e, if_pos e, e40, na1, ix_nI (show 40 * s + (f + 2 * i) < 160 by omega) (by decide), ob_some, ix_nI (show 40 * s + (f + 2 * i) + 1 < 160 by omega) (by decide), ob_some, show 40 * s + (f + 2 * i) + 1 = 40 * s + (f + 2 * i + 1) by omega, hC _ (by omega), hC _ (by omega)]
      obtain ⟨μ2, e1, e2, e3⟩ := m_spr h (C (f + 2 * i)) (C (f + 2 * i + 1))
      rw [e1, bind2_some, na1, na1]
      have g50 : μ2 61 s = nI z := by rw [e3 61 s rfl]; exact h50
      have gC : ∀ j, j < z → μ2 62 (40 * s + j) = C j := fun j hj => by rw [e3 62 _ rfl]; exact hC j hj
      by_cases e4 : sp_v n (C (f + 2 * i)) (C (f + 2 * i + 1)) < 0
      · rw [if_pos e4, if_pos e4, Int32.add_zero]
        obtain ⟨μ3, f1, f2, f3⟩ := ih (i + 1) c k _ _ μ2 (by omega) (by omega) (by omega) (fun _ => by omega) e2 g50 gC
        exact ⟨μ3, f1, f2, e3.tr f3⟩
      · rw [if_neg e4, if_neg e4]
        obtain ⟨μ3, f1, f2, f3⟩ := ih (i + 1) (c + 1) k _ _ μ2 (by omega) (by omega) (by omega) (fun _ => by omega) e2 g50 gC
        exact ⟨μ3, f1, f2, e3.tr f3⟩
    · rw [if_neg e, if_neg e]
      exact ⟨μ, rfl, h, Ch.rf⟩
theorem rb_ok {C : Nat → Int32} {z f : Nat} : ∀ (m i c n : Nat) (d : Dt), n ≤ 6 → OKd n d → OKd (s_rb C z f m i c n d).2.1 (s_rb C z f m i c n d).2.2 ∧ n ≤ (s_rb C z f m i c n d).2.1 ∧ d_f (s_rb C z f m i c n d).2.2 = d_f d
  | 0, i, c, n, d, _, h => ⟨h, Nat.le_refl n, rfl⟩
  | m + 1, i, c, n, d, hn, h => by
    rw [s_rb]
    by_cases e : f + 2 * i + 2 ≤ z
    · rw [if_pos e]
      obtain ⟨o1, o2, o3, o4⟩ := sp_ok (x1 := C (f + 2 * i)) (x2 := C (f + 2 * i + 1)) hn h
      obtain ⟨p1, p2, p3⟩ := rb_ok (C := C) (z := z) (f := f) m (i + 1) (if sp_v n (C (f + 2 * i)) (C (f + 2 * i + 1)) < 0 then c else c + 1) _ _ o3 o1
      exact ⟨p1, by omega, by rw [p3]; exact o4⟩
    · rw [if_neg e]
      exact ⟨h, Nat.le_refl n, rfl⟩
end
