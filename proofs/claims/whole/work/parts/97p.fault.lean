/-! ===== texts: the class reads a text ===== -/
def PK (T : Nat → Nat) (p j : Nat) (O : List Nat) (j' : Nat) (cs : List Nat) : Prop := T j = 9 + p ∧ ∃ n, O.length + n < 180 ∧ k_mach T n (j + 1) true true [] O = some (some (cs ++ O), j')
def PF (T : Nat → Nat) (p j : Nat) (O : List Nat) (jf : Nat) : Prop := (T j ≠ 9 + p ∧ jf = j) ∨ (T j = 9 + p ∧ ∃ n, O.length + n < 180 ∧ k_mach T n (j + 1) true true [] O = some (none, jf))
section
variable {ts K : Nat} {tb : Nat → Nat} {μ μ2 : ax_M}
theorem w_one {j : Nat} {x : Int32} {a b c : Int32 → ax_M → Option ax_M} (h : CW ts tb K j μ) : ∃ μ2, m_X3_readOne a b c x μ = some μ2 ∧ CW ts tb K j μ2 ∧ Ch SF μ μ2 := by
  unfold m_X3_readOne
  rw [h.at, ob_some, if_pos rfl, h.at, ob_some, if_pos rfl, h.2.2.2.1, if_neg (by decide)]
  exact ⟨_, rfl, h.bad⟩
theorem w_term {j : Nat} {x : Int32} {a b c : Int32 → ax_M → Option ax_M} (h : CW ts tb K j μ) : ∃ μ2, m_X3_readTerm a b c x μ = some μ2 ∧ CW ts tb K j μ2 ∧ Ch SF μ μ2 := by
  obtain ⟨μ2, e1, e2, e3⟩ := w_one (x := x) (a := a) (b := b) (c := c) h
  unfold m_X3_readTerm
  rw [e1, ob_some, show fu = 999999 + 1 from rfl, m_X3_readTerm_7, if_neg (by decide), e2.at, ob_some, if_pos rfl]
  exact ⟨μ2, rfl, e2, e3⟩
theorem w_sum {j : Nat} {x : Int32} {a b c : Int32 → ax_M → Option ax_M} (h : CW ts tb K j μ) : ∃ μ2, m_X3_readSum a b c x μ = some μ2 ∧ CW ts tb K j μ2 ∧ Ch SF μ μ2 := by
  obtain ⟨μ2, e1, e2, e3⟩ := w_term (x := x) (a := a) (b := b) (c := c) h
  unfold m_X3_readSum
  rw [e1, ob_some, show fu = 999999 + 1 from rfl, m_X3_readSum_7, if_neg (by decide), e2.at, ob_some, if_pos rfl, e2.at, ob_some, if_pos rfl]
  exact ⟨μ2, rfl, e2, e3⟩
theorem w_not {j : Nat} {x : Int32} {a b c : Int32 → ax_M → Option ax_M} (h : CW ts tb K j μ) : ∃ μ2, m_X3_readNot a b c x μ = some μ2 ∧ CW ts tb K j μ2 ∧ Ch SF μ μ2 := by
  obtain ⟨μ2, e1, e2, e3⟩ := w_sum (x := x) (a := a) (b := b) (c := c) h
  unfold m_X3_readNot
  rw [h.at, ob_some, if_pos rfl, e1, ob_some, e2.at, ob_some, if_pos rfl, e2.at, ob_some, if_pos rfl]
  exact ⟨μ2, rfl, e2, e3⟩
theorem w_or {j : Nat} {x : Int32} {a b c : Int32 → ax_M → Option ax_M} (h : CW ts tb K j μ) : ∃ μ2, m_X3_readOr a b c x μ = some μ2 ∧ CW ts tb K j μ2 ∧ Ch SF μ μ2 := by
  obtain ⟨μ2, e1, e2, e3⟩ := w_not (x := x) (a := a) (b := b) (c := c) h
  unfold m_X3_readOr m_X3_readAnd
  rw [e1, ob_some, show fu = 999999 + 1 from rfl, m_X3_readAnd_7, if_neg (by decide), e2.at, ob_some, if_pos rfl, ob_some, m_X3_readOr_7, if_neg (by decide), e2.at, ob_some, if_pos rfl]
  exact ⟨μ2, rfl, e2, e3⟩
/-- one part of a text, in the class -/
def c_prt (p : Nat) (μ : ax_M) : Option ax_M := (m_X3_demand ((9 : Int32) + nI p) μ).bind fun μ10 => (f_rd 9 0 0 μ10).bind fun μ13 => (m_X3_demand 19 μ13).bind fun μ16 => some μ16
theorem c_prw {j p : Nat} (h : CW ts tb K j μ) : ∃ μ2, c_prt p μ = some μ2 ∧ CW ts tb K j μ2 ∧ Ch SF μ μ2 := by
  obtain ⟨μ3, a1, a2, a3⟩ := h.dem ((9 : Int32) + nI p)
  obtain ⟨μ4, b1, b2, b3⟩ := w_or (x := 0) (a := f_rd 8 2) (b := f_rd 8 0) (c := f_rd 8 1) a2
  obtain ⟨μ5, c1, c2, c3⟩ := b2.dem 19
  refine ⟨μ5, ?_, c2, (a3.tr b3).tr c3⟩
  unfold c_prt
  rw [a1, ob_some, f_rd, if_pos rfl, b1, ob_some, c1, ob_some]
theorem c_prs {j p : Nat} {O : List Nat} (h : CS ts tb K j O μ) (hp : p < 3) : ∃ μ2, c_prt p μ = some μ2 ∧ Ch SF μ μ2 ∧ ((∃ j' cs, CS ts tb K j' (cs ++ O) μ2 ∧ Good cs ∧ PK (kT tb ts) p j O j' cs) ∨ ∃ jf, CW ts tb K jf μ2 ∧ PF (kT tb ts) p j O jf) := by
  have hOj := h.2.2.2.2.2.2.2
  unfold c_prt
  rw [show (9 : Int32) + nI p = nI (9 + p) from nI_add 9 p]
  obtain ⟨p1, p2⟩ := h.dem (9 + p) (by omega) (by omega)
  by_cases z : kT tb ts j = 9 + p
  · obtain ⟨μ3, a1, a2, a3⟩ := p1 z
    obtain ⟨μ4, b1, b2, b3⟩ := (rd_all (ts := ts) (tb := tb) (K := K) 9 0 (by omega) (by omega)).2.1 (j + 1) O μ3 true [] O a2 rfl rfl trivial
    have b1' : f_rd 9 0 0 μ3 = some μ4 := b1
    rw [a1, ob_some, b1', ob_some, show (19 : Int32) = nI 19 from rfl]
    rcases b3 with ⟨a, cs, mn', S, X1, g0, g1, g2, g3, g4, g5, g6, g7⟩ | ⟨a, g1, g2⟩
    · obtain ⟨r1, r2⟩ := g1.dem 19 (by omega) (by omega)
      have hK := g1.2.2.1
      have hKts := g1.1.2.1
      have hts := g1.2.1
      by_cases z19 : kT tb ts (j + 1 + a) = 19
      · obtain ⟨μ5, d1, d2, d3⟩ := r1 z19
        rw [d1, ob_some]
        refine ⟨μ5, rfl, (a3.tr b2).tr d3, Or.inl ⟨j + 1 + a + 1, cs, d2, g2, z, 1 + a, by omega, ?_⟩⟩
        have hun : k_un 1 (S ++ []) (X1 ++ O) = ([], cs ++ O) := by
          have := un_app (H := []) (show HC 1 [] from trivial) S (X1 ++ O) g5
          rw [this, g4]
          simp
        rw [g7 1, k_mach, if_pos z19, hun]
      · obtain ⟨μ5, d1, d2, d3⟩ := r2 z19
        rw [d1, ob_some]
        refine ⟨μ5, rfl, (a3.tr b2).tr d3, Or.inr ⟨j + 1 + a, d2, Or.inr ⟨z, 1 + a, by omega, ?_⟩⟩⟩
        rw [List.append_nil] at g7
        rw [g7 1]
        exact fa_top g6 g5 z19 0
    · obtain ⟨μ5, d1, d2, d3⟩ := g1.dem (nI 19)
      have hK := g1.2.2.1
      have hKts := g1.1.2.1
      have hts := g1.2.1
      rw [d1, ob_some]
      refine ⟨μ5, rfl, (a3.tr b2).tr d3, Or.inr ⟨j + 1 + a, d2, Or.inr ⟨z, a + 1, by omega, ?_⟩⟩⟩
      have := g2 0
      rw [Nat.zero_add] at this
      exact this
  · obtain ⟨μ3, a1, a2, a3⟩ := p2 z
    obtain ⟨μ4, b1, b2, b3⟩ := w_or (x := 0) (a := f_rd 8 2) (b := f_rd 8 0) (c := f_rd 8 1) a2
    obtain ⟨μ5, c1, c2, c3⟩ := b2.dem 19
    refine ⟨μ5, ?_, (a3.tr b3).tr c3, Or.inr ⟨j, c2, Or.inl ⟨z, rfl⟩⟩⟩
    rw [a1, ob_some, f_rd, if_pos rfl, b1, ob_some, c1, ob_some]
/-- where a text's fault is -/
def BF (T : Nat → Nat) (jf : Nat) : Prop := PF T 0 0 [] jf ∨ (∃ j1 c1, PK T 0 0 [] j1 c1 ∧ PF T 1 j1 c1 jf) ∨ (∃ j1 c1 j2 c2, PK T 0 0 [] j1 c1 ∧ PK T 1 j1 c1 j2 c2 ∧ PF T 2 j2 (c2 ++ c1) jf) ∨ ∃ j1 c1 j2 c2 j3 c3, PK T 0 0 [] j1 c1 ∧ PK T 1 j1 c1 j2 c2 ∧ PK T 2 j2 (c2 ++ c1) j3 c3 ∧ T j3 ≠ 21 ∧ jf = j3
/-- a text without a fault -/
def BG (T : Nat → Nat) (c1 c2 c3 : List Nat) : Prop := ∃ j1 j2 j3, PK T 0 0 [] j1 c1 ∧ PK T 1 j1 c1 j2 c2 ∧ PK T 2 j2 (c2 ++ c1) j3 c3 ∧ T j3 = 21
def SG2 (k i : Nat) : Bool := (k == 22 && (i == 3 || i == 4 || i == 5)) || k == 23 || k == 24 || (k == 18 && i == 4) || k == 20 || k == 21
theorem sfG (h : Ch SF μ μ2) : Ch SG2 μ μ2 := h.mono fun k i e => by simp [SG2, SF] at *; omega
theorem sspG (h : Ch Ssp μ μ2) : Ch SG2 μ μ2 := h.mono fun k i e => by simp [SG2, Ssp] at *; omega
theorem CS.e24 {j p : Nat} {O : List Nat} {v : Int32} (h : CS ts tb K j O μ) : CS ts tb K j O (ax_w μ 24 p v) := by
  obtain ⟨⟨h1, h2, h3, h4, h5⟩, g1, g2, g3, g4, g5, g6, g7⟩ := h
  exact ⟨⟨by rw [w_k (by decide)]; exact h1, h2, fun q hq => by rw [w_k (by decide), w_k (by decide)]; exact h3 q hq, h4, h5⟩, g1, g2, by rw [w_k (by decide)]; exact g3, by rw [w_k (by decide)]; exact g4, by rw [w_k (by decide)]; exact g5, g6.fr fun i _ => w_k (by decide), g7⟩
theorem CW.e24 {j p : Nat} {v : Int32} (h : CW ts tb K j μ) : CW ts tb K j (ax_w μ 24 p v) := by
  obtain ⟨⟨h1, h2, h3, h4, h5⟩, g1, g2, g3, g4, w, hw, g5⟩ := h
  exact ⟨⟨by rw [w_k (by decide)]; exact h1, h2, fun q hq => by rw [w_k (by decide), w_k (by decide)]; exact h3 q hq, h4, h5⟩, g1, g2, by rw [w_k (by decide)]; exact g3, by rw [w_k (by decide)]; exact g4, w, hw, by rw [w_k (by decide)]; exact g5⟩
theorem f24_s {n p : Nat} (hp : p < 3) {μ2 : ax_M} (h : c_prt p μ = some μ2) : m_X3_fault_24 (n + 1) (nI p) μ = m_X3_fault_24 n (nI (p + 1)) (ax_w μ2 24 p (μ2 22 3)) := by
  unfold c_prt at h
  rw [m_X3_fault_24, if_neg (by rw [show (3 : Int32) = nI 3 from rfl, nleL (by omega) (by omega)]; omega), na1]
  cases e1 : m_X3_demand ((9 : Int32) + nI p) μ with
  | none => rw [e1] at h; cases h
  | some x =>
    rw [e1, ob_some] at h
    rw [ob_some]
    cases e2 : f_rd 9 0 0 x with
    | none => rw [e2] at h; cases h
    | some y =>
      rw [e2, ob_some] at h
      rw [ob_some]
      cases e3 : m_X3_demand 19 y with
      | none => rw [e3] at h; cases h
      | some w =>
        rw [e3, ob_some] at h
        cases h
        rw [ob_some, ix_nI hp (by decide), ob_some]
/-- the rest at a fault -/
theorem f24_w {j : Nat} : ∀ (m p n : Nat) (μ : ax_M), p + m = 3 → m < n → CW ts tb K j μ → ∃ μ2, m_X3_fault_24 n (nI p) μ = some (nI (kP tb ts j), μ2) ∧ Ch SG2 μ μ2
  | 0, p, n, μ, hp, hn, h => by
    obtain ⟨n, rfl⟩ : ∃ k2, n = k2 + 1 := ⟨n - 1, by omega⟩
    obtain ⟨μ3, a1, a2, a3⟩ := h.dem 21
    have hj : j < 161 := by have := h.1.2.1; have := h.2.1; have := h.2.2.1; omega
    refine ⟨μ3, ?_, sfG a3⟩
    rw [m_X3_fault_24, if_pos (by rw [show (3 : Int32) = nI 3 from rfl, nleL (by omega) (by omega)]; omega), a1, ob_some, a2.2.2.2.1, if_neg (by decide), a2.2.2.2.2.1, ix_nI hj (by decide), ob_some, (a2.1.2.2.1 j a2.2.2.1).2]
  | m + 1, p, n, μ, hp, hn, h => by
    obtain ⟨n, rfl⟩ : ∃ k2, n = k2 + 1 := ⟨n - 1, by omega⟩
    obtain ⟨μ3, a1, a2, a3⟩ := c_prw (p := p) h
    obtain ⟨μ4, b1, b2⟩ := f24_w m (p + 1) n (ax_w μ3 24 p (μ3 22 3)) (by omega) (by omega) a2.e24
    refine ⟨μ4, ?_, ((sfG a3).tr (Ch.rf.w (by simp [SG2]))).tr b2⟩
    rw [f24_s (by omega) a1]
    exact b1
theorem c_flt (h : TB ts tb μ) : ∃ μ2, Ch SG2 μ μ2 ∧ ((∃ jf, BF (kT tb ts) jf ∧ m_X3_fault μ = some (nI (kP tb ts jf), μ2)) ∨ ∃ c1 c2 c3, BG (kT tb ts) c1 c2 c3 ∧ Good c1 ∧ Good c2 ∧ Good c3 ∧ m_X3_fault μ = some (-1, μ2) ∧ CLs (c3 ++ (c2 ++ c1)) (μ2 23) ∧ (c3 ++ (c2 ++ c1)).length ≤ 160 ∧ μ2 24 0 = nI c1.length ∧ μ2 24 1 = nI (c2 ++ c1).length ∧ μ2 24 2 = nI (c3 ++ (c2 ++ c1)).length) := by
  have hfu : 1000 ≤ fu := by decide
  obtain ⟨μ1, K, a1, a2, a3⟩ := c_split h
  have hts := h.2.1
  have hC0 : CS ts tb K 0 [] (ax_w (ax_w (ax_w μ1 22 3 0) 22 4 0) 22 5 0) := by
    obtain ⟨h1, h2, h3, h4, h5⟩ := a2
    exact ⟨⟨by rw [w_k (by decide), w_k (by decide), w_k (by decide)]; exact h1, h2, fun q hq => by rw [w_k (by decide), w_k (by decide), w_k (by decide), w_k (by decide), w_k (by decide), w_k (by decide)]; exact h3 q hq, h4, h5⟩, hts, Nat.zero_le _, w_ss, by rw [w_i (by decide), w_ss]; rfl, by rw [w_i (by decide), w_i (by decide), w_ss]; rfl, trivial, Nat.le_refl 0⟩
  have hc0 : Ch SG2 μ (ax_w (ax_w (ax_w μ1 22 3 0) 22 4 0) 22 5 0) := (((sspG a3).w rfl).w rfl).w rfl
  have hf : ∀ r, m_X3_fault_24 fu (nI 0) (ax_w (ax_w (ax_w μ1 22 3 0) 22 4 0) 22 5 0) = r → m_X3_fault μ = r := fun r hr => by
    unfold m_X3_fault
    rw [a1, ob_some]
    exact hr
  have hfs : fu = 999996 + 1 + 1 + 1 + 1 := rfl
  obtain ⟨μ2, b1, b2, b3⟩ := c_prs hC0 (show 0 < 3 by omega)
  rcases b3 with ⟨j1, c1, g1, g2, g3⟩ | ⟨jf, g1, g2⟩
  · rw [List.append_nil] at g1
    have e1 := f24_s (n := 999996 + 1 + 1 + 1) (show 0 < 3 by omega) b1
    have hC1 := g1.e24 (p := 0) (v := μ2 22 3)
    have hl1 : μ2 22 3 = nI c1.length := g1.2.2.2.2.2.1
    have hc1 : Ch SG2 μ (ax_w μ2 24 0 (μ2 22 3)) := (hc0.tr (sfG b2)).w rfl
    obtain ⟨μ3, d1, d2, d3⟩ := c_prs hC1 (show 1 < 3 by omega)
    rcases d3 with ⟨j2, c2, k1, k2, k3⟩ | ⟨jf, k1, k2⟩
    · have e2 := f24_s (n := 999996 + 1 + 1) (show 1 < 3 by omega) d1
      have hC2 := k1.e24 (p := 1) (v := μ3 22 3)
      have hl2 : μ3 22 3 = nI (c2 ++ c1).length := k1.2.2.2.2.2.1
      have hc2 : Ch SG2 μ (ax_w μ3 24 1 (μ3 22 3)) := (hc1.tr (sfG d2)).w rfl
      obtain ⟨μ4, l1, l2, l3⟩ := c_prs hC2 (show 2 < 3 by omega)
      rcases l3 with ⟨j3, c3, m1, m2, m3⟩ | ⟨jf, m1, m2⟩
      · have e3 := f24_s (n := 999996 + 1) (show 2 < 3 by omega) l1
        have hC3 := m1.e24 (p := 2) (v := μ4 22 3)
        have hl3 : μ4 22 3 = nI (c3 ++ (c2 ++ c1)).length := m1.2.2.2.2.2.1
        have hc3 : Ch SG2 μ (ax_w μ4 24 2 (μ4 22 3)) := (hc2.tr (sfG l2)).w rfl
        have hlen : (c3 ++ (c2 ++ c1)).length ≤ 160 := by
          have := m1.2.2.2.2.2.2.2
          have := m1.2.2.1
          have := m1.1.2.1
          omega
        have hat : m_X3_demand 21 (ax_w μ4 24 2 (μ4 22 3)) = if kT tb ts j3 = 21 then some (ax_w μ4 24 2 (μ4 22 3)) else some (ax_w (ax_w μ4 24 2 (μ4 22 3)) 22 5 1) := by
          unfold m_X3_demand
          rw [show (21 : Int32) = nI 21 from rfl, hC3.at 21 (by omega), ob_some]
          by_cases z : kT tb ts j3 = 21
          · have hjK : j3 = K := by
              by_cases w : j3 = K
              · exact w
              · exact absurd z (hC3.1.2.2.2.2 j3 (by have := hC3.2.2.1; omega))
            rw [if_neg (by simp [z, bI]), if_pos z]
            unfold m_X3_goOn
            rw [hC3.1.1, hC3.2.2.2.2.1, nI_pred, if_pos (by rw [nleL (by have := hC3.1.2.1; omega) (by have := hC3.1.2.1; omega)]; omega), ob_some]
          · rw [if_pos (by simp [z, bI]), if_neg z]
        by_cases z : kT tb ts j3 = 21
        · refine ⟨_, hc3, Or.inr ⟨c1, c2, c3, ⟨j1, j2, j3, g3, k3, m3, z⟩, g2, k2, m2, hf _ ?_, hC3.2.2.2.2.2.2.1, hlen, ?_, ?_, by rw [w_ss, hl3]⟩⟩
          · rw [hfs, e1, e2, e3, m_X3_fault_24, if_pos (by decide), hat, if_pos z, ob_some, hC3.2.2.2.1, if_pos rfl]
          · have t1 : μ4 24 0 = (ax_w μ3 24 1 (μ3 22 3)) 24 0 := l2 24 0 rfl
            have t2 : μ3 24 0 = (ax_w μ2 24 0 (μ2 22 3)) 24 0 := d2 24 0 rfl
            rw [w_i (by decide), t1, w_i (by decide), t2, w_ss, hl1]
          · have t1 : μ4 24 1 = (ax_w μ3 24 1 (μ3 22 3)) 24 1 := l2 24 1 rfl
            rw [w_i (by decide), t1, w_ss, hl2]
        · refine ⟨_, hc3.w (k := 22) (i := 5) (v := 1) rfl, Or.inl ⟨j3, Or.inr (Or.inr (Or.inr ⟨j1, c1, j2, c2, j3, c3, g3, k3, m3, z, rfl⟩)), hf _ ?_⟩⟩
          have hj : j3 < 161 := by have := hC3.2.2.1; have := hC3.1.2.1; omega
          rw [hfs, e1, e2, e3, m_X3_fault_24, if_pos (by decide), hat, if_neg z, ob_some, w_ss, if_neg (by decide), w_i (by decide), hC3.2.2.2.2.1, ix_nI hj (by decide), ob_some, w_k (by decide), (hC3.1.2.2.1 j3 hC3.2.2.1).2]
      · have e3 := f24_s (n := 999996 + 1) (show 2 < 3 by omega) l1
        obtain ⟨μ5, n1, n2⟩ := f24_w 0 3 (999996 + 1) (ax_w μ4 24 2 (μ4 22 3)) (by omega) (by omega) m1.e24
        refine ⟨μ5, ((hc2.tr (sfG l2)).w (k := 24) rfl).tr n2, Or.inl ⟨jf, Or.inr (Or.inr (Or.inl ⟨j1, c1, j2, c2, g3, k3, m2⟩)), hf _ ?_⟩⟩
        rw [hfs, e1, e2, e3]
        exact n1
    · have e2 := f24_s (n := 999996 + 1 + 1) (show 1 < 3 by omega) d1
      obtain ⟨μ5, n1, n2⟩ := f24_w 1 2 (999996 + 1 + 1) (ax_w μ3 24 1 (μ3 22 3)) (by omega) (by omega) k1.e24
      refine ⟨μ5, ((hc1.tr (sfG d2)).w (k := 24) rfl).tr n2, Or.inl ⟨jf, Or.inr (Or.inl ⟨j1, c1, g3, k2⟩), hf _ ?_⟩⟩
      rw [hfs, e1, e2]
      exact n1
  · have e1 := f24_s (n := 999996 + 1 + 1 + 1) (show 0 < 3 by omega) b1
    obtain ⟨μ5, n1, n2⟩ := f24_w 2 1 (999996 + 1 + 1 + 1) (ax_w μ2 24 0 (μ2 22 3)) (by omega) (by omega) g1.e24
    refine ⟨μ5, ((hc0.tr (sfG b2)).w (k := 24) rfl).tr n2, Or.inl ⟨jf, Or.inl g2, hf _ ?_⟩⟩
    rw [hfs, e1]
    exact n1
end
