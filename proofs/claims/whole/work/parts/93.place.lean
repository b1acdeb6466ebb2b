/-! ===== place in the model; both sides ===== -/
def Tp (k i : Nat) : Bool := k == 66 || k == 67 || k == 68 || (k == 54 && i % 3 != 2)
theorem TpL (k i : Nat) (h : k = 56 ∨ k = 57 ∨ (k = 51 ∧ i = 10)) : Tp k i = false := by simp [Tp]; omega
theorem LM.ch2 {d : Dt} {μ μ2 : ax_M} {S : Nat → Nat → Bool} (h : LM d μ) (hc : Ch S μ μ2) (hS : ∀ k i, (k = 56 ∨ k = 57 ∨ (k = 51 ∧ i = 10)) → S k i = false) : LM d μ2 := by
  intro μ1 a b c p hp
  exact h μ1 (by rw [a]; exact funext fun i => hc 56 i (hS 56 i (by omega))) (by rw [b]; exact funext fun i => hc 57 i (hS 57 i (by omega))) (by rw [c]; exact hc 51 10 (hS 51 10 (by omega))) p hp
section
variable {n hr lw tx ts : Nat} {d : Dt} {F : Nat → Lw} {tb : Nat → Nat} {im : Im} {sh : Sh4} {μ μ2 : ax_M}
theorem m_plc {r : Nat} (h : RM n d μ) (hl : LM d μ) (hr : r < n) (x2 : Int32) : ∃ μ2, m_X10_place_77 (nI r) x2 (nI (d_a d r)) (nI (d_b d r)) (nI (d_b d r % 6 - d_a d r % 6)) (nI (d_b d r / 6 - d_a d r / 6)) fu (-1) 0 0 μ = some (s_pk x2 (s_pl d n (μ 51 4) r 0 36), μ2) ∧ RM n d μ2 ∧ Ch Tp μ μ2 := by
  have hn := h.1
  obtain ⟨-, -, c3, c4, -, h1, h2, h3, h4⟩ := h.2.2 r hr
  have i0 : ix 18 (nI (3 * r)) = some (3 * r) := ix_nI (by omega) (by decide)
  have i1 : ix 18 (nI (3 * r + 1)) = some (3 * r + 1) := ix_nI (by omega) (by decide)
  obtain ⟨b, hb, hq⟩ := loopK (N := 36) (fun k i (a : Int32 × Int32 × ax_M) => m_X10_place_77 (nI r) x2 (nI (d_a d r)) (nI (d_b d r)) (nI (d_b d r % 6 - d_a d r % 6)) (nI (d_b d r / 6 - d_a d r / 6)) k a.1 a.2.1 (nI i) a.2.2) (fun i a => (a.1, a.2.1) = s_pl d n (μ 51 4) r 0 i ∧ (∃ a' b', RM n (d_at d r a' b') a.2.2) ∧ Ch Tp μ a.2.2) (fun a => if x2 = 0 then some (a.1, ax_w (ax_w a.2.2 54 (3 * r) (nI (d_a d r))) 54 (3 * r + 1) (nI (d_b d r))) else some (a.2.1, ax_w (ax_w a.2.2 54 (3 * r) (nI (d_a d r))) 54 (3 * r + 1) (nI (d_b d r)))) (by omega)
    (fun k i a hi hI => by
      obtain ⟨x, y, μ1⟩ := a
      obtain ⟨hxy0, ⟨a', b', hR⟩, hch0⟩ := hI
      have hxy : (x, y) = s_pl d n (μ 51 4) r 0 i := hxy0
      have hch : Ch Tp μ μ1 := hch0
      have hR1 : RM n (d_at d r a' b') μ1 := hR
      clear hxy0 hch0 hR
      show ∃ a2, m_X10_place_77 (nI r) x2 (nI (d_a d r)) (nI (d_b d r)) (nI (d_b d r % 6 - d_a d r % 6)) (nI (d_b d r / 6 - d_a d r / 6)) (k + 1) x y (nI i) μ1 = _ ∧ _
      rw [m_X10_place_77, if_neg (ge36 hi), nr6 (by omega), nd6 (by omega), nI_add, nI_add, na1]
      have e6 : ((6 : Int32) ≤ nI (i % 6 + (d_b d r % 6 - d_a d r % 6))) = (6 ≤ i % 6 + (d_b d r % 6 - d_a d r % 6)) := nleL (a := 6) (by decide) (by omega)
      have e66 : ((6 : Int32) ≤ nI (i / 6 + (d_b d r / 6 - d_a d r / 6))) = (6 ≤ i / 6 + (d_b d r / 6 - d_a d r / 6)) := nleL (a := 6) (by decide) (by omega)
      simp only [e6, e66]
      have hfe := fit_eq (a := d_a d r) (b := d_b d r) (p := i) h3 h4
      by_cases f1 : 6 ≤ i % 6 + (d_b d r % 6 - d_a d r % 6)
      · rw [if_pos f1]
        have hf : s_fit (d_a d r) (d_b d r) i = false := by
          unfold s_fit
          have : ¬ i % 6 + (d_b d r % 6 - d_a d r % 6) < 6 := by omega
          simp [this]
        exact ⟨(x, y, μ1), rfl, by rw [s_pl_s, hf]; exact hxy, ⟨a', b', hR1⟩, hch⟩
      · obtain ⟨g1, g2, g3⟩ := hfe (by omega)
        rw [if_neg f1]
        by_cases f2 : 6 ≤ i / 6 + (d_b d r / 6 - d_a d r / 6)
        · rw [if_pos f2]
          have hf : s_fit (d_a d r) (d_b d r) i = false := by
            unfold s_fit
            have : ¬ i / 6 + (d_b d r / 6 - d_a d r / 6) < 6 := by omega
            simp [this]
          exact ⟨(x, y, μ1), rfl, by rw [s_pl_s, hf]; exact hxy, ⟨a', b', hR1⟩, hch⟩
        · rw [if_neg f2]
          have hlt : i + d_b d r - d_a d r < 36 := g1.2 (by omega)
          have hf : s_fit (d_a d r) (d_b d r) i = true := by
            unfold s_fit
            have t1 : i % 6 + (d_b d r % 6 - d_a d r % 6) < 6 := by omega
            have t2 := g1.1 hlt
            simp [t1, t2]
          have hw : nI i + nI (d_b d r % 6 - d_a d r % 6) + (6 : Int32) * nI (d_b d r / 6 - d_a d r / 6) = nI (i + d_b d r - d_a d r) := by
            rw [show (6 : Int32) * nI (d_b d r / 6 - d_a d r / 6) = nI (6 * (d_b d r / 6 - d_a d r / 6)) from pk_mul 6 _, nI_add, nI_add]
            congr 1
            omega
          obtain ⟨p2, p3⟩ := m_lay hR1 hr (a := i) (b := i + d_b d r - d_a d r) hi (by omega) (by omega) (by omega)
          have p2' : RM n (d_at d r i (i + d_b d r - d_a d r)) (ax_w (ax_w μ1 54 (3 * r) (nI i)) 54 (3 * r + 1) (nI (i + d_b d r - d_a d r))) := by
            have : d_at (d_at d r a' b') r i (i + d_b d r - d_a d r) = d_at d r i (i + d_b d r - d_a d r) := d_at_at
            rw [← this]
            exact p2
          have hch2 : Ch Tp μ (ax_w (ax_w μ1 54 (3 * r) (nI i)) 54 (3 * r + 1) (nI (i + d_b d r - d_a d r))) := hch.tr (p3.mono fun k i e => by simp [Tp, Tr] at *; omega)
          rw [n3, na1, i0, i1, ob_some, ob_some, hw]
          generalize ax_w (ax_w μ1 54 (3 * r) (nI i)) 54 (3 * r + 1) (nI (i + d_b d r - d_a d r)) = μ2 at *
          have hl2 : LM (d_at d r i (i + d_b d r - d_a d r)) μ2 := (hl.ch2 hch2 TpL).sr
          obtain ⟨μ3, q1, q2⟩ := m_rnow p2' hl2 hr
          have e25 : μ2 51 4 = μ 51 4 := hch2 51 4 rfl
          rw [e25] at q1
          rw [q1, bind2_some]
          have hch3 : Ch Tp μ μ3 := hch2.tr (q2.mono fun k i e => by simp [Tp, T3] at *; omega)
          have hR3 : RM n (d_at d r i (i + d_b d r - d_a d r)) μ3 := p2'.ch q2 T3N
          have hvs : s_cnt (s_rul (d_at d r i (i + d_b d r - d_a d r)) n (s_awk (d_at d r i (i + d_b d r - d_a d r)) (μ 51 4))) r = s_plv d n (μ 51 4) r i := rfl
          rw [hvs]
          have hco : m_X10_cornersOf (nI r) μ3 = some (s_plc d r i) := by
            unfold m_X10_cornersOf
            obtain ⟨-, -, t3, t4, -⟩ := hR3.2.2 r hr
            have t3' : μ3 54 (3 * r) = nI i := by rw [t3]; simp [d_at, d_sr, d_a, s_pt]
            have t4' : μ3 54 (3 * r + 1) = nI (i + d_b d r - d_a d r) := by rw [t4]; simp [d_at, d_sr, d_b, s_pt]
            rw [n3, na1, i0, i1, ob_some, ob_some, t3', t4', show (100 : Int32) * nI i = nI (100 * i) from pk_mul 100 i, nI_add]
            rfl
          have hx : x = (s_pl d n (μ 51 4) r 0 i).1 := by rw [← hxy]
          have hy : y = (s_pl d n (μ 51 4) r 0 i).2 := by rw [← hxy]
          unfold m_X10_place_166 m_X10_place_183
          rw [na1 i]
          by_cases e1 : x = -1
          · rw [if_pos e1, if_neg (by decide), hco, ob_some, if_neg (by decide)]
            exact ⟨(s_plc d r i, s_plv d n (μ 51 4) r i, μ3), rfl, by show (s_plc d r i, s_plv d n (μ 51 4) r i) = _; rw [s_pl_s, if_pos hf, if_pos (by rw [← hx]; exact e1)], ⟨_, _, hR3⟩, hch3⟩
          · rw [if_neg e1]
            by_cases e3 : s_plv d n (μ 51 4) r i ≤ y
            · rw [if_pos e3, if_pos rfl, if_pos rfl]
              exact ⟨(x, y, μ3), rfl, by rw [s_pl_s, if_pos hf, if_neg (by rw [← hx]; exact e1), if_pos (by rw [← hy]; exact e3)]; exact hxy, ⟨_, _, hR3⟩, hch3⟩
            · rw [if_neg e3, if_neg (by decide), hco, ob_some, if_neg (by decide)]
              exact ⟨(s_plc d r i, s_plv d n (μ 51 4) r i, μ3), rfl, by show (s_plc d r i, s_plv d n (μ 51 4) r i) = _; rw [s_pl_s, if_pos hf, if_neg (by rw [← hx]; exact e1), if_neg (by rw [← hy]; exact e3)], ⟨_, _, hR3⟩, hch3⟩)
    (fun k a hI => by
      show m_X10_place_77 (nI r) x2 (nI (d_a d r)) (nI (d_b d r)) (nI (d_b d r % 6 - d_a d r % 6)) (nI (d_b d r / 6 - d_a d r / 6)) (k + 1) a.1 a.2.1 (nI 36) a.2.2 = _
      rw [m_X10_place_77, if_pos (by decide), n3, na1, i0, i1, ob_some, ob_some])
    (-1, 0, μ) ⟨rfl, ⟨d_a d r, d_b d r, by rw [d_at_self]; exact h⟩, Ch.rf⟩
  obtain ⟨k1, ⟨a', b', k2⟩, k3⟩ := hb
  obtain ⟨p2, p3⟩ := m_lay k2 hr h1 h2 h3 h4
  have p2' : RM n d (ax_w (ax_w b.2.2 54 (3 * r) (nI (d_a d r))) 54 (3 * r + 1) (nI (d_b d r))) := by
    have hh : RM n (d_at (d_at d r a' b') r (d_a d r) (d_b d r)) (ax_w (ax_w b.2.2 54 (3 * r) (nI (d_a d r))) 54 (3 * r + 1) (nI (d_b d r))) := p2
    rw [d_at_at, d_at_self] at hh
    exact hh
  refine ⟨_, ?_, p2', k3.tr (p3.mono fun k i e => by simp [Tp, Tr] at *; omega)⟩
  rw [show m_X10_place_77 (nI r) x2 (nI (d_a d r)) (nI (d_b d r)) (nI (d_b d r % 6 - d_a d r % 6)) (nI (d_b d r / 6 - d_a d r / 6)) fu (-1) 0 0 μ = _ from hq, ← k1]
  unfold s_pk
  by_cases e : x2 = 0 <;> simp [e]
theorem b_place (h : K n d hr lw tx F ts tb im sh μ) (x1 x2 : Int32) : Bo (m_X9_place x1 x2) (m_X10_place x1 x2) μ := by
  rcases argr n x1 h.n6 with ⟨r, hr', rfl, k1⟩ | k0
  · by_cases hx : x2 = 0 ∨ x2 = 1
    · have h6 := h.n6
      obtain ⟨μ2, e1, e2, e3⟩ := c_plc h.rc h.lc hr' x2
      rw [h.h2] at e1
      have e3R : Ch SR μ μ2 := e3.mono fun k i e => by simp [SR, SC, Sp] at *; omega
      have hC := h.2.1.upr h.x6 e3R (n2 := n) (d2 := d) (hr2 := hr) (lw2 := lw) ⟨e2, by rw [e3 25 2 rfl]; exact h.h2, by rw [e3 25 3 rfl]; exact h.2.1.1.2.2⟩
      have h' : K n d hr lw tx F ts tb im sh μ2 := ⟨h.1, hC, h.2.2.off e3R⟩
      obtain ⟨-, -, c3, c4, -, g1, g2, g3, g4⟩ := h'.rm.2.2 r hr'
      obtain ⟨μ3, f1, f2, f3⟩ := m_plc h'.rm h'.lm hr' x2
      rw [h'.h4] at f1
      have f3Q : Ch SQ μ2 μ3 := f3.mono fun k i e => by simp [SQ, SM, Tp] at *; omega
      refine ⟨s_pk x2 (s_pl d n (nI hr) r (-1) 36), μ2, μ3, ?_, ?_, (h.upr (n2 := n) (d2 := d) (hr2 := hr) (lw2 := lw) e3R hC.1 f3Q ⟨f2, by rw [f3 51 4 rfl]; exact h'.h4, by rw [f3 51 10 rfl]; exact h'.2.2.1.2.2⟩ h.1).x⟩
      · unfold m_X9_place
        rw [c_rug h.rc.2.1, k1, ob_some, if_neg (by decide), e1]
        rcases hx with rfl | rfl
        · rw [if_pos rfl]
        · rw [if_neg (by decide), if_pos rfl]
      · have i0 : ix 18 (nI (3 * r)) = some (3 * r) := ix_nI (by omega) (by decide)
        have i1 : ix 18 (nI (3 * r + 1)) = some (3 * r + 1) := ix_nI (by omega) (by decide)
        unfold m_X10_place
        rw [m_rug h6 h'.rm.2.1, k1, ob_some, if_neg (by decide), m_in, in01' hx, ob_some, if_neg (by decide), n3, na1, i0, i1, ob_some, ob_some, c3, c4, nr6 (by omega), nr6 (by omega), nd6 (by omega), nd6 (by omega), pk_sub g3, pk_sub g4, f1, s_pl_z (z := 0) (z2 := -1) g1 g2 35]
    · have h0 : ¬ x2 = 0 := fun z => hx (Or.inl z)
      have h1 : ¬ x2 = 1 := fun z => hx (Or.inr z)
      exact h.no (-7) (by simp [m_X9_place, c_rug h.rc.2.1, k1, bI, h0, h1]) (by simp [m_X10_place, m_rug h.n6 h.rm.2.1, k1, bI, m_in, in01 h0 h1])
  · exact h.no (-5) (by simp [m_X9_place, c_rug h.rc.2.1, k0, bI]) (by simp [m_X10_place, m_rug h.n6 h.rm.2.1, k0, bI])
end
