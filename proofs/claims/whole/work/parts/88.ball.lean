/-! ===== ball, way, drawn, odds, both sides ===== -/
section
variable {n hr lw tx ts : Nat} {d : Dt} {F : Nat → Lw} {tb : Nat → Nat} {im : Im} {sh : Sh4} {μ μ2 : ax_M}
theorem x012 {p : Nat} (hp : p ≤ 2) : nI p = 0 ∨ nI p = 1 ∨ nI p = 2 := by
  have : p = 0 ∨ p = 1 ∨ p = 2 := by omega
  rcases this with rfl | rfl | rfl
  · exact Or.inl rfl
  · exact Or.inr (Or.inl rfl)
  · exact Or.inr (Or.inr rfl)
theorem begin_ok (n : Nat) (R : Nat → Option Nat) (G : Nat → Int32) (w : Nat → Nat) (μ : ax_M) : ∃ μ2, m_X5_begin μ = some μ2 ∧ JT n R G w 0 μ2 ∧ Ch St μ μ2 := by
  refine ⟨_, rfl, ⟨?_, ?_, ?_, ?_⟩, ?_⟩
  · simp [ax_w, s_sum]
  · simp [ax_w, s_wb, s_num]
    rfl
  · have : mkA (s_wm R w 0) n = 0 := by
      have e : s_wm R w 0 = fun _ => false := funext fun q => rfl
      rw [e]
      simp [mkA, mk6]
    rw [this]
    simp [ax_w]
  · simp [ax_w, s_pv, rI]
  · exact (((Ch.rf.w rfl).w rfl).w rfl).w rfl
theorem b_ball (h : K n d hr lw tx F ts tb im sh μ) (x1 x2 x3 : Int32) : Bo (m_X9_ball x1 x2 x3) (m_X10_ball x1 x2 x3) μ := by
  rcases argc x1 with ⟨c, hc, rfl, l1⟩ | l0
  · rcases argb x2 3 3 4 rfl rfl (by decide) with ⟨w, hw, rfl, g1, g2, g3, g4, g5, g6⟩ | ⟨b0, b1⟩
    · rcases argb x3 2 2 3 rfl rfl (by decide) with ⟨p, hp, rfl, j1, j2, j3, j4, j5, j6⟩ | ⟨b0, b1⟩
      · refine h.q (v := s_ba n (RR d n hr) (fun c => s_fat d (RR d n hr c) c (nI hr)) (s_ray c w) (s_ryn c w) (nI p)) ?_ fun μ' h' => ?_
        · obtain ⟨μ2, e1, e2, e3, e4, e5⟩ := h.look
          obtain ⟨μ3, f1, f2, f3⟩ := begin_ok n (RR d n hr) (fun c => s_fat d (RR d n hr c) c (nI hr)) (s_ray c w) μ2
          obtain ⟨μ4, k1, k2⟩ := c_ball (μ := μ3) h.n6 (fun c hc => by rw [f3 32 c rfl]; exact e4 c hc) (fun c hc => by rw [f3 33 c rfl]; exact e5 c hc) (fun c r => RRn) hc (show w < 4 by omega) (nI p) (x012 hp) f2
          refine ⟨μ4, ?_, (e3.tr (stC f3)).tr (stC k2)⟩
          unfold m_X9_ball
          rw [c_cel, l1, ob_some, if_neg (by decide), if_neg g2, if_neg g3, if_neg j2, if_pos j5, e1, ob_some, f1, ob_some, k1]
        · obtain ⟨μ2, e1, e2, e3, e4⟩ := h'.rl
          obtain ⟨μ3, f1, f2⟩ := m_ball e2.rm e2.lm e4 (fun c r => RRn) hc (show w < 4 by omega) (nI p) (x012 hp)
          rw [e2.h4] at f1
          refine ⟨μ3, ?_, e3.tr (t2M f2)⟩
          unfold m_X10_ball
          rw [m_cel, l1, ob_some, if_neg (by decide), m_in, ob_some, g1, if_neg (by decide), m_in, ob_some, j1, if_neg (by decide), e1, ob_some, f1]
      · exact h.no (-7) (by rcases b1 with b | ⟨b2, b3, b4, b5, b6⟩ <;> simp [m_X9_ball, c_cel, l1, bI, g2, g3, *]) (by simp [m_X10_ball, m_cel, l1, m_in, g1, b0, bI])
    · exact h.no (-7) (by rcases b1 with b | ⟨b2, b3, b4, b5, b6⟩ <;> simp [m_X9_ball, c_cel, l1, bI, *]) (by simp [m_X10_ball, m_cel, l1, m_in, b0, bI])
  · exact h.no (-5) (by simp [m_X9_ball, c_cel, l0, bI]) (by simp [m_X10_ball, m_cel, l0, bI])
theorem b_way (h : K n d hr lw tx F ts tb im sh μ) (x1 x2 : Int32) : Bo (m_X9_way x1 x2) (m_X10_way x1 x2) μ := by
  by_cases hx : x1 < 0
  · exact h.no (-2) (by simp [m_X9_way, hx]) (by simp [m_X10_way, m_in, in_neg hx, bI])
  · obtain ⟨v, hv, rfl⟩ := nI_of hx
    have hi : s_in (nI v) 0 3535 = decide (v ≤ 3535) := in_n (b := 3535) hv (by decide)
    have h36 : ((36 : Int32) ≤ nI (v % 100)) = (36 ≤ v % 100) := nleL (a := 36) (by decide) (by omega)
    by_cases hc : v / 100 < 36 ∧ v % 100 < 36
    · obtain ⟨hc1, hc2⟩ := hc
      rcases argb x2 2 2 3 rfl rfl (by decide) with ⟨p, hp, rfl, g1, g2, g3, g4, g5, g6⟩ | ⟨b0, b1⟩
      · have hfs : ∀ c, ∃ j, j ≤ 250 ∧ s_fat d (RR d n hr c) c (nI hr) = nI j := fun c => fat_small c (nI hr) (fun r hr => (h.1.2.2.2.2.1 r hr).2.1) fun r => RRn
        have hfn : ∀ c, s_fn (s_fat d (RR d n hr c) c (nI hr)) ≤ 250 ∧ s_fat d (RR d n hr c) c (nI hr) = nI (s_fn (s_fat d (RR d n hr c) c (nI hr))) := fun c => s_fn_ok (hfs c)
        obtain ⟨μ2, e1, e2, e3, e4, e5⟩ := h.look
        obtain ⟨o, μ3, f1, f2, f3⟩ := c_least (z := p) (st := v / 100) (g := v % 100) (fn := fun c => s_fn (s_fat d (RR d n hr c) c (nI hr))) e2.rc e2.lc e4 (fun c hc => by rw [e5 c hc]; exact (hfn c).2) (fun c => (hfn c).1) (fun c r => RRn) (by omega) hc2 hc1
        rw [e2.h2] at f2
        refine h.q (v := rI o) ⟨μ3, ?_, e3.tr (s6C f3)⟩ fun μ' h' => ?_
        · unfold m_X9_way
          rw [if_neg (nneg hv), nd100 hv, nr100 hv, c_cel, c_cel, ob_some, cel_n (by omega), if_neg (by simp [hc1, bI]), ob_some, cel_n (by omega), if_neg (by simp [hc2, bI]), if_neg g2, if_pos g5, e1, ob_some, f1, bind2_some]
        · obtain ⟨μ2, e1, e2, e3, e4⟩ := h'.rl
          obtain ⟨o2, μ3, f1, f4, f3⟩ := m_least (z := p) (st := v / 100) (g := v % 100) (fn := fun c => s_fn (s_fat d (RR d n hr c) c (nI hr))) e2.rm e2.lm e4 (fun c hc => by rw [e2.h4]; exact (hfn c).2) (fun c => (hfn c).1) (fun c r => RRn) (by omega) hc2 hc1
          rw [e2.h4] at f4
          rw [lst_one f2 f4]
          refine ⟨μ3, ?_, e3.tr (t8M f3)⟩
          rw [show 100 * (v / 100) + v % 100 = v by omega] at f1
          unfold m_X10_way
          rw [m_in, ob_some, hi, if_neg (by simp [bI]; omega), nr100 hv, if_neg (by rw [h36]; omega), m_in, ob_some, g1, if_neg (by decide), e1, ob_some, f1]
      · refine h.no (-2) ?_ ?_
        · unfold m_X9_way
          rw [if_neg (nneg hv), nd100 hv, nr100 hv, c_cel, c_cel, ob_some, cel_n (by omega), if_neg (by simp [hc1, bI]), ob_some, cel_n (by omega), if_neg (by simp [hc2, bI])]
          rcases b1 with b | ⟨b2, b3, b4, b5, b6⟩ <;> simp [*]
        · unfold m_X10_way
          rw [m_in, ob_some, hi, if_neg (by simp [bI]; omega), nr100 hv, if_neg (by rw [h36]; omega), m_in, ob_some, b0, if_pos (by decide)]
    · refine h.no (-2) ?_ ?_
      · unfold m_X9_way
        rw [if_neg (nneg hv), nd100 hv, nr100 hv, c_cel, c_cel, ob_some, cel_n (by omega), cel_n (by omega)]
        by_cases e1 : v / 100 < 36
        · have e2 : ¬ v % 100 < 36 := fun z => hc ⟨e1, z⟩
          rw [if_neg (by simp [e1, bI]), ob_some, if_pos (by simp [e2, bI])]
        · rw [if_pos (by simp [e1, bI])]
      · unfold m_X10_way
        rw [m_in, ob_some, hi, nr100 hv]
        by_cases e1 : v ≤ 3535
        · rw [if_neg (by simp [e1, bI]), if_pos (by rw [h36]; omega)]
        · rw [if_pos (by simp [e1, bI])]
theorem c_seed (x : Int32) (μ : ax_M) : m_X9_isSeed x μ = some (bI (s_in x 0 99999)) := by
  unfold m_X9_isSeed
  rcases argb x 99999 99999 100000 rfl rfl (by decide) with ⟨j, hj, rfl, g1, g2, g3, g4, g5, g6⟩ | ⟨b0, b1⟩
  · simp [g1, g2, g3, bI]
  · rcases b1 with b | ⟨b2, b3, b4, b5, b6⟩ <;> simp [*, bI]
theorem c_cst (x : Int32) (μ : ax_M) : m_X9_isCellSteps x μ = some (bI (s_in x 0 3599)) := by
  unfold m_X9_isCellSteps
  rcases argb x 3599 3599 3600 rfl rfl (by decide) with ⟨j, hj, rfl, g1, g2, g3, g4, g5, g6⟩ | ⟨b0, b1⟩
  · simp [g1, g2, g3, bI]
  · rcases b1 with b | ⟨b2, b3, b4, b5, b6⟩ <;> simp [*, bI]
theorem b_drawn (h : K n d hr lw tx F ts tb im sh μ) (x1 x2 x3 : Int32) : Bo (m_X9_drawn x1 x2 x3) (m_X10_drawn x1 x2 x3) μ := by
  rcases argb x1 99999 99999 100000 rfl rfl (by decide) with ⟨sd, hsd, rfl, a1, -⟩ | ⟨a0, -⟩
  · rcases argb x2 3599 3599 3600 rfl rfl (by decide) with ⟨v, hv, rfl, c1, -⟩ | ⟨c0, -⟩
    · obtain ⟨μ2, e1, e2, e3, e4, e5⟩ := h.look
      obtain ⟨μ3, f1, f2, f3, f4, f5⟩ := c_str (sd := sd) (c := v / 100) (m := v % 100) h.n6 e4 e5 (fun c r => RRn) (by omega) (by omega) (by omega)
      have hcl : m_X9_drawn (nI sd) (nI v) x3 μ = if x3 = 0 then some (μ3 38 2, μ3) else if x3 = 1 then some (μ3 38 1, μ3) else if x3 = 2 then some (μ3 38 3, μ3) else some (-2, μ3) := by
        unfold m_X9_drawn
        rw [c_seed, a1, ob_some, if_neg (by decide), c_cst, c1, ob_some, if_neg (by decide), e1, ob_some, nd100 (by omega), nr100 (by omega), f1, ob_some]
      have hch : Ch SC μ μ3 := e3.tr (s38C f5)
      rcases argb x3 2 2 3 rfl rfl (by decide) with ⟨p, hp, rfl, j1, j2, j3, j4, j5, j6⟩ | ⟨b0, b1⟩
      · refine h.q (v := if nI p = 0 then μ3 38 2 else if nI p = 1 then μ3 38 1 else μ3 38 3) ⟨μ3, ?_, hch⟩ fun μ' h' => ?_
        · rw [hcl]
          rcases x012 hp with e | e | e <;> simp [e]
        · obtain ⟨μ2, k1, k2, k3, k4⟩ := h'.rl
          obtain ⟨μ4, l1, l2, l3, l4, l5⟩ := m_wby (sd := sd) (c := v / 100) (m := v % 100) k2.rm k2.lm k4 (fun c r => RRn) (by omega) (by omega) (by omega)
          rw [show 100 * (v / 100) + v % 100 = v by omega] at l1
          rw [k2.h4] at l3
          refine ⟨μ4, ?_, k3.tr (t10M l5)⟩
          unfold m_X10_drawn
          rw [m_in, a1, ob_some, if_neg (by decide), m_in, c1, ob_some, if_neg (by decide), m_in, j1, ob_some, if_neg (by decide), k1, ob_some, l1, ob_some, f2, f3, f4, l2, l3, l4]
          rcases x012 hp with e | e | e <;> simp [e]
      · refine h.q (v := -2) ⟨μ3, ?_, hch⟩ fun μ' h' => ⟨μ', ?_, Ch.rf⟩
        · rw [hcl]
          have n0 : ¬ x3 = 0 := fun z => by rw [z] at b0; exact absurd b0 (by decide)
          have n1 : ¬ x3 = 1 := fun z => by rw [z] at b0; exact absurd b0 (by decide)
          have n2 : ¬ x3 = 2 := fun z => by rw [z] at b0; exact absurd b0 (by decide)
          rw [if_neg n0, if_neg n1, if_neg n2]
        · simp [m_X10_drawn, m_in, a1, c1, b0, bI]
    · exact h.no (-2) (by simp [m_X9_drawn, c_seed, a1, c_cst, c0, bI]) (by simp [m_X10_drawn, m_in, a1, c0, bI])
  · exact h.no (-2) (by simp [m_X9_drawn, c_seed, a0, bI]) (by simp [m_X10_drawn, m_in, a0, bI])
/-- how many of the seeds are fined so much -/
def s_dear (R : Nat → Option Nat) (G : Nat → Int32) (sd c m : Nat) (least : Int32) (k : Nat) : Nat := s_num (fun i => decide (¬ s_sum (fun j => G (s_at (sd + i + 1) c j)) m < least)) k
theorem c_od {sd z v : Nat} {x4 x5 : Int32} {R : Nat → Option Nat} {G : Nat → Int32} (hn : n ≤ 6) (hR : ∀ c, c < 36 → μ 32 c = rI (R c)) (hF : ∀ c, c < 36 → μ 33 c = G c) (hRn : ∀ c r, R c = some r → r < n) (hsd : sd ≤ 99999) (hz : z ≤ 40) (hz1 : 1 ≤ z) (hv : v ≤ 3599) (hx5 : x5 = 0 ∨ x5 = 1) :
    ∃ μ2, m_X9_odds_70 (nI sd) (nI z) (nI v) x4 x5 fu 0 0 μ = some (s_low (s_dear R G sd (v / 100) (v % 100) x4 z) z x5, μ2) ∧ Ch SC μ μ2 := by
  obtain ⟨b, hb, hq⟩ := loopK (N := z) (fun k i (a : Int32 × ax_M) => m_X9_odds_70 (nI sd) (nI z) (nI v) x4 x5 k a.1 (nI i) a.2) (fun i a => a.1 = nI (s_dear R G sd (v / 100) (v % 100) x4 i) ∧ Ch S38 μ a.2) (fun a => (m_X9_inLowestTerms a.1 (nI z) x5 a.2).bind fun w => some (w, a.2)) (by omega)
    (fun k i a hi hI => by
      obtain ⟨x, μ1⟩ := a
      obtain ⟨h1, h2⟩ := hI
      have hx : x = _ := h1
      have hch : Ch S38 μ μ1 := h2
      clear h1 h2
      subst hx
      show ∃ a2, m_X9_odds_70 (nI sd) (nI z) (nI v) x4 x5 (k + 1) _ (nI i) μ1 = _ ∧ _
      rw [m_X9_odds_70, if_neg (by rw [nleL (by omega) (by omega)]; omega), show nI sd + nI i = nI (sd + i) from nI_add sd i, nd100 (by omega), nr100 (by omega)]
      obtain ⟨μ3, f1, f2, f3, f4, f5⟩ := c_str (μ := μ1) (R := R) (F := G) (sd := sd + i) (c := v / 100) (m := v % 100) hn (fun c hc => by rw [hch 32 c rfl]; exact hR c hc) (fun c hc => by rw [hch 33 c rfl]; exact hF c hc) hRn (by omega) (by omega) (by omega)
      rw [f1, ob_some, f3, na1, na1]
      by_cases e : s_sum (fun j => G (s_at (sd + i + 1) (v / 100) j)) (v % 100) < x4
      · rw [if_pos e]
        refine ⟨(_, μ3), rfl, ?_, hch.tr f5⟩
        show _ = nI (s_num _ (i + 1))
        rw [s_num, if_neg (by simp [e])]
        rfl
      · rw [if_neg e]
        refine ⟨(_, μ3), rfl, ?_, hch.tr f5⟩
        show _ = nI (s_num _ (i + 1))
        rw [s_num, if_pos (by simp [e])]
        rfl)
    (fun k a hI => by
      show m_X9_odds_70 (nI sd) (nI z) (nI v) x4 x5 (k + 1) a.1 (nI z) a.2 = _
      rw [m_X9_odds_70, if_pos (Int32.le_refl _)])
    (0, μ) ⟨rfl, Ch.rf⟩
  have hle : s_dear R G sd (v / 100) (v % 100) x4 z ≤ z := s_num_le _ z
  refine ⟨b.2, ?_, s38C hb.2⟩
  rw [hb.1, c_lowt b.2 (by omega) (by omega) (by omega) hx5, ob_some] at hq
  exact hq
theorem m_od {sd z v : Nat} {x4 x5 : Int32} {R : Nat → Option Nat} {hh : Int32} (h : RM n d μ) (hl : LM d μ) (hR : ∀ c, c < 36 → μ 68 c = rI (R c)) (hRn : ∀ c r, R c = some r → r < n) (hh4 : μ 51 4 = hh) (hsd : sd ≤ 99999) (hz : z ≤ 40) (hz1 : 1 ≤ z) (hv : v ≤ 3599) (hx5 : x5 = 0 ∨ x5 = 1) :
    ∃ μ2, m_X10_odds_81 (nI sd) (nI z) (nI v) x4 x5 fu 0 0 μ = some (s_low (s_dear R (fun c => s_fat d (R c) c hh) sd (v / 100) (v % 100) x4 z) z x5, μ2) ∧ Ch SM μ μ2 := by
  subst hh4
  obtain ⟨b, hb, hq⟩ := loopK (N := z) (fun k i (a : Int64 × ax_M) => m_X10_odds_81 (nI sd) (nI z) (nI v) x4 x5 k a.1 (nI i) a.2) (fun i a => a.1 = lN (s_dear R (fun c => s_fat d (R c) c (μ 51 4)) sd (v / 100) (v % 100) x4 i) ∧ Ch T10 μ a.2) (fun a => (m_X10_lowest a.1 (nI z).toInt64 x5 a.2).bind fun w => some (w, a.2)) (by omega)
    (fun k i a hi hI => by
      obtain ⟨x, μ1⟩ := a
      obtain ⟨h1, h2⟩ := hI
      have hx : x = _ := h1
      have hch : Ch T10 μ μ1 := h2
      clear h1 h2
      subst hx
      show ∃ a2, m_X10_odds_81 (nI sd) (nI z) (nI v) x4 x5 (k + 1) _ (nI i) μ1 = _ ∧ _
      rw [m_X10_odds_81, if_neg (by rw [nleL (by omega) (by omega)]; omega), show nI sd + nI i = nI (sd + i) from nI_add sd i]
      obtain ⟨μ3, f1, f2, f3, f4, f5⟩ := m_wby (μ := μ1) (sd := sd + i) (c := v / 100) (m := v % 100) (h.ch hch T10N) (hl.ch hch T10N) (fun c hc => by rw [hch 68 c rfl]; exact hR c hc) hRn (by omega) (by omega) (by omega)
      rw [show 100 * (v / 100) + v % 100 = v by omega] at f1
      rw [hch 51 4 rfl] at f3
      rw [f1, ob_some, f3, na1]
      by_cases e : s_sum (fun j => s_fat d (R (s_at (sd + i + 1) (v / 100) j)) (s_at (sd + i + 1) (v / 100) j) (μ 51 4)) (v % 100) < x4
      · rw [if_pos e]
        refine ⟨(_, μ3), rfl, ?_, hch.tr f5⟩
        show _ = lN (s_num _ (i + 1))
        rw [s_num, if_neg (by simp [e])]
        exact Int64.add_zero _
      · rw [if_neg e]
        refine ⟨(_, μ3), rfl, ?_, hch.tr f5⟩
        show _ = lN (s_num _ (i + 1))
        rw [s_num, if_pos (by simp [e])]
        exact lN_add _ 1)
    (fun k a hI => by
      show m_X10_odds_81 (nI sd) (nI z) (nI v) x4 x5 (k + 1) a.1 (nI z) a.2 = _
      rw [m_X10_odds_81, if_pos (Int32.le_refl _)])
    (0, μ) ⟨rfl, Ch.rf⟩
  have hle : s_dear R (fun c => s_fat d (R c) c (μ 51 4)) sd (v / 100) (v % 100) x4 z ≤ z := s_num_le _ z
  refine ⟨b.2, ?_, t10M hb.2⟩
  rw [hb.1, nI_l (by omega), m_lowt b.2 (by omega) (by omega) (by omega) hx5, ob_some] at hq
  exact hq
theorem in1_40 (x : Int32) : (∃ z, 1 ≤ z ∧ z ≤ 40 ∧ x = nI z ∧ s_in x 1 40 = true ∧ ¬ x < 1 ∧ ¬ 40 < x) ∨ (s_in x 1 40 = false ∧ (x < 1 ∨ (¬ x < 1 ∧ 40 < x))) := by
  by_cases h1 : x < 1
  · exact Or.inr ⟨by simp [s_in, h1], Or.inl h1⟩
  · by_cases h2 : 40 < x
    · exact Or.inr ⟨by simp [s_in, h2], Or.inr ⟨h1, h2⟩⟩
    · have h0 : ¬ x < 0 := by
        rw [Int32.lt_iff_toInt_lt] at h1 ⊢
        have : (1 : Int32).toInt = 1 := by decide
        have : (0 : Int32).toInt = 0 := by decide
        omega
      obtain ⟨z, hz, rfl⟩ := nI_of h0
      rw [show (1 : Int32) = nI 1 from rfl, nltL hz (by decide)] at h1
      rw [show (40 : Int32) = nI 40 from rfl, nltL (by decide) hz] at h2
      refine Or.inl ⟨z, by omega, by omega, rfl, ?_, ?_, ?_⟩
      · unfold s_in
        rw [show (1 : Int32) = nI 1 from rfl, show (40 : Int32) = nI 40 from rfl]
        simp only [nltL hz (show 1 < 2 ^ 31 by decide), nltL (show 40 < 2 ^ 31 by decide) hz]
        simp [h1, h2]
      · rw [show (1 : Int32) = nI 1 from rfl, nltL hz (by decide)]; exact h1
      · rw [show (40 : Int32) = nI 40 from rfl, nltL (by decide) hz]; exact h2
theorem b_odds (h : K n d hr lw tx F ts tb im sh μ) (x1 x2 x3 x4 x5 : Int32) : Bo (m_X9_odds x1 x2 x3 x4 x5) (m_X10_odds x1 x2 x3 x4 x5) μ := by
  rcases argb x1 99999 99999 100000 rfl rfl (by decide) with ⟨sd, hsd, rfl, a1, -⟩ | ⟨a0, -⟩
  · rcases in1_40 x2 with ⟨z, hz1, hz, rfl, z1, z2, z3⟩ | ⟨z0, zb⟩
    · rcases argb x3 3599 3599 3600 rfl rfl (by decide) with ⟨v, hv, rfl, c1, -⟩ | ⟨c0, -⟩
      · rcases argb x4 99999 99999 100000 rfl rfl (by decide) with ⟨le, hle, rfl, d1, d2, d3, d4, d5, d6⟩ | ⟨d0, db⟩
        · rcases argb x5 1 1 2 rfl rfl (by decide) with ⟨p, hp, rfl, g1, g2, g3, g4, g5, g6⟩ | ⟨b0, b1⟩
          · have hp2 : nI p = 0 ∨ nI p = 1 := by
              have : p = 0 ∨ p = 1 := by omega
              rcases this with rfl | rfl
              · exact Or.inl rfl
              · exact Or.inr rfl
            refine h.q (v := s_low (s_dear (RR d n hr) (fun c => s_fat d (RR d n hr c) c (nI hr)) sd (v / 100) (v % 100) (nI le) z) z (nI p)) ?_ fun μ' h' => ?_
            · obtain ⟨μ2, e1, e2, e3, e4, e5⟩ := h.look
              obtain ⟨μ3, f1, f2⟩ := c_od (x4 := nI le) (x5 := nI p) h.n6 e4 e5 (fun c r => RRn) hsd hz hz1 hv hp2
              refine ⟨μ3, ?_, e3.tr f2⟩
              unfold m_X9_odds
              rw [c_seed, a1, ob_some, if_neg (by decide), if_neg z2, if_neg z3, c_cst, c1, ob_some, if_neg (by decide), if_neg d2, if_neg d6, if_neg g2, if_pos g5, e1, ob_some, f1]
            · obtain ⟨μ2, e1, e2, e3, e4⟩ := h'.rl
              obtain ⟨μ3, f1, f2⟩ := m_od (x4 := nI le) (x5 := nI p) e2.rm e2.lm e4 (fun c r => RRn) e2.h4 hsd hz hz1 hv hp2
              refine ⟨μ3, ?_, e3.tr f2⟩
              unfold m_X10_odds m_X10_odds_37
              rw [m_in, a1, ob_some, if_neg (by decide), m_in, z1, ob_some, if_neg (by decide), m_in, c1, ob_some, if_neg (by decide), if_neg (by decide), m_in, d1, ob_some, if_neg (by decide), m_in, g1, ob_some, if_neg (by decide), e1, ob_some, f1]
          · exact h.no (-4611686018427387904) (by rcases b1 with b | ⟨b2, b3, b4, b5, b6⟩ <;> simp [m_X9_odds, c_seed, c_cst, a1, z2, z3, c1, d2, d6, bI, *]) (by simp [m_X10_odds, m_X10_odds_37, m_in, a1, z1, c1, d1, b0, bI])
        · exact h.no (-4611686018427387904) (by rcases db with b | ⟨b2, b3, b4, b5, b6⟩ <;> simp [m_X9_odds, c_seed, c_cst, a1, z2, z3, c1, bI, *]) (by simp [m_X10_odds, m_X10_odds_37, m_in, a1, z1, c1, d0, bI])
      · exact h.no (-4611686018427387904) (by simp [m_X9_odds, c_seed, c_cst, a1, z2, z3, c0, bI]) (by simp [m_X10_odds, m_X10_odds_37, m_in, a1, z1, c0, bI])
    · exact h.no (-4611686018427387904) (by rcases zb with b | ⟨b2, b3⟩ <;> simp [m_X9_odds, c_seed, a1, bI, *]) (by simp [m_X10_odds, m_X10_odds_37, m_in, a1, z0, bI])
  · exact h.no (-4611686018427387904) (by simp [m_X9_odds, c_seed, a0, bI]) (by simp [m_X10_odds, m_X10_odds_37, m_in, a0, bI])
end
