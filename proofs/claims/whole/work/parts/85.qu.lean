/-! ===== both sides: over, rules, borders, league, freest, fold, share, mean ===== -/
theorem m_lay77 {n c : Nat} {d : Dt} {μ : ax_M} (h : RM n d μ) (hc : c < 36) : m_X10_over_77 (nI c) fu 0 0 μ = some (nI (s_num (fun r => s_lie d r c) n), μ) := by
  have hn := h.1
  obtain ⟨b, hb, hq⟩ := loopK (N := n) (fun k i (a : Int32) => m_X10_over_77 (nI c) k a (nI i) μ) (fun i a => a = nI (s_num (fun r => s_lie d r c) i)) (fun a => some (a, μ)) (by omega)
    (fun k i a hi hI => by
      subst hI
      refine ⟨_, ?_, rfl⟩
      show m_X10_over_77 (nI c) (k + 1) _ (nI i) μ = _
      rw [m_X10_over_77]
      simp only [h.2.1]
      rw [if_neg (by rw [nleL (by omega) (by omega)]; omega), m_lie h hi hc, ob_some, na1, na1, s_num]
      cases s_lie d i c <;> simp [bI])
    (fun k a hI => by
      show m_X10_over_77 (nI c) (k + 1) a (nI n) μ = _
      rw [m_X10_over_77]
      simp only [h.2.1]
      rw [if_pos (Int32.le_refl _)])
    0 rfl
  subst hb
  exact hq
theorem m_realm {μ : ax_M} {R : Nat → Option Nat} (hR : ∀ c, c < 36 → μ 68 c = rI (R c)) (x : Int32) : m_X10_rules_27 x fu 0 0 μ = some (s_set (fun c => decide (rI (R c) = x)) 36, μ) := by
  obtain ⟨b, hb, hq⟩ := loopK (N := 36) (fun k i (a : Int64) => m_X10_rules_27 x k a (nI i) μ) (fun i a => a = s_set (fun c => decide (rI (R c) = x)) i) (fun a => some (a, μ)) (by omega)
    (fun k i a hi hI => by
      subst hI
      refine ⟨_, ?_, rfl⟩
      show m_X10_rules_27 x (k + 1) _ (nI i) μ = _
      rw [m_X10_rules_27, if_neg (ge36 hi), ix_nI hi (by decide), ob_some, hR i hi, na1, s_set]
      by_cases e : rI (R i) = x <;> simp [e])
    (fun k a hI => by
      show m_X10_rules_27 x (k + 1) a (nI 36) μ = _
      rw [m_X10_rules_27, if_pos (by decide)])
    0 rfl
  subst hb
  exact hq
section
variable {n hr lw tx ts : Nat} {d : Dt} {F : Nat → Lw} {tb : Nat → Nat} {im : Im} {sh : Sh4} {μ μ2 : ax_M}
theorem b_over (h : K n d hr lw tx F ts tb im sh μ) (x1 x2 : Int32) : Bo (m_X9_over x1 x2) (m_X10_over x1 x2) μ := by
  rcases argc x1 with ⟨c, hc, rfl, l1⟩ | l0
  · obtain ⟨μ2, e1, e2, e3, e4, e5⟩ := h.look
    have i36 : ix 36 (nI c) = some c := ix_nI hc (by decide)
    by_cases x0 : x2 = 0
    · subst x0
      refine h.q (v := rI (RR d n hr c)) ⟨μ2, by simp [m_X9_over, c_cel, l1, bI, e1, i36, e4 c hc], e3⟩ fun μ' h' => ?_
      obtain ⟨μ3, f1, f2, f3, f4⟩ := h'.rl
      exact ⟨μ3, by simp [m_X10_over, m_cel, l1, bI, m_in, show s_in 0 0 3 = true by decide, f1, i36, f4 c hc, show ¬ (3 : Int32) ≤ 0 by decide], f3⟩
    · by_cases x1 : x2 = 1
      · subst x1
        refine h.q (v := s_fat d (RR d n hr c) c (nI hr)) ⟨μ2, by simp [m_X9_over, c_cel, l1, bI, e1, i36, e5 c hc], e3⟩ fun μ' h' => ?_
        obtain ⟨μ3, f1, f2, f3, f4⟩ := h'.rl
        obtain ⟨μ4, g1, g2⟩ := m_fat f2.rm f2.lm f4 (fun c r => RRn) hc
        rw [f2.h4] at g1
        exact ⟨μ4, by simp [m_X10_over, m_cel, l1, bI, m_in, show s_in 1 0 3 = true by decide, f1, g1, bind2_some, show ¬ (3 : Int32) ≤ 1 by decide], f3.tr (t2M g2)⟩
      · by_cases x3 : x2 = 2
        · subst x3
          have hv : ∀ b : Bool, ∀ μ' : ax_M, (if bI b = 0 then some ((0 : Int32), μ') else some (1, μ')) = some (bI b, μ') := fun b μ' => by cases b <;> rfl
          obtain ⟨μ3, g1, g2⟩ := c_let e2.rc e2.lc e4 (fun c r => RRn) hc
          rw [e2.h2] at g1
          refine h.q (v := bI (s_let d (RR d n hr c) c (nI hr))) ⟨μ3, by simp [m_X9_over, c_cel, l1, show ¬ bI true = 0 by decide, e1, g1, bind2_some, hv], e3.tr (s2C g2)⟩ fun μ' h' => ?_
          obtain ⟨μ3, f1, f2, f3, f4⟩ := h'.rl
          obtain ⟨μ4, g1, g2⟩ := m_let f2.rm f2.lm f4 (fun c r => RRn) hc
          rw [f2.h4] at g1
          exact ⟨μ4, by simp [m_X10_over, m_cel, l1, show ¬ bI true = 0 by decide, m_in, show s_in 2 0 3 = true by decide, f1, g1, bind2_some, show ¬ (3 : Int32) ≤ 2 by decide, hv], f3.tr (t2M g2)⟩
        · by_cases x4 : x2 = 3
          · subst x4
            refine h.q (v := nI (s_num (fun r => s_lie d r c) n)) ⟨μ2, by simp [m_X9_over, c_cel, l1, bI, e1, c_layers e2.rc hc], e3⟩ fun μ' h' => ?_
            obtain ⟨μ3, f1, f2, f3, f4⟩ := h'.rl
            exact ⟨μ3, by simp [m_X10_over, m_cel, l1, bI, m_in, show s_in 3 0 3 = true by decide, f1, m_lay77 f2.rm hc], f3⟩
          · have hs : s_in x2 0 3 = false := by
              rcases argb x2 3 3 4 rfl rfl (by decide) with ⟨p, hp, rfl, -⟩ | ⟨b0, -⟩
              · exfalso
                have : p = 0 ∨ p = 1 ∨ p = 2 ∨ p = 3 := by omega
                rcases this with rfl | rfl | rfl | rfl
                · exact x0 rfl
                · exact x1 rfl
                · exact x3 rfl
                · exact x4 rfl
              · exact b0
            refine h.q (v := -7) ⟨μ2, by simp [m_X9_over, c_cel, l1, bI, e1, x0, x1, x3, x4], e3⟩ fun μ' h' => ?_
            exact ⟨μ', by simp [m_X10_over, m_cel, l1, bI, m_in, hs], Ch.rf⟩
  · exact h.no (-5) (by simp [m_X9_over, c_cel, l0, bI]) (by simp [m_X10_over, m_cel, l0, bI])
theorem b_rules (h : K n d hr lw tx F ts tb im sh μ) (x1 : Int32) : Bo (m_X9_rules x1) (m_X10_rules x1) μ := by
  have hcl : ∃ μ2, m_X9_rules_20 x1 μ = some (s_set (fun c => decide (rI (RR d n hr c) = x1)) 36, μ2) ∧ Ch SC μ μ2 := by
    obtain ⟨μ2, e1, e2, e3, e4⟩ := h.frs
    exact ⟨μ2, by unfold m_X9_rules_20; rw [e1, ob_some, c_realm e4, ob_some], e3⟩
  have hml : ∀ μ', K n d hr lw tx F ts tb im sh μ' → ∃ μ3, m_X10_rules_17 x1 μ' = some (s_set (fun c => decide (rI (RR d n hr c) = x1)) 36, μ3) ∧ Ch SM μ' μ3 := fun μ' h' => by
    obtain ⟨μ3, f1, f2, f3, f4⟩ := h'.rl
    exact ⟨μ3, by unfold m_X10_rules_17; rw [f1, ob_some, m_realm f4], f3⟩
  by_cases e : x1 = -1
  · have h1 : m_X9_rules x1 = m_X9_rules_20 x1 := funext fun μ => by unfold m_X9_rules; rw [if_pos e]
    have h2 : m_X10_rules x1 = m_X10_rules_17 x1 := funext fun μ => by unfold m_X10_rules; rw [if_pos e]
    rw [h1, h2]
    exact h.q hcl hml
  · cases hz : s_rug n x1 with
    | false => exact h.no (-4611686018427387904) (by unfold m_X9_rules; rw [if_neg e, c_rug h.rc.2.1, hz, ob_some, if_pos (by decide)]) (by unfold m_X10_rules; rw [if_neg e, m_rug h.n6 h.rm.2.1, hz, ob_some, if_pos (by decide)])
    | true =>
      refine h.q (v := s_set (fun c => decide (rI (RR d n hr c) = x1)) 36) ?_ fun μ' h' => ?_
      · obtain ⟨μ2, e1, e2⟩ := hcl
        exact ⟨μ2, by unfold m_X9_rules; rw [if_neg e, c_rug h.rc.2.1, hz, ob_some, if_neg (by decide), e1], e2⟩
      · obtain ⟨μ2, e1, e2⟩ := hml μ' h'
        exact ⟨μ2, by unfold m_X10_rules; rw [if_neg e, m_rug h'.n6 h'.rm.2.1, hz, ob_some, if_neg (by decide), e1], e2⟩
theorem b_borders (h : K n d hr lw tx F ts tb im sh μ) (x1 : Int32) : Bo (m_X9_borders x1) (m_X10_borders x1) μ := by
  rcases argr n x1 h.n6 with ⟨r, hr', rfl, k1⟩ | k0
  · refine h.q (v := mkA (s_nb (RR d n hr) r) n) ?_ fun μ' h' => ?_
    · obtain ⟨μ2, e1, e2, e3, e4⟩ := h.frs
      exact ⟨μ2, by simp [m_X9_borders, c_rug h.rc.2.1, k1, bI, e1, c_nb h.n6 e4 (fun c r => RRn) hr'], e3⟩
    · obtain ⟨μ2, e1, e2, e3, e4⟩ := h'.rl
      exact ⟨μ2, by simp [m_X10_borders, m_rug h'.n6 h'.rm.2.1, k1, bI, e1, m_nb h.n6 e4 (fun c r => RRn) hr'], e3⟩
  · exact h.no (-5) (by simp [m_X9_borders, c_rug h.rc.2.1, k0, bI]) (by simp [m_X10_borders, m_rug h.n6 h.rm.2.1, k0, bI])
theorem in01 {x : Int32} (h0 : ¬ x = 0) (h1 : ¬ x = 1) : s_in x 0 1 = false := by
  rcases argb x 1 1 2 rfl rfl (by decide) with ⟨p, hp, rfl, -⟩ | ⟨b0, -⟩
  · exfalso
    have : p = 0 ∨ p = 1 := by omega
    rcases this with rfl | rfl
    · exact h0 rfl
    · exact h1 rfl
  · exact b0
theorem in01' {x : Int32} (h : x = 0 ∨ x = 1) : s_in x 0 1 = true := by rcases h with rfl | rfl <;> decide
theorem b_league (h : K n d hr lw tx F ts tb im sh μ) (x1 x2 : Int32) : Bo (m_X9_league x1 x2) (m_X10_league x1 x2) μ := by
  rcases argr n x1 h.n6 with ⟨r, hr', rfl, k1⟩ | k0
  · by_cases hx : x2 = 0 ∨ x2 = 1
    · refine h.q (v := if x2 = 0 then mkA (s_it (RR d n hr) n 6 (s_st (RR d n hr) r)) n else s_cnts (RR d n hr) (s_it (RR d n hr) n 6 (s_st (RR d n hr) r))) ?_ fun μ' h' => ?_
      · obtain ⟨μ2, e1, e2, e3, e4⟩ := h.frs
        have hj := c_join h.n6 e2.rc.2.1 e4 (fun c r => RRn) hr'
        have hy := c_rby h.n6 e4 (fun c r => RRn) (s_it (RR d n hr) n 6 (s_st (RR d n hr) r))
        refine ⟨μ2, ?_, e3⟩
        have hz : m_X9_league_26 (nI r) x2 μ = some (if x2 = 0 then mkA (s_it (RR d n hr) n 6 (s_st (RR d n hr) r)) n else s_cnts (RR d n hr) (s_it (RR d n hr) n 6 (s_st (RR d n hr) r)), μ2) := by
          unfold m_X9_league_26 s_cnts
          rw [e1, ob_some, hj, ob_some]
          by_cases x0 : x2 = 0
          · rw [if_pos x0, if_pos x0]
          · rw [if_neg x0, if_neg x0, hy, ob_some]
        unfold m_X9_league
        rw [c_rug h.rc.2.1, k1, ob_some, if_neg (by decide), hz]
        rcases hx with rfl | rfl
        · rw [if_pos rfl]
        · rw [if_neg (by decide), if_pos rfl]
      · obtain ⟨μ2, e1, e2, e3, e4⟩ := h'.rl
        refine ⟨μ2, ?_, e3⟩
        unfold m_X10_league
        rw [m_rug h'.n6 h'.rm.2.1, k1, ob_some, if_neg (by decide), m_in, ob_some, in01' hx, if_neg (by decide), e1, ob_some, m_cnt h.n6 e4 (fun c r => RRn) hr', ob_some]
        exact m_lg h.n6 e2.rm.2.1 e4 (fun c r => RRn) hr' x2
    · have h0 : ¬ x2 = 0 := fun z => hx (Or.inl z)
      have h1 : ¬ x2 = 1 := fun z => hx (Or.inr z)
      exact h.no (-7) (by simp [m_X9_league, c_rug h.rc.2.1, k1, bI, h0, h1]) (by simp [m_X10_league, m_rug h.n6 h.rm.2.1, k1, bI, m_in, in01 h0 h1])
  · exact h.no (-5) (by simp [m_X9_league, c_rug h.rc.2.1, k0, bI]) (by simp [m_X10_league, m_rug h.n6 h.rm.2.1, k0, bI])
theorem b_freest (h : K n d hr lw tx F ts tb im sh μ) (x1 : Int32) : Bo (m_X9_freest x1) (m_X10_freest x1) μ := by
  by_cases hx : x1 = 0 ∨ x1 = 1
  · refine h.q (v := s_pk x1 (s_bs (s_fr d n) 0 24)) ?_ fun μ' h' => ?_
    · obtain ⟨μ2, e1, e2⟩ := c_fre h.rc h.lc x1
      refine ⟨μ2, ?_, s2C e2⟩
      unfold m_X9_freest
      rw [e1]
      rcases hx with rfl | rfl
      · rw [if_pos rfl]
      · rw [if_neg (by decide), if_pos rfl]
    · obtain ⟨μ2, e1, e2⟩ := m_fre h'.rm h'.lm x1
      refine ⟨μ2, ?_, t3M e2⟩
      unfold m_X10_freest
      rw [m_in, ob_some, in01' hx, if_neg (by decide)]
      exact e1
  · have h0 : ¬ x1 = 0 := fun z => hx (Or.inl z)
    have h1 : ¬ x1 = 1 := fun z => hx (Or.inr z)
    exact h.no (-2) (by simp [m_X9_freest, h0, h1]) (by simp [m_X10_freest, m_in, in01 h0 h1, bI])
theorem b_fold (h : K n d hr lw tx F ts tb im sh μ) (x1 : Int32) : Bo (m_X9_fold x1) (m_X10_fold x1) μ := by
  by_cases hx : x1 = 0 ∨ x1 = 1
  · refine h.q (v := s_pk x1 (s_bs (s_fo d n (nI hr)) 0 n)) ?_ fun μ' h' => ?_
    · obtain ⟨μ2, e1, e2⟩ := c_fld h.rc h.lc x1
      rw [h.h2] at e1
      refine ⟨μ2, ?_, s2C e2⟩
      unfold m_X9_fold
      rw [e1]
      rcases hx with rfl | rfl
      · rw [if_pos rfl]
      · rw [if_neg (by decide), if_pos rfl]
    · obtain ⟨v, μ1, μ2, e0, e1, e2⟩ := m_fld h'.rm h'.lm x1
      rw [h'.h4] at e1
      refine ⟨μ2, ?_, t3M e2⟩
      unfold m_X10_fold
      rw [m_in, ob_some, in01' hx, if_neg (by decide), e0, bind2_some]
      exact e1
  · have h0 : ¬ x1 = 0 := fun z => hx (Or.inl z)
    have h1 : ¬ x1 = 1 := fun z => hx (Or.inr z)
    exact h.no (-2) (by simp [m_X9_fold, h0, h1]) (by simp [m_X10_fold, m_in, in01 h0 h1, bI])
theorem b_share (h : K n d hr lw tx F ts tb im sh μ) (x1 x2 : Int32) : Bo (m_X9_share x1 x2) (m_X10_share x1 x2) μ := by
  rcases argr n x1 h.n6 with ⟨r, hr', rfl, k1⟩ | k0
  · rcases argb x2 1 1 2 rfl rfl (by decide) with ⟨p, hp, rfl, g1, g2, g3, g4, g5, g6⟩ | ⟨b0, b1⟩
    · obtain ⟨j, hj, ej⟩ := cnt_small (RR d n hr) r
      have hp2 : nI p = 0 ∨ nI p = 1 := by
        have : p = 0 ∨ p = 1 := by omega
        rcases this with rfl | rfl
        · exact Or.inl rfl
        · exact Or.inr rfl
      refine h.q (v := s_low j 36 (nI p)) ?_ fun μ' h' => ?_
      · obtain ⟨μ2, e1, e2⟩ := c_rnow2 h.rc h.lc hr'
        rw [h.h2, ej] at e1
        refine ⟨μ2, ?_, s3C e2⟩
        unfold m_X9_share
        rw [c_rug h.rc.2.1, k1, ob_some, if_neg (by decide), if_neg g2, if_pos g5, e1, bind2_some, show (36 : Int32) = nI 36 from rfl, c_lowt μ2 (by omega) (by decide) (by decide) hp2, ob_some]
      · obtain ⟨μ2, e1, e2⟩ := m_rnow h'.rm h'.lm hr'
        rw [h'.h4, ej] at e1
        refine ⟨μ2, ?_, t3M e2⟩
        unfold m_X10_share
        rw [m_rug h'.n6 h'.rm.2.1, k1, ob_some, if_neg (by decide), m_in, ob_some, g1, if_neg (by decide), e1, bind2_some, nI_l (by omega), show (36 : Int64) = lN 36 from rfl, m_lowt μ2 (by omega) (by decide) (by decide) hp2, ob_some]
    · exact h.no (-4611686018427387904) (by rcases b1 with b | ⟨b2, b3, b4, b5, b6⟩ <;> simp [m_X9_share, c_rug h.rc.2.1, k1, bI, *]) (by simp [m_X10_share, m_rug h.n6 h.rm.2.1, k1, m_in, b0, bI])
  · exact h.no (-4611686018427387904) (by simp [m_X9_share, c_rug h.rc.2.1, k0, bI]) (by simp [m_X10_share, m_rug h.n6 h.rm.2.1, k0, bI])
theorem b_mean (h : K n d hr lw tx F ts tb im sh μ) (x1 x2 : Int32) : Bo (m_X9_mean x1 x2) (m_X10_mean x1 x2) μ := by
  rcases argr n x1 h.n6 with ⟨r, hr', rfl, k1⟩ | k0
  · rcases argb x2 1 1 2 rfl rfl (by decide) with ⟨p, hp, rfl, g1, g2, g3, g4, g5, g6⟩ | ⟨b0, b1⟩
    · obtain ⟨j, hj, ej⟩ := cnt_small (RR d n hr) r
      have hp2 : nI p = 0 ∨ nI p = 1 := by
        have : p = 0 ∨ p = 1 := by omega
        rcases this with rfl | rfl
        · exact Or.inl rfl
        · exact Or.inr rfl
      obtain ⟨q, hq, eq⟩ := sum_small (g := fun c => if rI (RR d n hr c) = nI r then s_fat d (RR d n hr c) c (nI hr) else 0) (b := 250) (fun i => by
        by_cases e : rI (RR d n hr i) = nI r
        · rw [if_pos e]
          exact fat_small i (nI hr) (fun r hr => (h.1.2.2.2.2.1 r hr).2.1) fun r => RRn
        · rw [if_neg e]
          exact ⟨0, by omega, rfl⟩) 36
      refine h.q (v := if j = 0 then -4611686018427387904 else s_low q j (nI p)) ?_ fun μ' h' => ?_
      · obtain ⟨μ2, e1, e2, e3, e4, e5⟩ := h.look
        refine ⟨μ2, ?_, e3⟩
        unfold m_X9_mean
        rw [c_rug h.rc.2.1, k1, ob_some, if_neg (by decide), if_neg g2, if_pos g5, e1, ob_some, c_cnt h.n6 e4 (fun c r => RRn) hr', ob_some, ej]
        simp only [show (nI j = 0) = (j = 0) from neqL (k := 0) (by omega) (by decide)]
        by_cases e : j = 0
        · rw [if_pos e, if_pos e]
        · rw [if_neg e, if_neg e, c_frealm e4 e5, ob_some, eq, c_lowt μ2 (by omega) (by omega) (by omega) hp2, ob_some]
      · obtain ⟨μ2, e1, e2, e3, e4⟩ := h'.rl
        obtain ⟨μ3, f1, f2⟩ := m_mn (x := r) e2.rm e2.lm e4 (fun c r => RRn) (nI p) (nI j)
        refine ⟨μ3, ?_, e3.tr (t2M f2)⟩
        unfold m_X10_mean
        rw [m_rug h'.n6 h'.rm.2.1, k1, ob_some, if_neg (by decide), m_in, ob_some, g1, if_neg (by decide), e1, ob_some, m_cnt h.n6 e4 (fun c r => RRn) hr', ob_some, ej, f1, e2.h4, eq]
        simp only [show (nI j = 0) = (j = 0) from neqL (k := 0) (by omega) (by decide)]
        by_cases e : j = 0
        · rw [if_pos e, if_pos e]
        · rw [if_neg e, if_neg e, nI_l (by omega), nI_l (by omega), m_lowt μ3 (by omega) (by omega) (by omega) hp2, ob_some]
    · exact h.no (-4611686018427387904) (by rcases b1 with b | ⟨b2, b3, b4, b5, b6⟩ <;> simp [m_X9_mean, c_rug h.rc.2.1, k1, bI, *]) (by simp [m_X10_mean, m_rug h.n6 h.rm.2.1, k1, m_in, b0, bI])
  · exact h.no (-4611686018427387904) (by simp [m_X9_mean, c_rug h.rc.2.1, k0, bI]) (by simp [m_X10_mean, m_rug h.n6 h.rm.2.1, k0, bI])
end
