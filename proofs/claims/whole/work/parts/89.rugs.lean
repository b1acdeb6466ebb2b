/-! ===== what changes the rugs: strikes, force, put, visit, image, back ===== -/
def SR (k i : Nat) : Bool := SC k i || (decide (25 ≤ k) && decide (k ≤ 31))
def SQ (k i : Nat) : Bool := SM k i || (k == 52 || k == 53 || k == 54) || (k == 51 && (i == 0 || i == 4 || i == 10))
theorem RC.fr {n : Nat} {d : Dt} {μ μ2 : ax_M} (h : RC n d μ) (h1 : μ2 25 1 = μ 25 1) (e : ∀ k i, 26 ≤ k → k ≤ 31 → μ2 k i = μ k i) : RC n d μ2 := by
  obtain ⟨a1, a2, a3⟩ := h
  refine ⟨a1, h1.trans a2, fun r hr => ?_⟩
  rw [e 26 r (by omega) (by omega), e 27 r (by omega) (by omega), e 28 r (by omega) (by omega), e 29 r (by omega) (by omega), e 30 r (by omega) (by omega), e 31 r (by omega) (by omega)]
  exact a3 r hr
theorem RM.fr {n : Nat} {d : Dt} {μ μ2 : ax_M} (h : RM n d μ) (h0 : μ2 51 0 = μ 51 0) (e : ∀ k i, 52 ≤ k → k ≤ 54 → μ2 k i = μ k i) : RM n d μ2 := by
  obtain ⟨a1, a2, a3⟩ := h
  refine ⟨a1, h0.trans a2, fun r hr => ?_⟩
  rw [e 52 r (by omega) (by omega), e 53 r (by omega) (by omega), e 54 _ (by omega) (by omega), e 54 _ (by omega) (by omega), e 54 _ (by omega) (by omega)]
  exact a3 r hr
section
variable {n hr lw tx ts n2 hr2 lw2 : Nat} {d d2 : Dt} {F : Nat → Lw} {tb : Nat → Nat} {im : Im} {sh : Sh4} {μ μ2 μ3 : ax_M}
theorem KC.upr (h : KC n d hr lw tx F ts tb im sh μ) (h6 : tx ≤ 6) (hc : Ch SR μ μ2) (hk2 : KCr n2 d2 hr2 lw2 μ2) : KC n2 d2 hr2 lw2 tx F ts tb im sh μ2 := by
  obtain ⟨h1, h2, h3, h4, h5⟩ := h
  have e : ∀ k i, SR k i = false → μ2 k i = μ k i := hc
  exact ⟨hk2, h2.fr (e 1 0 rfl) (fun k i a b => e k i (by simp [SR, SC]; omega)) h6, h3.fr (e 18 1 rfl) fun i => e 19 i rfl, h4.fr fun k i a b => e k i (by simp [SR, SC]; omega), h5.fr fun k i a b => e k i (by simp [SR, SC]; omega)⟩
theorem KM.upr (h : KM n d hr lw tx F ts tb im sh μ) (hc : Ch SQ μ μ2) (hk2 : KMr n2 d2 hr2 lw2 μ2) : KM n2 d2 hr2 lw2 tx F ts tb im sh μ2 := by
  obtain ⟨h1, h2, h3, h4, h5⟩ := h
  have e : ∀ k i, SQ k i = false → μ2 k i = μ k i := hc
  exact ⟨hk2, h2.fr (e 51 9 rfl) (fun i => e 56 i rfl) (fun i => e 57 i rfl) (fun i => e 64 i rfl), h3.fr (e 51 6 rfl) fun i => e 55 i rfl, h4.fr (e 51 11 rfl) (fun k i a => e k i (by simp [SQ, SM]; omega)), h5.fr fun k i a b => e k i (by simp [SQ, SM]; omega)⟩
/-- the rugs, the hour, the law changed on both sides -/
theorem K.upr (h : K n d hr lw tx F ts tb im sh μ) (hc : Ch SR μ μ2) (hC : KCr n2 d2 hr2 lw2 μ2) (hm : Ch SQ μ2 μ3) (hM : KMr n2 d2 hr2 lw2 μ3) (ok : OK n2 d2 hr2 lw2 tx F ts tb im sh) : K n2 d2 hr2 lw2 tx F ts tb im sh μ3 := by
  have h1 := h.2.1.upr h.x6 hc hC
  have h2 : KM n d hr lw tx F ts tb im sh μ2 := h.2.2.fr fun k i a => hc k i (by simp [SR, SC]; omega)
  exact ⟨ok, h1.fr h.x6 fun k i a => hm k i (by simp [SQ, SM]; omega), h2.upr hm hM⟩
theorem KM.off (h : KM n d hr lw tx F ts tb im sh μ) (hc : Ch SR μ μ2) : KM n d hr lw tx F ts tb im sh μ2 := h.fr fun k i a => hc k i (by simp [SR, SC]; omega)
theorem b_strikes (h : K n d hr lw tx F ts tb im sh μ) (x : Int32) : Bo (m_X9_strikes x) (m_X10_strikes x) μ := by
  rcases argb x 23 23 24 rfl rfl (by decide) with ⟨j, hj, rfl, g1, g2, g3, g4, g5, g6⟩ | ⟨b0, b1⟩
  · have hc : Ch SR μ (ax_w μ 25 2 (nI j)) := Ch.rf.w rfl
    have hm := h.2.2.off hc
    refine ⟨nI hr, ax_w μ 25 2 (nI j), ax_w (ax_w μ 25 2 (nI j)) 51 4 (nI j), ?_, ?_, (h.upr (n2 := n) (d2 := d) (hr2 := j) (lw2 := lw) hc ⟨h.rc.fr (w_i (by decide)) (fun k i a b => w_k (by omega)), w_ss, ?_⟩ (Ch.rf.w rfl) ⟨hm.1.1.fr (w_i (by decide)) (fun k i a b => w_k (by omega)), w_ss, ?_⟩ ⟨by omega, h.1.2⟩).x⟩
    · unfold m_X9_strikes
      rw [if_neg g2, if_pos g4, h.h2]
    · unfold m_X10_strikes
      rw [m_in, ob_some, g1, if_neg (by decide), hm.1.2.1]
    · rw [w_i (by decide)]
      exact h.2.1.1.2.2
    · rw [w_i (by decide)]
      exact hm.1.2.2
  · exact h.no (-2) (by rcases b1 with b | ⟨b2, b3, b4, b5, b6⟩ <;> simp [m_X9_strikes, *]) (by simp [m_X10_strikes, m_in, b0, bI])
theorem b_force (h : K n d hr lw tx F ts tb im sh μ) (x : Int32) : Bo (m_X9_force x) (m_X10_force x) μ := by
  have h1 : μ 1 0 = nI tx := h.2.1.2.1.1
  have h9 : μ 51 9 = nI tx := h.2.2.2.1.1
  have hx := h.x6
  have hlt := h.1.2.1
  by_cases h0 : x < 0
  · exact h.no (-2) (by simp [m_X9_force, h0]) (by simp [m_X10_force, m_in, in_neg h0, bI])
  · obtain ⟨j, hj, rfl⟩ := nI_of h0
    have hs : s_in (nI j) 0 (nI tx - 1) = decide (j < tx) := by
      rw [show nI tx - 1 = nI (tx - 1) from pk_sub (b := 1) (by omega), in_n hj (by omega)]
      by_cases e : j < tx
      · have : j ≤ tx - 1 := by omega
        simp [*]
      · have : ¬ j ≤ tx - 1 := by omega
        simp [*]
    by_cases e : j < tx
    · have hc : Ch SR μ (ax_w μ 25 3 (nI j)) := Ch.rf.w rfl
      have hm := h.2.2.off hc
      refine ⟨nI lw, ax_w μ 25 3 (nI j), ax_w (ax_w μ 25 3 (nI j)) 51 10 (nI j), ?_, ?_, (h.upr (n2 := n) (d2 := d_sf d (F j)) (hr2 := hr) (lw2 := j) hc ⟨(h.rc.fr (w_i (by decide)) (fun k i a b => w_k (by omega))).sf, ?_, w_ss⟩ (Ch.rf.w rfl) ⟨(hm.1.1.fr (w_i (by decide)) (fun k i a b => w_k (by omega))).sf, ?_, w_ss⟩ ⟨h.1.1, e, h.1.2.2.1, rfl, h.1.2.2.2.2⟩).x⟩
      · unfold m_X9_force
        rw [if_neg h0, h1, if_pos (by rw [nltL hj (by omega)]; exact e), h.2.1.1.2.2]
      · unfold m_X10_force
        rw [m_in, ob_some, hm.2.1.1, hs, if_neg (by simp [e, bI]), hm.1.2.2]
      · rw [w_i (by decide)]
        exact h.h2
      · rw [w_i (by decide)]
        exact hm.1.2.1
    · exact h.no (-2) (by unfold m_X9_force; rw [if_neg h0, h1, if_neg (by rw [nltL hj (by omega)]; exact e)]) (by unfold m_X10_force; rw [m_in, ob_some, h9, hs, if_pos (by simp [e, bI])])
theorem srR (h : Ch Sr μ μ2) : Ch SR μ μ2 := h.mono fun k i e => by simp [SR, SC, Sr] at *; omega
theorem trQ (h : Ch Tr μ μ2) : Ch SQ μ μ2 := h.mono fun k i e => by simp [SQ, SM, Tr] at *; omega
theorem sgR (h : Ch Sg μ μ2) : Ch SR μ μ2 := h.mono fun k i e => by simp [SR, SC, Sg] at *; omega
theorem tgQ (h : Ch Tg μ μ2) : Ch SQ μ μ2 := h.mono fun k i e => by simp [SQ, SM, Tg] at *; omega
theorem scR (h : Ch SC μ μ2) : Ch SR μ μ2 := h.mono fun k i e => (Bool.or_eq_false_iff.mp e).1
theorem smQ (h : Ch SM μ μ2) : Ch SQ μ μ2 := h.mono fun k i e => (Bool.or_eq_false_iff.mp (Bool.or_eq_false_iff.mp e).1).1
theorem cor_of {v : Nat} (h : s_cor v = true) : v / 100 < 36 ∧ v % 100 < 36 ∧ (v / 100) % 6 ≤ (v % 100) % 6 ∧ (v / 100) / 6 ≤ (v % 100) / 6 := by
  unfold s_cor at h
  simp only [Bool.and_eq_true, decide_eq_true_eq] at h
  exact ⟨h.1.1.1, h.1.1.2, h.1.2, h.2⟩
theorem b_put (h : K n d hr lw tx F ts tb im sh μ) (x1 x2 x3 : Int32) : Bo (m_X9_put x1 x2 x3) (m_X10_put x1 x2 x3) μ := by
  rcases argr n x1 h.n6 with ⟨r, hr', rfl, k1⟩ | k0
  · have h6 := h.n6
    have i6 : ix 6 (nI r) = some r := ix_nI (by omega) (by decide)
    have i0 : ix 18 (nI (3 * r)) = some (3 * r) := ix_nI (by omega) (by decide)
    have i1 : ix 18 (nI (3 * r + 1)) = some (3 * r + 1) := ix_nI (by omega) (by decide)
    have i2 : ix 18 (nI (3 * r + 2)) = some (3 * r + 2) := ix_nI (by omega) (by decide)
    obtain ⟨c1, c2, c3, c4, c5, c6, -, -, -, -⟩ := h.rc.2.2 r hr'
    by_cases x0 : x2 = 0
    · subst x0
      cases hq : s_corI x3 with
      | true =>
        obtain ⟨v, hv, rfl, hs⟩ := corI_of hq
        obtain ⟨q1, q2, q3, q4⟩ := cor_of hs
        obtain ⟨μ2, e1, e2, e3⟩ := c_lay h.rc hr' q1 q2 q3 q4
        have hm := h.2.2.off (srR e3)
        obtain ⟨m1, m2, m3, m4, m5, -, -, -, -⟩ := hm.1.1.2.2 r hr'
        obtain ⟨f1, f2⟩ := m_lay hm.1.1 hr' q1 q2 q3 q4
        refine ⟨100 * nI (d_a d r) + nI (d_b d r), μ2, _, ?_, ?_, (h.upr (srR e3) ⟨e2, ?_, ?_⟩ (trQ f2) ⟨f1, ?_, ?_⟩ ⟨h.1.1, h.1.2.1, h.1.2.2.1, h.1.2.2.2.1, h.1.2.2.2.2⟩).x⟩
        · unfold m_X9_put m_X0_corners
          rw [c_rug h.rc.2.1, k1, ob_some, if_neg (by decide), if_pos rfl, c_cor, hq, ob_some, if_neg (by decide), i6, ob_some, ob_some, c3, c4, ob_some, nd100 hv, nr100 hv, e1, ob_some]
        · unfold m_X10_put m_X10_put_42 m_X10_put_74 m_X10_cornersOf
          rw [m_rug h6 hm.1.1.2.1, k1, ob_some, if_neg (by decide), if_pos rfl, m_cor, hq, ob_some, if_neg (by decide), if_pos rfl, n3, na1, i0, i1]
          simp only [ob_some, if_true, m3, m4, nd100 hv, nr100 hv]
        · rw [e3 25 2 rfl]
          exact h.h2
        · rw [e3 25 3 rfl]
          exact h.2.1.1.2.2
        · rw [f2 51 4 rfl]
          exact hm.1.2.1
        · rw [f2 51 10 rfl]
          exact hm.1.2.2
      | false => exact h.no (-7) (by simp [m_X9_put, m_X9_put_54, c_rug h.rc.2.1, k1, bI, c_cor, hq]) (by simp [m_X10_put, m_X10_put_42, m_rug h6 h.rm.2.1, k1, bI, m_cor, hq])
    · by_cases x1 : x2 = 1
      · subst x1
        rcases argb x3 99 99 100 rfl rfl (by decide) with ⟨j, hj, rfl, g1, g2, g3, g4, g5, g6⟩ | ⟨b0, b1⟩
        · have e3 : Ch Sg μ (ax_w μ 31 r (nI j)) := Ch.rf.w rfl
          have hm := h.2.2.off (sgR e3)
          obtain ⟨m1, m2, m3, m4, m5, -, -, -, -⟩ := hm.1.1.2.2 r hr'
          have f2 : Ch Tg (ax_w μ 31 r (nI j)) (ax_w (ax_w μ 31 r (nI j)) 54 (3 * r + 2) (nI j)) := Ch.rf.w (by simp [Tg])
          refine ⟨d_g d r, ax_w μ 31 r (nI j), _, ?_, ?_, (h.upr (d2 := d_sg d (fun q => if q = r then nI j else d_g d q)) (sgR e3) ⟨h.rc.sg e3 fun q hq => ?_, ?_, ?_⟩ (tgQ f2) ⟨hm.1.1.sg f2 fun q hq => ?_, ?_, ?_⟩ ⟨h.1.1, h.1.2.1, h.1.2.2.1, h.1.2.2.2.1, fun q hq => ⟨(h.1.2.2.2.2.1 q hq).1, (h.1.2.2.2.2.1 q hq).2.1, ?_⟩, h.1.2.2.2.2.2⟩).x⟩
          · unfold m_X9_put m_X9_put_54
            rw [c_rug h.rc.2.1, k1, ob_some, if_neg (by decide), if_neg (by decide), if_pos rfl, if_neg g2, if_neg g3, i6, ob_some, ob_some, c6]
          · unfold m_X10_put m_X10_put_42 m_X10_put_74
            rw [m_rug h6 hm.1.1.2.1, k1, ob_some, if_neg (by decide), if_neg (by decide), if_pos rfl, m_in, g1, ob_some, if_neg (by decide), if_neg (by decide), if_neg (by decide), n3, na2, i2, ob_some, ob_some, m5]
            rfl
          · by_cases e : q = r
            · rw [e, w_ss, if_pos rfl]
            · rw [w_i e, if_neg e]
              exact (h.rc.2.2 q hq).2.2.2.2.2.1
          · rw [e3 25 2 rfl]
            exact h.h2
          · rw [e3 25 3 rfl]
            exact h.2.1.1.2.2
          · by_cases e : q = r
            · rw [e, w_ss, if_pos rfl]
            · rw [w_i (by omega), if_neg e]
              exact (hm.1.1.2.2 q hq).2.2.2.2.1
          · rw [f2 51 4 rfl]
            exact hm.1.2.1
          · rw [f2 51 10 rfl]
            exact hm.1.2.2
          · show ∃ g, g ≤ 99 ∧ (if q = r then nI j else d_g d q) = nI g
            by_cases e : q = r
            · exact ⟨j, hj, by rw [if_pos e]⟩
            · rw [if_neg e]
              exact (h.1.2.2.2.2.1 q hq).2.2
        · exact h.no (-7) (by rcases b1 with b | ⟨b2, b3, b4, b5, b6⟩ <;> simp [m_X9_put, m_X9_put_54, c_rug h.rc.2.1, k1, bI, *]) (by simp [m_X10_put, m_X10_put_42, m_rug h6 h.rm.2.1, k1, bI, m_in, b0])
      · exact h.no (-7) (by simp [m_X9_put, m_X9_put_54, c_rug h.rc.2.1, k1, bI, x0, x1]) (by simp [m_X10_put, m_X10_put_42, m_rug h6 h.rm.2.1, k1, bI, x0, x1])
  · exact h.no (-5) (by simp [m_X9_put, c_rug h.rc.2.1, k0, bI]) (by simp [m_X10_put, m_rug h.n6 h.rm.2.1, k0, bI])
theorem b_visit (h : K n d hr lw tx F ts tb im sh μ) (x1 : Int32) : Bo (m_X9_visit x1) (m_X10_visit x1) μ := by
  rcases h.wlk x1 with ⟨s, hs, rfl, hz, hw, hk⟩ | ⟨v, hv, hk⟩
  · obtain ⟨μ1, μ2, e1, e2, ⟨j1, j2, j3, -⟩, e4⟩ := h.cgo hs hz hw
    have h' := h.ch e4
    cases ho : s_sto d n hr (s_wv sh s) (sh_z sh s) with
    | some t =>
      rw [ho] at e2
      have ht : ¬ rI (some t) = -1 := by
        intro z
        have hb : ∀ (m i t : Nat) (f : Nat → Bool), s_idx f m i = some t → t < i + m := by
          intro m
          induction m with
          | zero => intro i t f hh; cases hh
          | succ m ih =>
            intro i t f hh
            unfold s_idx at hh
            split at hh
            · cases hh; omega
            · have := ih _ _ _ hh; omega
        have := hb _ _ _ _ ho
        exact nm1 (show t < 2 ^ 31 by omega) z
      refine h.q (v := -3) ⟨μ2, ?_, e4⟩ fun μ' h' => ?_
      · unfold m_X9_visit
        rw [(hk μ h).1, ob_some, if_pos rfl, e1, ob_some, e2, bind2_some, if_neg ht]
      · obtain ⟨μ3, f1, f2, -, f4⟩ := h'.mgo hs hz hw
        refine ⟨μ3, ?_, f4⟩
        unfold m_X10_visit
        rw [(hk μ' h').2, ob_some, if_pos rfl, f1, ob_some, f2, ho, if_neg ht]
    | none =>
      rw [ho] at e2 j1 j3
      obtain ⟨μ3, f1, f2, f3⟩ := c_wel h'.n6 h'.rc.2.1 (s_wm (RR d n hr) (s_wv sh s) (s_til none (sh_z sh s)))
      have hg : ∀ q, q < n → μ3 31 q = s_wel (d_g d) (s_wm (RR d n hr) (s_wv sh s) (s_til none (sh_z sh s))) q := fun q hq => by
        rw [f3 q hq]
        unfold s_wel
        rw [(h'.rc.2.2 q hq).2.2.2.2.2.1]
      have hm := h'.2.2.off (sgR f2)
      have hK3 : K n d hr lw tx F ts tb im sh μ2 := h'
      -- the model, over the state behind the class
      obtain ⟨μ4, k1, k2, ⟨l1, l2, l3⟩, k4⟩ := (show ∃ μ4, m_X10_goesOver (nI s) μ3 = some μ4 ∧ μ4 51 30 = rI (s_sto d n hr (s_wv sh s) (sh_z sh s)) ∧ JM n (RR d n hr) (fun c => s_fat d (RR d n hr c) c (nI hr)) (s_wv sh s) (s_til (s_sto d n hr (s_wv sh s) (sh_z sh s)) (sh_z sh s)) μ4 ∧ Ch SM μ3 μ4 from by
        have hlm : LM d μ3 := LM.ofT (hm.2.1.2.1 lw h.1.2.1) hm.1.2.2 h.1.2.2.2.1
        obtain ⟨μ4, a1, a2, a3, a4⟩ := m_thru (w := s_wv sh s) hm.1.1 hlm hs hz (hm.2.2.2.2 s hs).2.1 (fun j hj => ⟨(hw j hj).1, by rw [(hm.2.2.2.2 s hs).2.2 j hj]; exact (hw j hj).2⟩)
        rw [hm.1.2.1] at a2 a3
        exact ⟨μ4, a1, a2, a3, t7M a4⟩)
      rw [ho] at k2 l1 l3
      have hm4 := hm.ch k4
      obtain ⟨μ5, n1, n2, n3'⟩ := m_vis hm4.1.1 (fun r hr => (h.1.2.2.2.2.1 r hr).2.2) l3
      have hww : m_X10_walkWrong (nI s) μ3 = some 0 := by
        have := (hk μ2 h').2
        unfold m_X10_walkWrong at this ⊢
        rw [m_in, ob_some] at this ⊢
        have i4 : ix 4 (nI s) = some s := ix_nI hs (by decide)
        have hsi : s_in (nI s) 0 3 = true := by rw [show (3 : Int32) = nI 3 from rfl, in_n (by omega) (by decide)]; simp; omega
        rw [hsi, if_neg (by decide), i4, ob_some, (hm.2.2.2.2 s hs).1]
        rw [hsi, if_neg (by decide), i4, ob_some, (h'.2.2.2.2.2.2 s hs).1] at this
        by_cases e : sh_o sh s = -1
        · rw [if_pos e] at this ⊢
          exact this
        · rw [if_neg e] at this ⊢
          rw [m_wlk hs hz (h'.2.2.2.2.2.2 s hs).2.1 (h'.2.2.2.2.2.2 s hs).2.2] at this
          rw [m_wlk hs hz (hm.2.2.2.2 s hs).2.1 (hm.2.2.2.2 s hs).2.2]
          exact this
      refine ⟨μ2 34 1, μ3, μ5, ?_, ?_, (h.upr (d2 := d_sg d (s_wel (d_g d) (s_wm (RR d n hr) (s_wv sh s) (s_til none (sh_z sh s))))) ((scR e4).tr (sgR f2)) ⟨h'.rc.sg f2 hg, ?_, ?_⟩ ((smQ k4).tr (tgQ n2)) ⟨hm4.1.1.sg n2 n3', ?_, ?_⟩ ⟨h.1.1, h.1.2.1, h.1.2.2.1, h.1.2.2.2.1, fun q hq => ⟨(h.1.2.2.2.2.1 q hq).1, (h.1.2.2.2.2.1 q hq).2.1, wel_ok (h.1.2.2.2.2.1 q hq).2.2⟩, h.1.2.2.2.2.2⟩).x⟩
      · unfold m_X9_visit
        rw [(hk μ h).1, ob_some, if_pos rfl, e1, ob_some, e2, bind2_some, show rI none = -1 from rfl, if_pos rfl, j3, f1, ob_some, f2 34 1 rfl]
      · unfold m_X10_visit
        rw [hww, ob_some, if_pos rfl, k1, ob_some, k2, show rI none = -1 from rfl, if_pos rfl, n1, l1, j1]
      · rw [f2 25 2 rfl]
        exact h'.h2
      · rw [f2 25 3 rfl]
        exact h'.2.1.1.2.2
      · rw [n2 51 4 rfl]
        exact hm4.1.2.1
      · rw [n2 51 10 rfl]
        exact hm4.1.2.2
  · exact h.no v (by unfold m_X9_visit; rw [(hk μ h).1, ob_some, if_neg hv]) (by unfold m_X10_visit; rw [(hk μ h).2, ob_some, if_neg hv])
end
