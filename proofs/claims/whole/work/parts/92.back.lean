/-! ===== back; place ===== -/
theorem lay1 {r a b : Nat} {μ : ax_M} (hr : r < 6) (ha : a < 36) (hb : b < 36) (h1 : a % 6 ≤ b % 6) (h2 : a / 6 ≤ b / 6) : m_X0_lay (nI r) (nI a) (nI b) μ = some (ax_w (ax_w (ax_w μ 28 r (nI a)) 29 r (nI b)) 30 r (nI ((b % 6 - a % 6 + 1) * (b / 6 - a / 6 + 1)))) := by
  unfold m_X0_lay m_X9_columnOf m_X9_rowOf
  rw [ix_nI hr (by decide)]
  simp only [ob_some]
  rw [nr6 (by omega), nr6 (by omega), nd6 (by omega), nd6 (by omega), pk_sub h1, pk_sub h2, na1, na1, pk_mul]
theorem c_bk {n0 : Nat} {A B : Nat → Nat} {μ : ax_M} (hf : μ 39 0 = 1) (hn0 : n0 ≤ 6) (h1 : μ 39 1 = nI n0) (hA : ∀ r, r < n0 → μ 40 r = nI (A r) ∧ μ 41 r = nI (B r) ∧ A r < 36 ∧ B r < 36 ∧ A r % 6 ≤ B r % 6 ∧ A r / 6 ≤ B r / 6) : ∃ μ2, m_X9_back μ = some (nI n0, μ2) ∧ μ2 25 1 = nI n0 ∧ μ2 25 2 = μ 39 2 ∧ μ2 25 3 = μ 39 3 ∧ (∀ r, r < n0 → μ2 28 r = nI (A r) ∧ μ2 29 r = nI (B r) ∧ μ2 30 r = nI ((B r % 6 - A r % 6 + 1) * (B r / 6 - A r / 6 + 1)) ∧ μ2 31 r = μ 42 r) ∧ Ch SR μ μ2 ∧ (∀ j, μ2 26 j = μ 26 j ∧ μ2 27 j = μ 27 j) := by
  have q31 : q_n 31 = some 6 := by decide
  have q42 : q_n 42 = some 6 := by decide
  generalize hμ : ax_w (ax_w (ax_w μ 25 1 (μ 39 1)) 25 2 (μ 39 2)) 25 3 (μ 39 3) = μ0
  have z0 : ∀ k j, ¬ k = 25 → μ0 k j = μ k j := fun k j hk => by
    rw [← hμ, w_k hk, w_k hk, w_k hk]
  obtain ⟨b, hb, hq⟩ := loopK (N := n0) (fun k i (a : ax_M) => m_X1_restore_26 k (nI i) a) (fun i a => (∀ r, r < i → a 28 r = nI (A r) ∧ a 29 r = nI (B r) ∧ a 30 r = nI ((B r % 6 - A r % 6 + 1) * (B r / 6 - A r / 6 + 1))) ∧ (∀ k j, ¬ k = 28 → ¬ k = 29 → ¬ k = 30 → a k j = μ0 k j)) (fun a => some (ax_cp a 42 0 31 0 6)) (by omega)
    (fun k i a hi hI => by
      obtain ⟨h2, h3⟩ := hI
      obtain ⟨a1, a2, a3, a4, a5, a6⟩ := hA i hi
      have e39 : a 39 1 = nI n0 := by rw [h3 39 1 (by decide) (by decide) (by decide), z0 39 1 (by decide), h1]
      have e40 : a 40 i = nI (A i) := by rw [h3 40 i (by decide) (by decide) (by decide), z0 40 i (by decide), a1]
      have e41 : a 41 i = nI (B i) := by rw [h3 41 i (by decide) (by decide) (by decide), z0 41 i (by decide), a2]
      show ∃ a2, m_X1_restore_26 (k + 1) (nI i) a = _ ∧ _
      rw [m_X1_restore_26, e39, if_neg (by rw [nleL (by omega) (by omega)]; omega), if_neg (by rw [show (6 : Int32) = nI 6 from rfl, nleL (by omega) (by omega)]; omega), ix_nI (show i < 6 by omega) (by decide), ob_some, ob_some, e40, e41, lay1 (by omega) a3 a4 a5 a6, ob_some, na1]
      refine ⟨_, rfl, fun r hr => ?_, fun k j k1 k2 k3 => ?_⟩
      · by_cases e : r = i
        · subst e
          exact ⟨by rw [w_k (by decide), w_k (by decide), w_ss], by rw [w_k (by decide), w_ss], w_ss⟩
        · obtain ⟨b1, b2, b3⟩ := h2 r (by omega)
          exact ⟨by rw [w_k (by decide), w_k (by decide), w_i e]; exact b1, by rw [w_k (by decide), w_i e, w_k (by decide)]; exact b2, by rw [w_i e, w_k (by decide), w_k (by decide)]; exact b3⟩
      · rw [w_k k3, w_k k2, w_k k1]
        exact h3 k j k1 k2 k3)
    (fun k a hI => by
      show m_X1_restore_26 (k + 1) (nI n0) a = _
      have e39 : a 39 1 = nI n0 := by rw [hI.2 39 1 (by decide) (by decide) (by decide), z0 39 1 (by decide), h1]
      rw [m_X1_restore_26, e39, if_pos (Int32.le_refl _)]
      unfold m_X1_restore_63
      rw [q_cp6 q42 q31, ob_some])
    μ0 ⟨fun r hr => by omega, fun k j _ _ _ => rfl⟩
  obtain ⟨h2, h3⟩ := hb
  have g25 : ∀ j, (ax_cp b 42 0 31 0 6) 25 j = μ0 25 j := fun j => by rw [cp6, if_neg (by omega)]; exact h3 25 j (by decide) (by decide) (by decide)
  refine ⟨ax_cp b 42 0 31 0 6, ?_, ?_, ?_, ?_, fun r hr => ?_, fun k j hs => ?_, fun j => ?_⟩
  · unfold m_X9_back m_X1_restore
    have e1 : (ax_w μ 25 1 (μ 39 1)) 39 2 = μ 39 2 := w_k (by decide)
    have e2 : ∀ v, (ax_w (ax_w μ 25 1 (μ 39 1)) 25 2 v) 39 3 = μ 39 3 := fun v => by rw [w_k (by decide), w_k (by decide)]
    rw [hf, if_neg (by decide), e1, e2, hμ, show m_X1_restore_26 fu 0 μ0 = _ from hq, ob_some, g25, ← hμ]
    simp [ax_w, h1]
  · rw [g25, ← hμ]
    simp [ax_w, h1]
  · rw [g25, ← hμ]
    simp [ax_w]
  · rw [g25, ← hμ]
    simp [ax_w]
  · obtain ⟨b1, b2, b3⟩ := h2 r hr
    refine ⟨by rw [cp6, if_neg (by omega)]; exact b1, by rw [cp6, if_neg (by omega)]; exact b2, by rw [cp6, if_neg (by omega)]; exact b3, ?_⟩
    rw [cp6, if_pos ⟨rfl, by omega⟩, h3 42 r (by decide) (by decide) (by decide), z0 42 r (by decide)]
  · simp [SR, SC] at hs
    rw [cp6, if_neg (by omega), h3 k j (by omega) (by omega) (by omega), z0 k j (by omega)]
  · refine ⟨?_, ?_⟩
    · rw [cp6, if_neg (by omega), h3 26 j (by decide) (by decide) (by decide), z0 26 j (by decide)]
    · rw [cp6, if_neg (by omega), h3 27 j (by decide) (by decide) (by decide), z0 27 j (by decide)]
section
variable {n hr lw tx ts : Nat} {d : Dt} {F : Nat → Lw} {tb : Nat → Nat} {im : Im} {sh : Sh4} {μ μ2 : ax_M}
theorem b_back (h : K n d hr lw tx F ts tb im sh μ) : Bo m_X9_back m_X10_back μ := by
  have hf := h.2.1.2.2.2.1
  have hn := h.n6
  rcases h.1.2.2.2.2.2.2.2.1 with e0 | ⟨e1, o1, o2, o3, o4⟩
  · refine h.no (-3) ?_ ?_
    · unfold m_X9_back
      rw [hf.1, e0, if_pos (by decide)]
    · unfold m_X10_back
      rw [h.2.2.2.2.2.1.1, e0, if_pos (by decide)]
  · obtain ⟨x1, x2, x3, x4⟩ := hf.2 e1
    obtain ⟨μ2, a1, a2, a3, a4, a5, a6, a7⟩ := c_bk (n0 := im_n im) (A := im_a im) (B := im_b im) (hf.1.trans (by rw [e1]; rfl)) (by omega) x1 (fun r hr => ⟨(x4 r hr).1, (x4 r hr).2.1, (o4 r hr).1, (o4 r hr).2.1, (o4 r hr).2.2.1, (o4 r hr).2.2.2.1⟩)
    have hm := h.2.2.off a6
    obtain ⟨y1, y2, y3, y4⟩ := hm.2.2.2.1.2 e1
    obtain ⟨μ3, b1, b2, b3, b4, b5, b6, b7⟩ := m_bk (μ := μ2) (n0 := im_n im) (hm.2.2.2.1.1.trans (by rw [e1]; rfl)) (by omega) y1
    refine ⟨nI (im_n im), μ2, μ3, a1, b1, (h.upr (n2 := im_n im) (hr2 := im_h im) (lw2 := im_l im) (d2 := (F (im_l im), d_k d, d_m d, im_g im, im_a im, im_b im)) a6 ⟨⟨by omega, a2, fun r hr => ?_⟩, a3.trans x2, a4.trans x3⟩ b6 ⟨⟨by omega, b3, fun r hr => ?_⟩, b4.trans y2, b5.trans y3⟩ ⟨o2, o3, h.1.2.2.1, rfl, fun r hr => ⟨(h.1.2.2.2.2.1 r (by omega)).1, (h.1.2.2.2.2.1 r (by omega)).2.1, (o4 r hr).2.2.2.2⟩, h.1.2.2.2.2.2.1, h.1.2.2.2.2.2.2.1, Or.inr ⟨e1, Nat.le_refl _, o2, o3, o4⟩, h.1.2.2.2.2.2.2.2.2⟩).x⟩
    · obtain ⟨c1, c2, -⟩ := h.rc.2.2 r (by omega)
      obtain ⟨z1, z2, z3, z4⟩ := a5 r hr
      obtain ⟨w1, w2, w3, w4, -⟩ := o4 r hr
      exact ⟨(a7 r).1.trans c1, (a7 r).2.trans c2, z1, z2, z3, z4.trans (x4 r hr).2.2, w1, w2, w3, w4⟩
    · obtain ⟨c1, c2, -⟩ := hm.1.1.2.2 r (by omega)
      obtain ⟨w1, w2, w3, w4, -⟩ := o4 r hr
      obtain ⟨v1, v2, v3⟩ := y4 r hr
      exact ⟨(b7 r).1.trans c1, (b7 r).2.trans c2, (b2 _ (by omega)).trans v1, (b2 _ (by omega)).trans v2, (b2 _ (by omega)).trans v3, w1, w2, w3, w4⟩
theorem s_pl_s {h z : Int32} {r p : Nat} : s_pl d n h r z (p + 1) = if s_fit (d_a d r) (d_b d r) p then (if (s_pl d n h r z p).1 = -1 then (s_plc d r p, s_plv d n h r p) else if s_plv d n h r p ≤ (s_pl d n h r z p).2 then s_pl d n h r z p else (s_plc d r p, s_plv d n h r p)) else s_pl d n h r z p := rfl
theorem s_pl_z {h z z2 : Int32} {r : Nat} (h1 : d_a d r < 36) (h2 : d_b d r < 36) : ∀ p : Nat, s_pl d n h r z (p + 1) = s_pl d n h r z2 (p + 1)
  | 0 => by
    have hf : s_fit (d_a d r) (d_b d r) 0 = true := by
      unfold s_fit
      simp
      omega
    rw [s_pl_s, s_pl_s, if_pos hf, if_pos hf]
    simp [s_pl]
  | p + 1 => by
    rw [s_pl_s, s_pl_z (z2 := z2) h1 h2 p, s_pl_s (z := z2) (p := p + 1)]
theorem plc_ne {r p : Nat} (hp : p < 36) (h2 : d_b d r < 36) : ¬ s_plc d r p = -1 := nm1 (by omega)
theorem s_pl_m1 {h : Int32} {r : Nat} (h2 : d_b d r < 36) : ∀ p : Nat, p ≤ 36 → (s_pl d n h r (-1) p).1 = -1 → (s_pl d n h r (-1) p).2 = -1
  | 0, _, _ => rfl
  | p + 1, hp, he => by
    rw [s_pl_s] at he ⊢
    split at he
    · rename_i hf
      rw [if_pos hf]
      split at he
      · exact absurd he (plc_ne (by omega) h2)
      · rename_i h1
        rw [if_neg h1]
        split at he
        · exact absurd he h1
        · exact absurd he (plc_ne (by omega) h2)
    · rename_i hf
      rw [if_neg hf]
      exact s_pl_m1 h2 p (by omega) he
theorem c_plc {r : Nat} (h : RC n d μ) (hl : LC d μ) (hr : r < n) (x2 : Int32) : ∃ μ2, m_X9_place_26 (nI r) x2 μ = some (s_pk x2 (s_pl d n (μ 25 2) r (-1) 36), μ2) ∧ RC n d μ2 ∧ Ch Sp μ μ2 := by
  have hn := h.1
  obtain ⟨-, -, c3, c4, -, -, h1, h2, h3, h4⟩ := h.2.2 r hr
  have hab : d_a d r ≤ d_b d r := by omega
  obtain ⟨b, hb, hq⟩ := loopK (N := 36) (fun k i (a : Int32 × Int32 × ax_M) => m_X9_place_56 (nI r) x2 (nI (d_a d r)) (nI (d_b d r)) k a.1 a.2.1 (nI i) a.2.2) (fun i a => (a.1, a.2.1) = s_pl d n (μ 25 2) r (-1) i ∧ (∃ a' b', RC n (d_at d r a' b') a.2.2) ∧ Ch Sp μ a.2.2) (fun a => (m_X0_lay (nI r) (nI (d_a d r)) (nI (d_b d r)) a.2.2).bind fun μ4 => if x2 = 0 then some (a.1, μ4) else some (a.2.1, μ4)) (by omega)
    (fun k i a hi hI => by
      obtain ⟨x, y, μ1⟩ := a
      obtain ⟨hxy0, ⟨a', b', hR⟩, hch0⟩ := hI
      have hxy : (x, y) = s_pl d n (μ 25 2) r (-1) i := hxy0
      have hch : Ch Sp μ μ1 := hch0
      have hR1 : RC n (d_at d r a' b') μ1 := hR
      clear hxy0 hch0 hR
      show ∃ a2, m_X9_place_56 (nI r) x2 (nI (d_a d r)) (nI (d_b d r)) (k + 1) x y (nI i) μ1 = _ ∧ _
      rw [m_X9_place_56, if_neg (ge36 hi)]
      unfold m_X9_columnOf
      rw [ob_some, ob_some, ob_some, nr6 (by omega), nr6 (by omega), nr6 (by omega), nI_add, pk_sub (show d_a d r % 6 ≤ i % 6 + d_b d r % 6 by omega), nI_add, pk_sub (show d_a d r ≤ i + d_b d r by omega), na1]
      have e6 : ((6 : Int32) ≤ nI (i % 6 + d_b d r % 6 - d_a d r % 6)) = (6 ≤ i % 6 + d_b d r % 6 - d_a d r % 6) := nleL (a := 6) (by decide) (by omega)
      have e36 : ((36 : Int32) ≤ nI (i + d_b d r - d_a d r)) = (36 ≤ i + d_b d r - d_a d r) := nleL (a := 36) (by decide) (by omega)
      simp only [e6, e36]
      have hfe := fit_eq (a := d_a d r) (b := d_b d r) (p := i) h3 h4
      by_cases f1 : 6 ≤ i % 6 + d_b d r % 6 - d_a d r % 6
      · rw [if_pos f1]
        have hf : s_fit (d_a d r) (d_b d r) i = false := by
          unfold s_fit
          have : ¬ i % 6 + (d_b d r % 6 - d_a d r % 6) < 6 := by omega
          simp [this]
        exact ⟨(x, y, μ1), rfl, by rw [s_pl_s, hf]; exact hxy, ⟨a', b', hR1⟩, hch⟩
      · obtain ⟨g1, g2, g3⟩ := hfe (by omega)
        rw [if_neg f1]
        by_cases f2 : 36 ≤ i + d_b d r - d_a d r
        · rw [if_pos f2]
          have hf : s_fit (d_a d r) (d_b d r) i = false := by
            unfold s_fit
            have : ¬ i / 6 + (d_b d r / 6 - d_a d r / 6) < 6 := fun z => by have := g1.2 z; omega
            simp [this]
          exact ⟨(x, y, μ1), rfl, by rw [s_pl_s, hf]; exact hxy, ⟨a', b', hR1⟩, hch⟩
        · rw [if_neg f2]
          have hf : s_fit (d_a d r) (d_b d r) i = true := by
            unfold s_fit
            have t1 : i % 6 + (d_b d r % 6 - d_a d r % 6) < 6 := by omega
            have t2 := g1.1 (by omega)
            simp [t1, t2]
          obtain ⟨μ2, p1, p2, p3⟩ := c_lay hR1 hr (a := i) (b := i + d_b d r - d_a d r) hi (by omega) (by omega) (by omega)
          have p2' : RC n (d_at d r i (i + d_b d r - d_a d r)) μ2 := by
            have : d_at (d_at d r a' b') r i (i + d_b d r - d_a d r) = d_at d r i (i + d_b d r - d_a d r) := d_at_at
            rw [← this]
            exact p2
          have hch2 : Ch Sp μ μ2 := hch.tr (p3.mono Srp)
          have hl2 : LC (d_at d r i (i + d_b d r - d_a d r)) μ2 := (hl.ch2 hch2 SpL).sr
          obtain ⟨μ3, q1, q2⟩ := c_rnow2 p2' hl2 hr
          have e25 : μ2 25 2 = μ 25 2 := hch2 25 2 rfl
          rw [e25] at q1
          rw [p1, ob_some, q1, bind2_some]
          have hch3 : Ch Sp μ μ3 := hch2.tr (q2.mono S3p)
          have hR3 : RC n (d_at d r i (i + d_b d r - d_a d r)) μ3 := p2'.ch q2 S3N
          have hvs : s_cnt (s_rul (d_at d r i (i + d_b d r - d_a d r)) n (s_awk (d_at d r i (i + d_b d r - d_a d r)) (μ 25 2))) r = s_plv d n (μ 25 2) r i := rfl
          rw [hvs]
          have hcs : (100 : Int32) * nI i + nI (i + d_b d r - d_a d r) = s_plc d r i := by
            rw [show (100 : Int32) * nI i = nI (100 * i) from pk_mul 100 i, nI_add]
            rfl
          rw [hcs]
          have hx : x = (s_pl d n (μ 25 2) r (-1) i).1 := by rw [← hxy]
          have hy : y = (s_pl d n (μ 25 2) r (-1) i).2 := by rw [← hxy]
          by_cases e1 : (s_pl d n (μ 25 2) r (-1) i).1 = -1
          · have e2 := s_pl_m1 h2 i (by omega) e1
            obtain ⟨j, hj, ej⟩ := cnt_small (s_rul (d_at d r i (i + d_b d r - d_a d r)) n (s_awk (d_at d r i (i + d_b d r - d_a d r)) (μ 25 2))) r
            have e3 : ¬ s_plv d n (μ 25 2) r i ≤ y := by
              rw [hy, e2, ← hvs, ej, Int32.le_iff_toInt_le, nI_toInt (by omega)]
              have : (-1 : Int32).toInt = -1 := by decide
              omega
            rw [if_neg e3]
            exact ⟨(s_plc d r i, s_plv d n (μ 25 2) r i, μ3), rfl, by show (s_plc d r i, s_plv d n (μ 25 2) r i) = _; rw [s_pl_s, if_pos hf, if_pos e1], ⟨_, _, hR3⟩, hch3⟩
          · by_cases e3 : s_plv d n (μ 25 2) r i ≤ y
            · rw [if_pos e3]
              exact ⟨(x, y, μ3), rfl, by rw [s_pl_s, if_pos hf, if_neg e1, if_pos (by rw [← hy]; exact e3)]; exact hxy, ⟨_, _, hR3⟩, hch3⟩
            · rw [if_neg e3]
              exact ⟨(s_plc d r i, s_plv d n (μ 25 2) r i, μ3), rfl, by show (s_plc d r i, s_plv d n (μ 25 2) r i) = _; rw [s_pl_s, if_pos hf, if_neg e1, if_neg (by rw [← hy]; exact e3)], ⟨_, _, hR3⟩, hch3⟩)
    (fun k a hI => by
      show m_X9_place_56 (nI r) x2 (nI (d_a d r)) (nI (d_b d r)) (k + 1) a.1 a.2.1 (nI 36) a.2.2 = _
      rw [m_X9_place_56, if_pos (by decide)])
    (-1, -1, μ) ⟨rfl, ⟨d_a d r, d_b d r, by rw [d_at_self]; exact h⟩, Ch.rf⟩
  obtain ⟨k1, ⟨a', b', k2⟩, k3⟩ := hb
  obtain ⟨μ5, p1, p2, p3⟩ := c_lay k2 hr h1 h2 h3 h4
  have p2' : RC n d μ5 := by
    have : d_at (d_at d r a' b') r (d_a d r) (d_b d r) = d := by rw [d_at_at, d_at_self]
    rw [← this]
    exact p2
  refine ⟨μ5, ?_, p2', k3.tr (p3.mono Srp)⟩
  unfold m_X9_place_26
  rw [ix_nI (show r < 6 by omega) (by decide), ob_some, ob_some, c3, c4, show m_X9_place_56 (nI r) x2 (nI (d_a d r)) (nI (d_b d r)) fu (-1) (-1) 0 μ = _ from hq, p1, ob_some, ← k1]
  unfold s_pk
  by_cases e : x2 = 0 <;> simp [e]
end
