/-! ===== feed ===== -/
def Sta (k i : Nat) : Bool := (k == 18 && i == 1) || k == 19
def Tta (k i : Nat) : Bool := (k == 51 && i == 6) || k == 55
def s_apn (tb : Nat → Nat) (ts : Nat) (A : Nat → Nat) (m : Nat) : Nat → Nat := fun i => if ts ≤ i ∧ i < ts + m then A (i - ts) else tb i
section
variable {n hr lw tx ts : Nat} {d : Dt} {F : Nat → Lw} {tb : Nat → Nat} {im : Im} {sh : Sh4} {μ μ2 μ3 : ax_M}
theorem apn_0 {A : Nat → Nat} : s_apn tb ts A 0 = tb := funext fun i => if_neg (by omega)
theorem c_ad {A : Nat → Nat} {m : Nat} (h : KCp (ts + m) (s_apn tb ts A m) μ) (hlt : ts + m < 160) : ∃ μ2, m_X6_add (nI (A m)) μ = some μ2 ∧ KCp (ts + (m + 1)) (s_apn tb ts A (m + 1)) μ2 ∧ Ch Sta μ μ2 := by
  refine ⟨ax_w (ax_w μ 18 1 (nI (ts + m + 1))) 19 (ts + m) (nI (A m)), ?_, ⟨by rw [w_k (by decide), w_ss]; rfl, fun i hi => ?_⟩, (Ch.rf.w rfl).w rfl⟩
  · unfold m_X6_add
    rw [h.1, if_neg (by rw [show (160 : Int32) = nI 160 from rfl, nleL (by omega) (by omega)]; omega), ix_nI hlt (by decide), ob_some, na1]
  · by_cases e : i = ts + m
    · subst e
      rw [w_ss]
      unfold s_apn
      rw [if_pos (by omega), show ts + m - ts = m by omega]
    · rw [w_i e, w_k (by decide), h.2 i (by omega)]
      unfold s_apn
      by_cases e2 : ts ≤ i ∧ i < ts + m
      · rw [if_pos e2, if_pos (by omega)]
      · rw [if_neg e2, if_neg (by omega)]
theorem m_ad {A : Nat → Nat} {m : Nat} (h : KMp (ts + m) (s_apn tb ts A m) μ) (hlt : ts + m < 160) : KMp (ts + (m + 1)) (s_apn tb ts A (m + 1)) (ax_w (ax_w μ 55 (ts + m) (nI (A m))) 51 6 (nI (ts + m + 1))) ∧ Ch Tta μ (ax_w (ax_w μ 55 (ts + m) (nI (A m))) 51 6 (nI (ts + m + 1))) := by
  refine ⟨⟨w_ss, fun i hi => ?_⟩, (Ch.rf.w rfl).w rfl⟩
  by_cases e : i = ts + m
  · subst e
    rw [w_k (by decide), w_ss]
    unfold s_apn
    rw [if_pos (by omega), show ts + m - ts = m by omega]
  · rw [w_k (by decide), w_i e, h.2 i (by omega)]
    unfold s_apn
    by_cases e2 : ts ≤ i ∧ i < ts + m
    · rw [if_pos e2, if_pos (by omega)]
    · rw [if_neg e2, if_neg (by omega)]
def s_a5 (a b c e f : Nat) (i : Nat) : Nat := match i with
  | 0 => a
  | 1 => b
  | 2 => c
  | 3 => e
  | _ => f
theorem m_fd {a b c e f y : Nat} (h : KMp ts tb μ) (hy : y ≤ 5) (hlt : ts + y ≤ 160) : ∃ μ2, m_X10_feed_68 (nI y) (nI a) (nI b) (nI c) (nI e) (nI f) fu 0 μ = some (nI (ts + y), μ2) ∧ KMp (ts + y) (s_apn tb ts (s_a5 a b c e f) y) μ2 ∧ Ch Tta μ μ2 := by
  obtain ⟨p, hp, hq⟩ := loopK (N := y) (fun k i (q : ax_M) => m_X10_feed_68 (nI y) (nI a) (nI b) (nI c) (nI e) (nI f) k (nI i) q) (fun i q => KMp (ts + i) (s_apn tb ts (s_a5 a b c e f) i) q ∧ Ch Tta μ q) (fun q => some (nI (ts + y), q)) (by omega)
    (fun k i q hi hI => by
      obtain ⟨h1, h2⟩ := hI
      obtain ⟨g1, g2⟩ := m_ad h1 (by omega)
      refine ⟨_, ?_, g1, h2.tr g2⟩
      show m_X10_feed_68 (nI y) (nI a) (nI b) (nI c) (nI e) (nI f) (k + 1) (nI i) q = m_X10_feed_68 (nI y) (nI a) (nI b) (nI c) (nI e) (nI f) k (nI (i + 1)) _
      rw [m_X10_feed_68, if_neg (by rw [nleL (by omega) (by omega)]; omega)]
      unfold m_X10_feed_125
      rw [h1.1, ix_nI (show ts + i < 160 by omega) (by decide)]
      simp only [ob_some, na1]
      have w6 : ∀ (j : Nat) (v : Int32), (ax_w q 55 j v) 51 6 = nI (ts + i) := fun j v => by rw [w_k (by decide)]; exact h1.1
      simp only [w6, na1]
      have : i = 0 ∨ i = 1 ∨ i = 2 ∨ i = 3 ∨ i = 4 := by omega
      rcases this with rfl | rfl | rfl | rfl | rfl <;> rfl)
    (fun k q hI => by
      show m_X10_feed_68 (nI y) (nI a) (nI b) (nI c) (nI e) (nI f) (k + 1) (nI y) q = _
      rw [m_X10_feed_68, if_pos (Int32.le_refl _), hI.1.1])
    μ ⟨by rw [apn_0]; exact h, Ch.rf⟩
  exact ⟨p, hq, hp.1, hp.2⟩
theorem c_fd {a b c e f y : Nat} (h : KCp ts tb μ) (hy1 : 1 ≤ y) (hy : y ≤ 5) (hlt : ts + y ≤ 160) : ∃ μ2, ((m_X6_add (nI a) μ).bind fun μ21 => if nI y ≤ 1 then m_X9_feed_90 (nI y) (nI c) (nI e) (nI f) μ21 else (m_X6_add (nI b) μ21).bind fun μ25 => m_X9_feed_90 (nI y) (nI c) (nI e) (nI f) μ25) = some (nI (ts + y), μ2) ∧ KCp (ts + y) (s_apn tb ts (s_a5 a b c e f) y) μ2 ∧ Ch Sta μ μ2 := by
  have h0 : KCp (ts + 0) (s_apn tb ts (s_a5 a b c e f) 0) μ := by rw [apn_0]; exact h
  have l1 : (nI y ≤ 1) = (y ≤ 1) := nleL (k := 1) (by omega) (by decide)
  have l2 : (nI y ≤ 2) = (y ≤ 2) := nleL (k := 2) (by omega) (by decide)
  have l3 : (nI y ≤ 3) = (y ≤ 3) := nleL (k := 3) (by omega) (by decide)
  have l4 : (nI y ≤ 4) = (y ≤ 4) := nleL (k := 4) (by omega) (by decide)
  unfold m_X9_feed_90 m_X9_feed_104 m_X9_feed_118
  simp only [l1, l2, l3, l4]
  obtain ⟨μ1, e1, f1, g1⟩ := c_ad h0 (by omega)
  rw [show nI a = nI (s_a5 a b c e f 0) from rfl, e1, ob_some]
  by_cases y1 : y ≤ 1
  · have : y = 1 := by omega
    subst this
    rw [if_pos y1, if_pos (by omega), if_pos (by omega), if_pos (by omega), f1.1]
    exact ⟨μ1, rfl, f1, g1⟩
  · rw [if_neg y1]
    obtain ⟨μ2, e2, f2, g2⟩ := c_ad f1 (by omega)
    rw [show nI b = nI (s_a5 a b c e f 1) from rfl, e2, ob_some]
    by_cases y2 : y ≤ 2
    · have : y = 2 := by omega
      subst this
      rw [if_pos y2, if_pos (by omega), if_pos (by omega), f2.1]
      exact ⟨μ2, rfl, f2, g1.tr g2⟩
    · rw [if_neg y2]
      obtain ⟨μ3, e3, f3, g3⟩ := c_ad f2 (by omega)
      rw [show nI c = nI (s_a5 a b c e f 2) from rfl, e3, ob_some]
      by_cases y3 : y ≤ 3
      · have : y = 3 := by omega
        subst this
        rw [if_pos y3, if_pos (by omega), f3.1]
        exact ⟨μ3, rfl, f3, (g1.tr g2).tr g3⟩
      · rw [if_neg y3]
        obtain ⟨μ4, e4, f4, g4⟩ := c_ad f3 (by omega)
        rw [show nI e = nI (s_a5 a b c e f 3) from rfl, e4, ob_some]
        by_cases y4 : y ≤ 4
        · have : y = 4 := by omega
          subst this
          rw [if_pos y4, f4.1]
          exact ⟨μ4, rfl, f4, ((g1.tr g2).tr g3).tr g4⟩
        · rw [if_neg y4]
          obtain ⟨μ5, e5, f5, g5⟩ := c_ad f4 (by omega)
          have : y = 5 := by omega
          subst this
          rw [show nI f = nI (s_a5 a b c e f 4) from rfl, e5, ob_some, f5.1]
          exact ⟨μ5, rfl, f5, (((g1.tr g2).tr g3).tr g4).tr g5⟩
theorem c_byt (x : Int32) (μ : ax_M) : m_X9_isByte x μ = some (bI (s_in x 0 255)) := by
  unfold m_X9_isByte s_in bI
  by_cases h1 : x < 0 <;> by_cases h2 : 255 < x <;> simp [h1, h2]
theorem m_byt (x : Int32) (μ : ax_M) : m_X10_isByte x μ = some (bI (s_in x 0 255)) := by
  unfold m_X10_isByte
  rw [m_in, ob_some]
  cases s_in x 0 255 <;> simp [bI]
theorem in1_5 (x : Int32) : (∃ y, 1 ≤ y ∧ y ≤ 5 ∧ x = nI y ∧ s_in x 1 5 = true ∧ ¬ x < 1 ∧ ¬ 5 < x) ∨ (s_in x 1 5 = false ∧ (x < 1 ∨ (¬ x < 1 ∧ 5 < x))) := by
  by_cases h1 : x < 1
  · exact Or.inr ⟨by simp [s_in, h1], Or.inl h1⟩
  · by_cases h2 : 5 < x
    · exact Or.inr ⟨by simp [s_in, h2], Or.inr ⟨h1, h2⟩⟩
    · have h0 : ¬ x < 0 := by
        rw [Int32.lt_iff_toInt_lt] at h1 ⊢
        have : (1 : Int32).toInt = 1 := by decide
        have : (0 : Int32).toInt = 0 := by decide
        omega
      obtain ⟨z, hz, rfl⟩ := nI_of h0
      have h1' := h1
      have h2' := h2
      rw [show (1 : Int32) = nI 1 from rfl, nltL hz (by decide)] at h1'
      rw [show (5 : Int32) = nI 5 from rfl, nltL (by decide) hz] at h2'
      exact Or.inl ⟨z, by omega, by omega, rfl, by simp [s_in, h1, h2], h1, h2⟩
theorem b_feed (h : K n d hr lw tx F ts tb im sh μ) (x1 x2 x3 x4 x5 x6 : Int32) : Bo (m_X9_feed x1 x2 x3 x4 x5 x6) (m_X10_feed x1 x2 x3 x4 x5 x6) μ := by
  have h6 := h.x6
  have hts := h.1.2.2.2.2.2.1
  rcases in1_5 x1 with ⟨y, hy1, hy, rfl, y1, y2, y3⟩ | ⟨y0, yb⟩
  · cases a1 : s_in x2 0 255 with
    | false => exact h.no (-2) (by simp [m_X9_feed, y2, y3, c_byt, a1, bI]) (by simp [m_X10_feed, m_in, y1, m_byt, a1, bI])
    | true =>
      cases a2 : s_in x3 0 255 with
      | false => exact h.no (-2) (by simp [m_X9_feed, y2, y3, c_byt, a1, a2, bI]) (by simp [m_X10_feed, m_in, y1, m_byt, a1, a2, bI])
      | true =>
        cases a3 : s_in x4 0 255 with
        | false => exact h.no (-2) (by simp [m_X9_feed, y2, y3, c_byt, a1, a2, a3, bI]) (by simp [m_X10_feed, m_in, y1, m_byt, a1, a2, a3, bI])
        | true =>
          cases a4 : s_in x5 0 255 with
          | false => exact h.no (-2) (by simp [m_X9_feed, y2, y3, c_byt, a1, a2, a3, a4, bI]) (by simp [m_X10_feed, m_in, y1, m_byt, a1, a2, a3, a4, bI])
          | true =>
            cases a5 : s_in x6 0 255 with
            | false => exact h.no (-2) (by simp [m_X9_feed, y2, y3, c_byt, a1, a2, a3, a4, a5, bI]) (by simp [m_X10_feed, m_in, y1, m_byt, a1, a2, a3, a4, a5, bI])
            | true =>
              have c18 : μ 18 1 = nI ts := h.2.1.2.2.1.1
              have hsub : (160 : Int32) - nI ts = nI (160 - ts) := pk_sub (a := 160) hts
              by_cases hr' : ts + y ≤ 160
              · obtain ⟨a, ha, rfl⟩ := in_of (b := 255) (by decide) a1
                obtain ⟨b, hb, rfl⟩ := in_of (b := 255) (by decide) a2
                obtain ⟨c, hc, rfl⟩ := in_of (b := 255) (by decide) a3
                obtain ⟨e, he, rfl⟩ := in_of (b := 255) (by decide) a4
                obtain ⟨f, hf, rfl⟩ := in_of (b := 255) (by decide) a5
                obtain ⟨μ2, e1, e2, e3⟩ := c_fd (a := a) (b := b) (c := c) (e := e) (f := f) h.2.1.2.2.1 hy1 hy hr'
                have e' : ∀ k i, Sta k i = false → μ2 k i = μ k i := e3
                have hM : KM n d hr lw tx F ts tb im sh μ2 := h.2.2.fr fun k i p => e' k i (by simp [Sta]; omega)
                obtain ⟨g1, g2, g3, g4, g5⟩ := hM
                obtain ⟨μ3, f1, f2, f3⟩ := m_fd (a := a) (b := b) (c := c) (e := e) (f := f) g3 hy hr'
                have f' : ∀ k i, Tta k i = false → μ3 k i = μ2 k i := f3
                obtain ⟨k1, k2, k3, k4, k5⟩ := h.2.1
                have hC : KC n d hr lw tx F (ts + y) (s_apn tb ts (s_a5 a b c e f) y) im sh μ2 := ⟨k1.fr fun k i p q => e' k i (by simp [Sta]; omega), k2.fr (e' 1 0 rfl) (fun k i p q => e' k i (by simp [Sta]; omega)) h6, e2, k4.fr fun k i p q => e' k i (by simp [Sta]; omega), k5.fr fun k i p q => e' k i (by simp [Sta]; omega)⟩
                have hM2 : KM n d hr lw tx F (ts + y) (s_apn tb ts (s_a5 a b c e f) y) im sh μ3 := ⟨g1.fr (fun k i p => f' k i (by simp [Tta]; omega)) (f' 51 0 rfl) (f' 51 4 rfl) (f' 51 10 rfl), g2.fr (f' 51 9 rfl) (fun i => f' 56 i rfl) (fun i => f' 57 i rfl) (fun i => f' 64 i rfl), f2, g4.fr (f' 51 11 rfl) (fun k i p => f' k i (by simp [Tta]; omega)), g5.fr fun k i p q => f' k i (by simp [Tta]; omega)⟩
                have hby : ∀ i, i < ts + y → s_apn tb ts (s_a5 a b c e f) y i ≤ 255 := fun i hi => by
                  unfold s_apn
                  by_cases z : ts ≤ i ∧ i < ts + y
                  · rw [if_pos z]
                    have : i - ts = 0 ∨ i - ts = 1 ∨ i - ts = 2 ∨ i - ts = 3 ∨ i - ts = 4 := by omega
                    rcases this with w | w | w | w | w <;> rw [w] <;> simp only [s_a5] <;> assumption
                  · rw [if_neg z]
                    exact h.1.2.2.2.2.2.2.1 i (by omega)
                refine ⟨nI (ts + y), μ2, μ3, ?_, ?_, n, d, hr, lw, tx, F, ts + y, _, im, sh, ⟨h.1.1, h.1.2.1, h.1.2.2.1, h.1.2.2.2.1, h.1.2.2.2.2.1, hr', hby, h.1.2.2.2.2.2.2.2⟩, hC.fr h6 fun k i p => f' k i (by simp [Tta]; omega), hM2⟩
                · unfold m_X9_feed
                  rw [if_neg y2, if_neg y3, c_byt, a1, ob_some, if_neg (by decide), c_byt, a2, ob_some, if_neg (by decide), c_byt, a3, ob_some, if_neg (by decide), c_byt, a4, ob_some, if_neg (by decide), c_byt, a5, ob_some, if_neg (by decide), c18, hsub, if_pos (by rw [nleL (by omega) (by omega)]; omega)]
                  exact e1
                · unfold m_X10_feed
                  rw [m_in, y1, ob_some, if_neg (by decide), m_byt, a1, ob_some, if_neg (by decide), m_byt, a2, ob_some, if_neg (by decide), m_byt, a3, ob_some, if_neg (by decide), m_byt, a4, ob_some, if_neg (by decide), m_byt, a5, ob_some, if_neg (by decide), g3.1, nI_add, if_pos (by rw [show (160 : Int32) = nI 160 from rfl, nleL (by omega) (by omega)]; omega)]
                  exact f1
              · refine h.no (-4) ?_ ?_
                · unfold m_X9_feed
                  rw [if_neg y2, if_neg y3, c_byt, a1, ob_some, if_neg (by decide), c_byt, a2, ob_some, if_neg (by decide), c_byt, a3, ob_some, if_neg (by decide), c_byt, a4, ob_some, if_neg (by decide), c_byt, a5, ob_some, if_neg (by decide), c18, hsub, if_neg (by rw [nleL (by omega) (by omega)]; omega)]
                · unfold m_X10_feed
                  rw [m_in, y1, ob_some, if_neg (by decide), m_byt, a1, ob_some, if_neg (by decide), m_byt, a2, ob_some, if_neg (by decide), m_byt, a3, ob_some, if_neg (by decide), m_byt, a4, ob_some, if_neg (by decide), m_byt, a5, ob_some, if_neg (by decide), h.2.2.2.2.1.1, nI_add, if_neg (by rw [show (160 : Int32) = nI 160 from rfl, nleL (by omega) (by omega)]; omega)]
  · exact h.no (-2) (by rcases yb with b | ⟨b2, b3⟩ <;> simp [m_X9_feed, *]) (by simp [m_X10_feed, m_in, y0, bI])
end
