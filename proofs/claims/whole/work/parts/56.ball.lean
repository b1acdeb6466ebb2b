/-! ===== balls, on both sides; guests, in the model ===== -/
def s_ray (c q i : Nat) : Nat := if q = 0 then c + i else if q = 1 then c - i else if q = 2 then c + 6 * i else c - 6 * i
def s_ryn (c q : Nat) : Nat := if q = 0 then 6 - c % 6 else if q = 1 then c % 6 + 1 else if q = 2 then 6 - c / 6 else c / 6 + 1
theorem ray_n {c q : Nat} (hc : c < 36) : 1 ≤ s_ryn c q ∧ s_ryn c q ≤ 6 := by
  unfold s_ryn
  repeat' split
  all_goals omega
theorem ray_0 (c q : Nat) : s_ray c q 0 = c := by
  unfold s_ray
  repeat' split
  all_goals omega
theorem ray_lt {c q i : Nat} (hc : c < 36) (hi : i < s_ryn c q) : s_ray c q i < 36 := by
  unfold s_ray
  unfold s_ryn at hi
  repeat' split
  all_goals (simp_all; try omega)
theorem ray_s {c q i : Nat} (hc : c < 36) (hq : q < 4) (hi : i < s_ryn c q) : s_step (s_ray c q i) q = if i + 1 < s_ryn c q then some (s_ray c q (i + 1)) else none := by
  unfold s_step s_ray
  unfold s_ryn at hi ⊢
  match q, hq with
  | 0, _ =>
    simp only [if_true] at hi ⊢
    by_cases e : i + 1 < 6 - c % 6
    · rw [if_pos e, if_pos (by omega)]
      rfl
    · rw [if_neg e, if_neg (by omega)]
  | 1, _ =>
    simp only [show ((1 : Nat) = 0) = False by simp, if_false, if_true] at hi ⊢
    by_cases e : i + 1 < c % 6 + 1
    · rw [if_pos e, if_pos (by omega)]
      rfl
    · rw [if_neg e, if_neg (by omega)]
  | 2, _ =>
    simp only [show ((2 : Nat) = 0) = False by simp, show ((2 : Nat) = 1) = False by simp, if_false, if_true] at hi ⊢
    by_cases e : i + 1 < 6 - c / 6
    · rw [if_pos e, if_pos (by omega)]
      rfl
    · rw [if_neg e, if_neg (by omega)]
  | 3, _ =>
    simp only [show ((3 : Nat) = 0) = False by simp, show ((3 : Nat) = 1) = False by simp, show ((3 : Nat) = 2) = False by simp, if_false] at hi ⊢
    by_cases e : i + 1 < c / 6 + 1
    · rw [if_pos e, if_pos (by omega)]
      congr 1
    · rw [if_neg e, if_neg (by omega)]
/-- what a ball, or a walk, answers: fined, borders, rugs -/
def s_ba (n : Nat) (R : Nat → Option Nat) (F : Nat → Int32) (w : Nat → Nat) (z : Nat) (k : Int32) : Int32 := if k = 0 then s_sum (fun j => F (w j)) z else if k = 1 then mkA (s_wm R w z) n else nI (s_wb R w z)
theorem c_ball {n c q : Nat} {μ : ax_M} {R : Nat → Option Nat} {F : Nat → Int32} (hn : n ≤ 6) (hR : ∀ c, c < 36 → μ 32 c = rI (R c)) (hF : ∀ c, c < 36 → μ 33 c = F c) (hRn : ∀ c r, R c = some r → r < n) (hc : c < 36) (hq : q < 4) (x3 : Int32) (hx3 : x3 = 0 ∨ x3 = 1 ∨ x3 = 2) (hJ : JT n R F (s_ray c q) 0 μ) :
    ∃ μ2, m_X9_ball_51 (nI q) x3 fu (nI c) 0 μ = some (s_ba n R F (s_ray c q) (s_ryn c q) x3, μ2) ∧ Ch St μ μ2 := by
  obtain ⟨hn1, hn6⟩ := ray_n (q := q) hc
  obtain ⟨b, hb, hq2⟩ := loopK (N := s_ryn c q) (fun k i (a : Int32 × ax_M) => m_X9_ball_51 (nI q) x3 k a.1 (nI i) a.2) (fun i a => a.1 = (if i < s_ryn c q then nI (s_ray c q i) else -1) ∧ JT n R F (s_ray c q) i a.2 ∧ Ch St μ a.2) (fun a => m_X9_ball_87 x3 a.2) (by omega)
    (fun k i a hi hI => by
      obtain ⟨x, μ1⟩ := a
      obtain ⟨hx0, hJ0, hc0⟩ := hI
      have hx : x = nI (s_ray c q i) := by
        have : x = _ := hx0
        rw [this, if_pos hi]
      have hJ1 : JT n R F (s_ray c q) i μ1 := hJ0
      have hch : Ch St μ μ1 := hc0
      clear hx0 hJ0 hc0
      subst hx
      obtain ⟨μ2, e1, e2, e3⟩ := c_go hn (fun c hc => by rw [hch 32 c rfl]; exact hR c hc) (fun c hc => by rw [hch 33 c rfl]; exact hF c hc) hRn (fun j hj => ray_lt hc (by omega)) hJ1
      refine ⟨(rI (s_step (s_ray c q i) q), μ2), ?_, ?_, e2, hch.tr e3⟩
      · show m_X9_ball_51 (nI q) x3 (k + 1) _ (nI i) μ1 = _
        rw [m_X9_ball_51, if_neg (by rw [show (6 : Int32) = nI 6 from rfl, nleL (by omega) (by omega)]; omega), if_neg (nm1 (by have := ray_lt hc hi; omega)), e1, ob_some, c_step (ray_lt hc hi) hq, ob_some, na1]
      · show rI (s_step (s_ray c q i) q) = _
        rw [ray_s hc hq hi]
        by_cases e : i + 1 < s_ryn c q
        · rw [if_pos e, if_pos e]
          rfl
        · rw [if_neg e, if_neg e]
          rfl)
    (fun k a hI => by
      show m_X9_ball_51 (nI q) x3 (k + 1) a.1 (nI (s_ryn c q)) a.2 = _
      rw [m_X9_ball_51, hI.1, if_neg (Nat.lt_irrefl _)]
      split
      · rfl
      · rw [if_pos rfl])
    (nI c, μ) ⟨by rw [if_pos (by omega), ray_0], hJ, Ch.rf⟩
  obtain ⟨-, ⟨j1, j2, j3, -⟩, hch⟩ := hb
  refine ⟨b.2, ?_, hch⟩
  have e : m_X9_ball_51 (nI q) x3 fu (nI c) 0 μ = m_X9_ball_87 x3 b.2 := hq2
  rw [e]
  unfold m_X9_ball_87 m_X5_answer s_ba
  rcases hx3 with rfl | rfl | rfl
  · rw [if_pos rfl, if_pos rfl, if_pos rfl, ob_some, j1]
  · rw [if_neg (by decide), if_neg (by decide), if_neg (by decide), if_pos (by decide), ob_some, if_neg (by decide), if_pos rfl, j3]
  · rw [if_neg (by decide), if_neg (by decide), if_pos (by decide), ob_some, if_neg (by decide), if_neg (by decide), j2]
theorem m_ball {n c q : Nat} {d : Dt} {μ : ax_M} {R : Nat → Option Nat} (h : RM n d μ) (hl : LM d μ) (hR : ∀ c, c < 36 → μ 68 c = rI (R c)) (hRn : ∀ c r, R c = some r → r < n) (hc : c < 36) (hq : q < 4) (x3 : Int32) (hx3 : x3 = 0 ∨ x3 = 1 ∨ x3 = 2) :
    ∃ μ2, m_X10_ball_48 (nI q) x3 fu 0 0 0 (nI c) μ = some (s_ba n R (fun c => s_fat d (R c) c (μ 51 4)) (s_ray c q) (s_ryn c q) x3, μ2) ∧ Ch T2 μ μ2 := by
  have hn := h.1
  have hb : ∀ c r, R c = some r → r < 2 ^ 31 := fun c r h2 => by have := hRn c r h2; omega
  obtain ⟨hn1, hn6⟩ := ray_n (q := q) hc
  have hL := loopK (N := s_ryn c q) (fun k i (a : Int32 × Int32 × Int32 × Int32 × ax_M) => m_X10_ball_48 (nI q) x3 k a.1 a.2.1 a.2.2.1 a.2.2.2.1 a.2.2.2.2) (fun i a => a.1 = s_sum (fun j => s_fat d (R (s_ray c q j)) (s_ray c q j) (μ 51 4)) i ∧ a.2.1 = mkA (s_wm R (s_ray c q) i) n ∧ a.2.2.1 = nI (s_wb R (s_ray c q) (if i < s_ryn c q then i + 1 else s_ryn c q)) ∧ a.2.2.2.1 = (if i < s_ryn c q then nI (s_ray c q i) else -1) ∧ Ch T2 μ a.2.2.2.2) (fun a => some (if x3 = 0 then a.1 else if x3 = 1 then a.2.1 else a.2.2.1, a.2.2.2.2)) (by omega)
    (fun k i a hi hI => by
      obtain ⟨x4, x5, x6, x7, μ1⟩ := a
      obtain ⟨a1, a2, a3, a4, a5⟩ := hI
      have h4 : x4 = _ := a1
      have h5 : x5 = _ := a2
      have h6 : x6 = nI (s_wb R (s_ray c q) (i + 1)) := by
        have : x6 = _ := a3
        rw [this, if_pos hi]
      have h7 : x7 = nI (s_ray c q i) := by
        have : x7 = _ := a4
        rw [this, if_pos hi]
      have hch : Ch T2 μ μ1 := a5
      clear a1 a2 a3 a4 a5
      subst h4 h5 h6 h7
      have hci := ray_lt hc hi
      obtain ⟨μ2, e1, e2⟩ := m_fat (h.ch hch T2N) (hl.ch hch T2N) (R := R) (fun c hc => by rw [hch 68 c rfl]; exact hR c hc) hRn hci
      rw [hch 51 4 rfl] at e1
      have hch2 := hch.tr e2
      have hR2 : ∀ c, c < 36 → μ2 68 c = rI (R c) := fun c hc => by rw [hch2 68 c rfl]; exact hR c hc
      refine ⟨(s_sum (fun j => s_fat d (R (s_ray c q j)) (s_ray c q j) (μ 51 4)) (i + 1), mkA (s_wm R (s_ray c q) (i + 1)) n, nI (s_wb R (s_ray c q) (if i + 1 < s_ryn c q then i + 2 else s_ryn c q)), (if i + 1 < s_ryn c q then nI (s_ray c q (i + 1)) else -1), μ2), ?_, rfl, rfl, rfl, rfl, hch2⟩
      show m_X10_ball_48 (nI q) x3 (k + 1) _ _ _ _ μ1 = m_X10_ball_48 (nI q) x3 k _ _ _ _ μ2
      rw [m_X10_ball_48, if_neg (nm1 (by omega)), m_step hci hq, ob_some, e1, bind2_some, ix_nI hci (by decide)]
      simp only [ob_some, hR2 _ hci, rI_m1 (hb _)]
      -- the last piece, with any mask
      have tail : ∀ (s1 : Int32), mkA (s_wm R (s_ray c q) i) n ||| s1 = mkA (s_wm R (s_ray c q) (i + 1)) n → m_X10_ball_99 (nI q) x3 (s_sum (fun j => s_fat d (R (s_ray c q j)) (s_ray c q j) (μ 51 4)) i + s_fat d (R (s_ray c q i)) (s_ray c q i) (μ 51 4)) (nI (s_wb R (s_ray c q) (i + 1))) (nI (s_ray c q i)) (rI (s_step (s_ray c q i) q)) (mkA (s_wm R (s_ray c q) i) n) s1 (m_X10_ball_48 (nI q) x3 k) μ2 = m_X10_ball_48 (nI q) x3 k (s_sum (fun j => s_fat d (R (s_ray c q j)) (s_ray c q j) (μ 51 4)) (i + 1)) (mkA (s_wm R (s_ray c q) (i + 1)) n) (nI (s_wb R (s_ray c q) (if i + 1 < s_ryn c q then i + 2 else s_ryn c q))) (if i + 1 < s_ryn c q then nI (s_ray c q (i + 1)) else -1) μ2 := by
        intro s1 hs1
        unfold m_X10_ball_99
        rw [hs1, ray_s hc hq hi]
        by_cases e : i + 1 < s_ryn c q
        · have hcj := ray_lt hc e
          simp only [if_pos e]
          rw [if_neg (show ¬ rI (some (s_ray c q (i + 1))) = -1 from nm1 (by omega)), show rI (some (s_ray c q (i + 1))) = nI (s_ray c q (i + 1)) from rfl, ix_nI hci (by decide), within35 hcj]
          simp only [ob_some]
          rw [ix_nI hcj (by decide)]
          simp only [ob_some, hR2 _ hci, hR2 _ hcj, rI_inj (hb _) (hb _)]
          by_cases e2 : R (s_ray c q i) = R (s_ray c q (i + 1))
          · rw [if_pos e2]
            have : nI (s_wb R (s_ray c q) (i + 2)) = nI (s_wb R (s_ray c q) (i + 1)) + 0 := by
              rw [show (0 : Int32) = nI 0 from rfl, nI_add]
              simp [s_wb, s_num, s_pv, s_crs, e2]
            rw [this]
            rfl
          · rw [if_neg e2]
            have : nI (s_wb R (s_ray c q) (i + 2)) = nI (s_wb R (s_ray c q) (i + 1)) + 1 := by
              rw [na1]
              simp [s_wb, s_num, s_pv, s_crs, e2]
            rw [this]
            rfl
        · simp only [if_neg e]
          rw [if_pos (show rI none = -1 from rfl), show s_ryn c q = i + 1 by omega]
          rfl
      by_cases e : R (s_ray c q i) = none
      · rw [if_pos e]
        refine tail 0 ?_
        rw [or0]
        exact mkA_same fun p => by simp [s_wm, s_any, e]
      · rw [if_neg e]
        obtain ⟨y, hy⟩ : ∃ y, R (s_ray c q i) = some y := by
          cases hz : R (s_ray c q i) with
          | none => exact absurd hz e
          | some y => exact ⟨y, rfl⟩
        have hyn := hRn _ y hy
        refine tail _ ?_
        rw [hy, show rI (some y) = nI y from rfl, mkA_set hyn (by omega)]
        refine mkA_same fun p => ?_
        simp only [s_wm, s_any, hy]
        by_cases hqy : p = y
        · subst hqy
          simp
        · have h2 : ¬ y = p := fun z => hqy z.symm
          simp [hqy, h2])
    (fun k a hI => by
      show m_X10_ball_48 (nI q) x3 (k + 1) a.1 a.2.1 a.2.2.1 a.2.2.2.1 a.2.2.2.2 = _
      rw [m_X10_ball_48, hI.2.2.2.1, if_neg (Nat.lt_irrefl _), if_pos rfl]
      by_cases e0 : x3 = 0
      · simp [e0]
      · by_cases e1 : x3 = 1
        · simp [e1]
        · simp [e0, e1])
    (0, 0, 0, nI c, μ) ⟨rfl, by simp [mkA, mk6, s_wm, s_any], by rw [if_pos (show 0 < s_ryn c q by omega)]; rfl, by rw [if_pos (show 0 < s_ryn c q by omega), ray_0], Ch.rf⟩
  obtain ⟨b, ⟨b1, b2, b3, b4, b5⟩, hq2⟩ := hL
  rw [if_neg (Nat.lt_irrefl _)] at b3
  refine ⟨b.2.2.2.2, ?_, b5⟩
  unfold s_ba
  rw [← b1, ← b2, ← b3]
  exact hq2
