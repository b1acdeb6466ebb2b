/-! ===== rugsBy, image, back ===== -/
section
variable {n hr lw tx ts : Nat} {d : Dt} {F : Nat → Lw} {tb : Nat → Nat} {im : Im} {sh : Sh4} {μ μ2 : ax_M}
theorem b_rugsBy (h : K n d hr lw tx F ts tb im sh μ) (x1 x2 x3 x4 : Int32) : Bo (m_X9_rugsBy x1 x2 x3 x4) (m_X10_rugsBy x1 x2 x3 x4) μ := by
  rcases argb x1 3 3 4 rfl rfl (by decide) with ⟨s, hs, rfl, g1, g2, g3, g4, g5, g6⟩ | ⟨b0, b1⟩
  · have hs4 : s < 4 := by omega
    have i4 : ix 4 (nI s) = some s := ix_nI hs4 (by decide)
    rcases argb x2 2 2 3 rfl rfl (by decide) with ⟨p, hp, rfl, j1, j2, j3, j4, j5, j6⟩ | ⟨b0, b1⟩
    · rcases argb x4 6 6 7 rfl rfl (by decide) with ⟨y, hy, rfl, k1, k2, k3, k4, k5, k6⟩ | ⟨b0, b1⟩
      · obtain ⟨hso, hsz⟩ := h.1.2.2.2.2.2.2.2.2 s hs4
        obtain ⟨c1, c2, c3⟩ := h.2.1.2.2.2.2 s hs4
        have hcl : m_X9_rugsBy (nI s) (nI p) x3 (nI y) μ = if sh_o sh s = -1 then some (-11, μ) else if sh_o sh s = nI p then m_X9_rugsBy_74 (nI s) (nI y) fu 0 x3 0 μ else some (-13, μ) := by
          unfold m_X9_rugsBy
          rw [if_neg g2, if_neg g3, if_neg j2, if_neg j3, if_neg k2, if_pos k5, i4]
          simp only [ob_some, c1]
        have hml : ∀ μ', μ' 60 s = sh_o sh s → m_X10_rugsBy (nI s) (nI p) x3 (nI y) μ' = if sh_o sh s = -1 then some (-11, μ') else if sh_o sh s = nI p then m_X10_rugsBy_64 (nI s) x3 (nI y) fu 0 0 μ' else some (-13, μ') := fun μ' m1 => by
          unfold m_X10_rugsBy
          rw [m_in, g1, ob_some, if_neg (by decide), m_in, j1, ob_some, if_neg (by decide), m_in, k1, ob_some, if_neg (by decide), i4]
          simp only [ob_some, m1]
        have m1 := (h.2.2.2.2.2.2 s hs4).1
        by_cases e1 : sh_o sh s = -1
        · exact h.no (-11) (by rw [hcl, if_pos e1]) (by rw [hml μ m1, if_pos e1])
        · by_cases e2 : sh_o sh s = nI p
          · by_cases hx : x3 < 0
            · refine h.no (if y = 0 then 0 else -12) ?_ ?_
              · rw [hcl, if_neg e1, if_pos e2, show fu = 999999 + 1 from rfl, m_X9_rugsBy_74]
                by_cases e : y = 0
                · subst e
                  rw [if_pos (by decide), if_pos rfl]
                · rw [if_neg (show ¬ nI y ≤ 0 by rw [show (0 : Int32) = nI 0 from rfl, nleL (by omega) (by omega)]; omega), if_pos hx, if_neg e]
              · rw [hml μ m1, if_neg e1, if_pos e2, show fu = 999999 + 1 from rfl, m_X10_rugsBy_64]
                by_cases e : y = 0
                · subst e
                  rw [if_pos (by decide), if_pos rfl]
                · rw [if_neg (show ¬ nI y ≤ 0 by rw [show (0 : Int32) = nI 0 from rfl, nleL (by omega) (by omega)]; omega), if_pos hx, if_neg e]
            · obtain ⟨f, hf, rfl⟩ := nI_of hx
              have hfu : 1000 ≤ fu := by decide
              obtain ⟨μ2, a1, a2, a3⟩ := c_rb (C := sh_v sh s) hs4 hsz hf hy y 0 0 fu n d μ (by omega) (by omega) (by omega) (fun z => by omega) h.rc c2 c3
              have hm := h.2.2.off (sqR a3)
              obtain ⟨n1, n2, n3'⟩ := hm.2.2.2.2 s hs4
              obtain ⟨μ3, f1, f2, f3⟩ := m_rb (C := sh_v sh s) hs4 hsz hf hy y 0 0 fu n d μ2 (by omega) (by omega) (by omega) (fun z => by omega) hm.1.1 n2 n3'
              obtain ⟨o1, o2, o3⟩ := rb_ok (C := sh_v sh s) (z := sh_z sh s) (f := f) y 0 0 n d h.n6 h.1.2.2.2.2.1
              refine ⟨(s_rb (sh_v sh s) (sh_z sh s) f y 0 0 n d).1, μ2, μ3, ?_, ?_, (h.upr (sqR a3) ⟨a2, ?_, ?_⟩ (tqQ f3) ⟨f2, ?_, ?_⟩ ⟨h.1.1, h.1.2.1, h.1.2.2.1, by rw [o3]; exact h.1.2.2.2.1, o1, h.1.2.2.2.2.2.1, h.1.2.2.2.2.2.2.1, h.1.2.2.2.2.2.2.2.1.up o2, h.1.2.2.2.2.2.2.2.2⟩).x⟩
              · rw [hcl, if_neg e1, if_pos e2]
                exact a1
              · rw [hml μ2 n1, if_neg e1, if_pos e2]
                exact f1
              · rw [a3 25 2 rfl]; exact h.h2
              · rw [a3 25 3 rfl]; exact h.2.1.1.2.2
              · rw [f3 51 4 rfl]; exact hm.1.2.1
              · rw [f3 51 10 rfl]; exact hm.1.2.2
          · exact h.no (-13) (by rw [hcl, if_neg e1, if_neg e2]) (by rw [hml μ m1, if_neg e1, if_neg e2])
      · exact h.no (-2) (by rcases b1 with b | ⟨b2, b3, b4, b5, b6⟩ <;> simp [m_X9_rugsBy, g2, g3, j2, j3, *]) (by simp [m_X10_rugsBy, m_in, g1, j1, b0, bI])
    · exact h.no (-2) (by rcases b1 with b | ⟨b2, b3, b4, b5, b6⟩ <;> simp [m_X9_rugsBy, g2, g3, *]) (by simp [m_X10_rugsBy, m_in, g1, b0, bI])
  · exact h.no (-2) (by rcases b1 with b | ⟨b2, b3, b4, b5, b6⟩ <;> simp [m_X9_rugsBy, *]) (by simp [m_X10_rugsBy, m_in, b0, bI])
theorem q_cp6 {a b : Nat} (ha : q_n a = some 6) (hb : q_n b = some 6) : q_cp μ a 0 b 0 6 = some (ax_cp μ a 0 b 0 6) := by
  unfold q_cp
  rw [ha, hb, ob_some, ob_some, if_neg (by decide)]
  rfl
theorem cp6 {a b k i : Nat} : (ax_cp μ a 0 b 0 6) k i = if k = b ∧ i < 6 then μ a i else μ k i := by
  unfold ax_cp va_cpy
  by_cases e : k = b
  · by_cases e2 : i < 6
    · simp [e, e2]
    · simp [e, e2]
  · simp [e]
def SI (k i : Nat) : Bool := k == 39 || k == 40 || k == 41 || k == 42
def TI (k i : Nat) : Bool := k == 58 || k == 59 || (k == 51 && i == 11)
theorem m_im (μ : ax_M) : ∃ μ2, m_X10_image μ = some (μ 51 0, μ2) ∧ (∀ j, j < 18 → μ2 58 j = μ 54 j) ∧ μ2 59 0 = μ 51 0 ∧ μ2 59 1 = μ 51 4 ∧ μ2 59 2 = μ 51 10 ∧ μ2 51 11 = 1 ∧ Ch TI μ μ2 := by
  obtain ⟨b, hb, hq⟩ := loopK (N := 18) (fun k i (a : ax_M) => m_X10_image_7 k (nI i) a) (fun i a => (∀ j, j < i → a 58 j = μ 54 j) ∧ a 51 11 = 1 ∧ (∀ k j, ¬ k = 58 → ¬ (k = 51 ∧ j = 11) → a k j = μ k j)) (fun a => some (a 51 0, ax_w (ax_w (ax_w a 59 0 (a 51 0)) 59 1 (a 51 4)) 59 2 (a 51 10))) (by omega)
    (fun k i a hi hI => by
      obtain ⟨h1, h2, h3⟩ := hI
      show ∃ a2, m_X10_image_7 (k + 1) (nI i) a = _ ∧ _
      rw [m_X10_image_7, if_neg (by rw [show (18 : Int32) = nI 18 from rfl, nleL (by omega) (by omega)]; omega), ix_nI hi (by decide), ob_some, ob_some, na1]
      refine ⟨_, rfl, fun j hj => ?_, ?_, fun k j hk1 hk2 => ?_⟩
      · by_cases e : j = i
        · rw [e, w_ss]
          exact h3 54 i (by decide) (by simp)
        · rw [w_i e]
          exact h1 j (by omega)
      · rw [w_k (by decide)]
        exact h2
      · rw [w_k hk1]
        exact h3 k j hk1 hk2)
    (fun k a hI => by
      show m_X10_image_7 (k + 1) (nI 18) a = _
      rw [m_X10_image_7, if_pos (by decide)]
      rfl)
    (ax_w μ 51 11 1) ⟨fun j hj => by omega, w_ss, fun k j h1 h2 => w_e (fun z => h2 ⟨z.1, z.2⟩)⟩
  obtain ⟨h1, h2, h3⟩ := hb
  refine ⟨ax_w (ax_w (ax_w b 59 0 (b 51 0)) 59 1 (b 51 4)) 59 2 (b 51 10), ?_, ?_, ?_, ?_, ?_, ?_, ?_⟩
  · unfold m_X10_image
    rw [show m_X10_image_7 fu 0 (ax_w μ 51 11 1) = _ from hq, h3 51 0 (by decide) (by decide)]
  · intro j hj
    rw [w_k (by decide), w_k (by decide), w_k (by decide)]
    exact h1 j hj
  · rw [w_i (by decide), w_i (by decide), w_ss]
    exact h3 51 0 (by decide) (by decide)
  · rw [w_i (by decide), w_ss]
    exact h3 51 4 (by decide) (by decide)
  · rw [w_ss]
    exact h3 51 10 (by decide) (by decide)
  · rw [w_k (by decide), w_k (by decide), w_k (by decide)]
    exact h2
  · intro k j hs
    simp [TI] at hs
    rw [w_k (by omega), w_k (by omega), w_k (by omega)]
    exact h3 k j (by omega) (by omega)
theorem c_im (μ : ax_M) : ∃ μ2, m_X9_image μ = some (μ 25 1, μ2) ∧ μ2 39 0 = 1 ∧ μ2 39 1 = μ 25 1 ∧ μ2 39 2 = μ 25 2 ∧ μ2 39 3 = μ 25 3 ∧ (∀ j, j < 6 → μ2 40 j = μ 28 j ∧ μ2 41 j = μ 29 j ∧ μ2 42 j = μ 31 j) ∧ Ch SI μ μ2 := by
  have q28 : q_n 28 = some 6 := by decide
  have q29 : q_n 29 = some 6 := by decide
  have q31 : q_n 31 = some 6 := by decide
  have q40 : q_n 40 = some 6 := by decide
  have q41 : q_n 41 = some 6 := by decide
  have q42 : q_n 42 = some 6 := by decide
  refine ⟨ax_cp (ax_cp (ax_cp (ax_w (ax_w (ax_w (ax_w μ 39 0 1) 39 1 (μ 25 1)) 39 2 (μ 25 2)) 39 3 (μ 25 3)) 28 0 40 0 6) 29 0 41 0 6) 31 0 42 0 6, ?_, ?_, ?_, ?_, ?_, ?_, ?_⟩
  · unfold m_X9_image m_X1_keep
    have e1 : (ax_w μ 39 0 1) 25 1 = μ 25 1 := w_k (by decide)
    have e2 : ∀ v, (ax_w (ax_w μ 39 0 1) 39 1 v) 25 2 = μ 25 2 := fun v => by rw [w_k (by decide), w_k (by decide)]
    have e3 : ∀ v w, (ax_w (ax_w (ax_w μ 39 0 1) 39 1 v) 39 2 w) 25 3 = μ 25 3 := fun v w => by rw [w_k (by decide), w_k (by decide), w_k (by decide)]
    rw [e1, e2, e3, q_cp6 q28 q40, ob_some, q_cp6 q29 q41, ob_some, q_cp6 q31 q42, ob_some, ob_some]
    simp [cp6, ax_w]
  · simp [cp6, ax_w]
  · simp [cp6, ax_w]
  · simp [cp6, ax_w]
  · simp [cp6, ax_w]
  · intro j hj
    simp [cp6, ax_w, hj]
  · intro k j hs
    simp [SI] at hs
    simp [cp6, ax_w, hs]
theorem b_image (h : K n d hr lw tx F ts tb im sh μ) : Bo m_X9_image m_X10_image μ := by
  obtain ⟨μ2, a1, a2, a3, a4, a5, a6, a7⟩ := c_im μ
  obtain ⟨μ3, f1, f2, f3, f4, f5, f6, f7⟩ := m_im μ2
  have hn := h.n6
  have hm : KM n d hr lw tx F ts tb im sh μ2 := h.2.2.fr fun k i a => a7 k i (by simp [SI]; omega)
  obtain ⟨h1, h2, h3, h4, h5⟩ := h.2.1
  obtain ⟨g1, g2, g3, g4, g5⟩ := hm
  have e : ∀ k i, SI k i = false → μ2 k i = μ k i := a7
  have e' : ∀ k i, TI k i = false → μ3 k i = μ2 k i := f7
  have hC : KC n d hr lw tx F ts tb (1, n, hr, lw, d_a d, d_b d, d_g d) sh μ2 := ⟨h1.fr fun k i a b => e k i (by simp [SI]; omega), h2.fr (e 1 0 rfl) (fun k i a b => e k i (by simp [SI]; omega)) h.x6, h3.fr (e 18 1 rfl) fun i => e 19 i rfl, ⟨a2, fun _ => ⟨a3.trans h.rc.2.1, a4.trans h.h2, a5.trans h1.2.2, fun r hr => ?_⟩⟩, h5.fr fun k i a b => e k i (by simp [SI]; omega)⟩
  · have hM : KM n d hr lw tx F ts tb (1, n, hr, lw, d_a d, d_b d, d_g d) sh μ3 := ⟨g1.fr (fun k i a => e' k i (by simp [TI]; omega)) (e' 51 0 rfl) (e' 51 4 rfl) (e' 51 10 rfl), g2.fr (e' 51 9 rfl) (fun i => e' 56 i rfl) (fun i => e' 57 i rfl) (fun i => e' 64 i rfl), g3.fr (e' 51 6 rfl) fun i => e' 55 i rfl, ⟨f6, fun _ => ⟨f3.trans g1.1.2.1, f4.trans g1.2.1, f5.trans g1.2.2, fun r hr => ?_⟩⟩, g5.fr fun k i a b => e' k i (by simp [TI]; omega)⟩
    · refine ⟨nI n, μ2, μ3, ?_, ?_, n, d, hr, lw, tx, F, ts, tb, (1, n, hr, lw, d_a d, d_b d, d_g d), sh, ⟨h.1.1, h.1.2.1, h.1.2.2.1, h.1.2.2.2.1, h.1.2.2.2.2.1, h.1.2.2.2.2.2.1, h.1.2.2.2.2.2.2.1, Or.inr ⟨rfl, Nat.le_refl n, h.1.1, h.1.2.1, fun r hr => ?_⟩, h.1.2.2.2.2.2.2.2.2⟩, hC.fr h.x6 fun k i a => e' k i (by simp [TI]; omega), hM⟩
      · rw [a1, h.rc.2.1]
      · rw [f1, g1.1.2.1]
      · obtain ⟨-, -, -, -, -, -, a7, a8, a9, a10⟩ := h.rc.2.2 r hr
        exact ⟨a7, a8, a9, a10, (h.1.2.2.2.2.1 r hr).2.2⟩
    · have hr' : r < n := hr
      obtain ⟨-, -, m3, m4, m5, -⟩ := g1.1.2.2 r hr'
      exact ⟨(f2 _ (by omega)).trans m3, (f2 _ (by omega)).trans m4, (f2 _ (by omega)).trans m5⟩
  · have hr' : r < n := hr
    obtain ⟨-, -, m3, m4, -, m5, -⟩ := h.rc.2.2 r hr'
    obtain ⟨x1, x2, x3⟩ := a6 r (by omega)
    exact ⟨x1.trans m3, x2.trans m4, x3.trans m5⟩
theorem m_bk {n0 : Nat} (h11 : μ 51 11 = 1) (hn0 : n0 ≤ 6) (h0 : μ 59 0 = nI n0) : ∃ μ2, m_X10_back μ = some (nI n0, μ2) ∧ (∀ j, j < 18 → μ2 54 j = μ 58 j) ∧ μ2 51 0 = nI n0 ∧ μ2 51 4 = μ 59 1 ∧ μ2 51 10 = μ 59 2 ∧ Ch SQ μ μ2 ∧ (∀ j, μ2 52 j = μ 52 j ∧ μ2 53 j = μ 53 j) := by
  obtain ⟨b, hb, hq⟩ := loopK (N := 18) (fun k i (a : ax_M) => m_X10_back_12 k (nI i) a) (fun i a => (∀ j, j < i → a 54 j = μ 58 j) ∧ (∀ k j, ¬ k = 54 → a k j = μ k j)) (fun a => some (a 59 0, ax_w (ax_w (ax_w a 51 0 (a 59 0)) 51 4 (a 59 1)) 51 10 (a 59 2))) (by omega)
    (fun k i a hi hI => by
      obtain ⟨h1, h3⟩ := hI
      show ∃ a2, m_X10_back_12 (k + 1) (nI i) a = _ ∧ _
      rw [m_X10_back_12, if_neg (by rw [show (18 : Int32) = nI 18 from rfl, nleL (by omega) (by omega)]; omega), ix_nI hi (by decide), ob_some, ob_some, na1]
      refine ⟨_, rfl, fun j hj => ?_, fun k j hk1 => ?_⟩
      · by_cases e : j = i
        · rw [e, w_ss]
          exact h3 58 i (by decide)
        · rw [w_i e]
          exact h1 j (by omega)
      · rw [w_k hk1]
        exact h3 k j hk1)
    (fun k a hI => by
      show m_X10_back_12 (k + 1) (nI 18) a = _
      rw [m_X10_back_12, if_pos (by decide)]
      rfl)
    μ ⟨fun j hj => by omega, fun k j h1 => rfl⟩
  obtain ⟨h1, h3⟩ := hb
  refine ⟨ax_w (ax_w (ax_w b 51 0 (b 59 0)) 51 4 (b 59 1)) 51 10 (b 59 2), ?_, ?_, ?_, ?_, ?_, ?_, ?_⟩
  · unfold m_X10_back
    rw [h11, if_neg (by decide), show m_X10_back_12 fu 0 μ = _ from hq, h3 59 0 (by decide), h0]
  · intro j hj
    rw [w_k (by decide), w_k (by decide), w_k (by decide)]
    exact h1 j hj
  · rw [w_i (by decide), w_i (by decide), w_ss]
    exact (h3 59 0 (by decide)).trans h0
  · rw [w_i (by decide), w_ss]
    exact h3 59 1 (by decide)
  · rw [w_ss]
    exact h3 59 2 (by decide)
  · intro k j hs
    simp [SQ, SM] at hs
    rw [w_e (by omega), w_e (by omega), w_e (by omega)]
    exact h3 k j (by omega)
  · intro j
    rw [w_k (by decide), w_k (by decide), w_k (by decide), w_k (by decide), w_k (by decide), w_k (by decide)]
    exact ⟨h3 52 j (by decide), h3 53 j (by decide)⟩
end
