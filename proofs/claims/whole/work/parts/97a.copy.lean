/-! ===== copy, film ===== -/
section
variable {n hr lw tx ts : Nat} {d : Dt} {F : Nat → Lw} {tb : Nat → Nat} {im : Im} {sh : Sh4} {μ μ2 μ3 : ax_M}
theorem sub_lt {z i y : Nat} (hz : z ≤ 40) (hi : i < 2 ^ 31) (hy : y < 2 ^ 31) : (nI z - nI i < nI y) = (z < i + y) ∧ (nI y ≤ nI z - nI i) = (i + y ≤ z) := by
  have e : (nI z - nI i).toInt = (z : Int) - i := by
    rw [Int32.toInt_sub, nI_toInt (by omega), nI_toInt hi]
    exact Int.bmod_eq_of_le (by omega) (by omega)
  have e2 := nI_toInt hy
  constructor
  · rw [Int32.lt_iff_toInt_lt, e, e2]
    exact propext ⟨fun h => by omega, fun h => by omega⟩
  · rw [Int32.le_iff_toInt_le, e, e2]
    exact propext ⟨fun h => by omega, fun h => by omega⟩
theorem m_cpy {a b y : Nat} (ha : a + y ≤ 160) (hb : b + y ≤ 160) (μ : ax_M) : ∃ μ2, m_X10_copy_147 (nI y) (nI a) (nI b) fu 0 μ = some (nI y, μ2) ∧ (∀ i, μ2 62 i = if b ≤ i ∧ i < b + y then μ 62 (a + (i - b)) else μ 62 i) ∧ ∀ k i, k ≠ 62 → μ2 k i = μ k i := by
  by_cases hab : b ≤ a
  · obtain ⟨p, hp, hq⟩ := loopK (N := y) (fun k i (q : ax_M) => m_X10_copy_147 (nI y) (nI a) (nI b) k (nI i) q) (fun j q => (∀ i, q 62 i = if b ≤ i ∧ i < b + j then μ 62 (a + (i - b)) else μ 62 i) ∧ ∀ k i, k ≠ 62 → q k i = μ k i) (fun q => some (nI y, q)) (by omega)
      (fun k j q hj hI => by
        obtain ⟨h1, h2⟩ := hI
        show ∃ a2, m_X10_copy_147 (nI y) (nI a) (nI b) (k + 1) (nI j) q = _ ∧ _
        rw [m_X10_copy_147, if_neg (by rw [nleL (by omega) (by omega)]; omega), if_pos (by rw [nleL (by omega) (by omega)]; exact hab)]
        unfold m_X10_copy_173
        rw [nI_add, nI_add, ix_nI (show a + j < 160 by omega) (by decide), ob_some, ix_nI (show b + j < 160 by omega) (by decide), ob_some, na1]
        refine ⟨_, rfl, fun i => ?_, fun k i hk => ?_⟩
        · by_cases e : i = b + j
          · subst e
            rw [w_ss, if_pos (by omega), h1, if_neg (by omega)]
            congr 1
            omega
          · rw [w_i e, h1]
            by_cases e2 : b ≤ i ∧ i < b + j
            · rw [if_pos e2, if_pos (by omega)]
            · rw [if_neg e2, if_neg (by omega)]
        · rw [w_k hk]
          exact h2 k i hk)
      (fun k q hI => by
        show m_X10_copy_147 (nI y) (nI a) (nI b) (k + 1) (nI y) q = _
        rw [m_X10_copy_147, if_pos (Int32.le_refl _)])
      μ ⟨fun i => by rw [if_neg (by omega)], fun k i _ => rfl⟩
    exact ⟨p, hq, hp.1, hp.2⟩
  · obtain ⟨p, hp, hq⟩ := loopK (N := y) (fun k i (q : ax_M) => m_X10_copy_147 (nI y) (nI a) (nI b) k (nI i) q) (fun j q => (∀ i, q 62 i = if b + (y - j) ≤ i ∧ i < b + y then μ 62 (a + (i - b)) else μ 62 i) ∧ ∀ k i, k ≠ 62 → q k i = μ k i) (fun q => some (nI y, q)) (by omega)
      (fun k j q hj hI => by
        obtain ⟨h1, h2⟩ := hI
        show ∃ a2, m_X10_copy_147 (nI y) (nI a) (nI b) (k + 1) (nI j) q = _ ∧ _
        rw [m_X10_copy_147, if_neg (by rw [nleL (by omega) (by omega)]; omega), if_neg (by rw [nleL (by omega) (by omega)]; exact hab)]
        unfold m_X10_copy_173
        rw [show nI y - 1 - nI j = nI (y - 1 - j) from by rw [show nI y - 1 = nI (y - 1) from pk_sub (b := 1) (by omega), pk_sub (by omega)], nI_add, nI_add, ix_nI (show a + (y - 1 - j) < 160 by omega) (by decide), ob_some, ix_nI (show b + (y - 1 - j) < 160 by omega) (by decide), ob_some, na1]
        refine ⟨_, rfl, fun i => ?_, fun k i hk => ?_⟩
        · by_cases e : i = b + (y - 1 - j)
          · subst e
            rw [w_ss, if_pos (by omega), h1, if_neg (by omega)]
            congr 1
            omega
          · rw [w_i e, h1]
            by_cases e2 : b + (y - j) ≤ i ∧ i < b + y
            · rw [if_pos e2, if_pos (by omega)]
            · rw [if_neg e2, if_neg (by omega)]
        · rw [w_k hk]
          exact h2 k i hk)
      (fun k q hI => by
        show m_X10_copy_147 (nI y) (nI a) (nI b) (k + 1) (nI y) q = _
        rw [m_X10_copy_147, if_pos (Int32.le_refl _)])
      μ ⟨fun i => by rw [if_neg (by omega)], fun k i _ => rfl⟩
    obtain ⟨h1, h2⟩ := hp
    refine ⟨p, hq, fun i => ?_, h2⟩
    rw [h1, Nat.sub_self, Nat.add_zero]
theorem b_copy (h : K n d hr lw tx F ts tb im sh μ) (x1 x2 x3 x4 x5 : Int32) : Bo (m_X9_copy x1 x2 x3 x4 x5) (m_X10_copy x1 x2 x3 x4 x5) μ := by
  rcases argb x1 3 3 4 rfl rfl (by decide) with ⟨s, hs, rfl, g1, g2, g3, g4, g5, g6⟩ | ⟨b0, b1⟩
  · rcases argb x3 3 3 4 rfl rfl (by decide) with ⟨o, ho, rfl, j1, j2, j3, j4, j5, j6⟩ | ⟨b0, b1⟩
    · have hs4 : s < 4 := by omega
      have ho4 : o < 4 := by omega
      have i4 : ix 4 (nI s) = some s := ix_nI hs4 (by decide)
      have i4o : ix 4 (nI o) = some o := ix_nI ho4 (by decide)
      obtain ⟨hso, hsz⟩ := h.1.2.2.2.2.2.2.2.2 s hs4
      obtain ⟨hoo, hoz⟩ := h.1.2.2.2.2.2.2.2.2 o ho4
      obtain ⟨c1, c2, c3⟩ := h.2.1.2.2.2.2 s hs4
      obtain ⟨d1, d2, d3⟩ := h.2.1.2.2.2.2 o ho4
      have hcl : m_X9_copy (nI s) x2 (nI o) x4 x5 μ = if sh_o sh s = -1 then some (-11, μ) else if sh_o sh o = -1 then some (-11, μ) else if sh_o sh s = sh_o sh o then (if x2 < 0 then some (-12, μ) else if x4 < 0 then some (-12, μ) else if x5 < 0 then some (-12, μ) else if nI (sh_z sh s) - x2 < x5 then some (-12, μ) else if x5 ≤ nI (sh_z sh o) - x4 then (q_cp μ (45 + s) x2 (45 + o) x4 x5).bind fun μ29 => some (x5, μ29) else some (-12, μ)) else some (-13, μ) := by
        unfold m_X9_copy
        rw [if_neg g2, if_neg g3, if_neg j2, if_pos j4, i4, i4o, ob_some, ob_some, ob_some, ob_some, ob_some, ob_some, ob_some, ob_some, c1, c2, d1, d2]
      have hml : ∀ μ' : ax_M, μ' 60 s = sh_o sh s → μ' 60 o = sh_o sh o → μ' 61 s = nI (sh_z sh s) → μ' 61 o = nI (sh_z sh o) → m_X10_copy (nI s) x2 (nI o) x4 x5 μ' = if sh_o sh s = -1 then some (-11, μ') else if sh_o sh o = -1 then some (-11, μ') else if sh_o sh s = sh_o sh o then (if x5 < 0 then some (-12, μ') else if x2 < 0 then some (-12, μ') else if x4 < 0 then some (-12, μ') else if nI (sh_z sh s) < x2 then some (-12, μ') else if nI (sh_z sh o) < x4 then some (-12, μ') else if nI (sh_z sh s) - x2 < x5 then some (-12, μ') else if x5 ≤ nI (sh_z sh o) - x4 then m_X10_copy_147 x5 (((40 : Int32) * nI s) + x2) (((40 : Int32) * nI o) + x4) fu 0 μ' else some (-12, μ')) else some (-13, μ') := by
        intro μ' a1 a2 a3 a4
        unfold m_X10_copy
        rw [m_in, g1, ob_some, if_neg (by decide), m_in, j1, ob_some, if_neg (by decide), i4, i4o, ob_some, ob_some, ob_some, ob_some, ob_some, ob_some, ob_some, ob_some, a1, a2, a3, a4]
      obtain ⟨m1, m2, m3⟩ := h.2.2.2.2.2.2 s hs4
      obtain ⟨n1, n2, n3'⟩ := h.2.2.2.2.2.2 o ho4
      have hmμ := hml μ m1 n1 m2 n2
      by_cases e1 : sh_o sh s = -1
      · exact h.no (-11) (by rw [hcl, if_pos e1]) (by rw [hmμ, if_pos e1])
      · by_cases e2 : sh_o sh o = -1
        · exact h.no (-11) (by rw [hcl, if_neg e1, if_pos e2]) (by rw [hmμ, if_neg e1, if_pos e2])
        · by_cases e3 : sh_o sh s = sh_o sh o
          · by_cases p2 : x2 < 0
            · refine h.no (-12) (by rw [hcl, if_neg e1, if_neg e2, if_pos e3, if_pos p2]) ?_
              rw [hmμ, if_neg e1, if_neg e2, if_pos e3]
              by_cases q : x5 < 0
              · rw [if_pos q]
              · rw [if_neg q, if_pos p2]
            · by_cases p4 : x4 < 0
              · refine h.no (-12) (by rw [hcl, if_neg e1, if_neg e2, if_pos e3, if_neg p2, if_pos p4]) ?_
                rw [hmμ, if_neg e1, if_neg e2, if_pos e3]
                by_cases q : x5 < 0
                · rw [if_pos q]
                · rw [if_neg q, if_neg p2, if_pos p4]
              · by_cases p5 : x5 < 0
                · exact h.no (-12) (by rw [hcl, if_neg e1, if_neg e2, if_pos e3, if_neg p2, if_neg p4, if_pos p5]) (by rw [hmμ, if_neg e1, if_neg e2, if_pos e3, if_pos p5])
                · obtain ⟨i, hi, rfl⟩ := nI_of p2
                  obtain ⟨j, hj, rfl⟩ := nI_of p4
                  obtain ⟨y, hy, rfl⟩ := nI_of p5
                  simp only [(sub_lt hsz hi hy).1, (sub_lt hoz hj hy).2] at hcl
                  have hml2 := hml
                  simp only [(sub_lt hsz hi hy).1, (sub_lt hoz hj hy).2, show (nI (sh_z sh s) < nI i) = (sh_z sh s < i) from nltL (by omega) hi, show (nI (sh_z sh o) < nI j) = (sh_z sh o < j) from nltL (by omega) hj] at hml2
                  have hmμ2 := hml2 μ m1 n1 m2 n2
                  by_cases r1 : sh_z sh s < i + y
                  · refine h.no (-12) (by rw [hcl, if_neg e1, if_neg e2, if_pos e3, if_neg p2, if_neg p4, if_neg p5, if_pos r1]) ?_
                    rw [hmμ2, if_neg e1, if_neg e2, if_pos e3, if_neg p5, if_neg p2, if_neg p4, if_pos r1]
                    by_cases t1 : sh_z sh s < i
                    · rw [if_pos t1]
                    · rw [if_neg t1]
                      by_cases t2 : sh_z sh o < j
                      · rw [if_pos t2]
                      · rw [if_neg t2]
                  · by_cases r2 : j + y ≤ sh_z sh o
                    · have hy40 : y ≤ 40 := by omega
                      have hlen : ∀ k, k < 4 → q_n (45 + k) = some 40 := fun k hk => q_n45 hk
                      have hq : q_cp μ (45 + s) (nI i) (45 + o) (nI j) (nI y) = some (ax_cp μ (45 + s) i (45 + o) j y) := by
                        unfold q_cp
                        rw [hlen s hs4, hlen o ho4, ob_some, ob_some, nI_clamp hi, nI_clamp hj, nI_clamp hy, if_neg (by
                          intro z
                          rcases z with z | z | z | z | z
                          · exact p2 z
                          · exact p4 z
                          · exact p5 z
                          · omega
                          · omega)]
                      have gcp : ∀ k q, (ax_cp μ (45 + s) i (45 + o) j y) k q = if k = 45 + o ∧ j ≤ q ∧ q < j + y then μ (45 + s) (i + (q - j)) else μ k q := fun k q => by
                        unfold ax_cp va_cpy
                        by_cases z1 : k = 45 + o
                        · by_cases z2 : j ≤ q ∧ q < j + y
                          · simp [z1, z2]
                          · simp [z1, z2]
                        · simp [z1]
                      have hC : Ch (Ss o) μ (ax_cp μ (45 + s) i (45 + o) j y) := fun k q hs => by
                        simp [Ss, SC] at hs
                        rw [gcp, if_neg (by omega)]
                      have hM := h.2.2.offs ho4 hC
                      obtain ⟨v1, v2, v3⟩ := hM.2.2.2.2 s hs4
                      obtain ⟨w1, w2, w3⟩ := hM.2.2.2.2 o ho4
                      obtain ⟨μ3, f1, f2, f3⟩ := m_cpy (a := 40 * s + i) (b := 40 * o + j) (y := y) (by omega) (by omega) (ax_cp μ (45 + s) i (45 + o) j y)
                      refine ⟨nI y, ax_cp μ (45 + s) i (45 + o) j y, μ3, ?_, ?_, (h.ups (o := sh_o sh o) (z := sh_z sh o) (v := fun q => if j ≤ q ∧ q < j + y then sh_v sh s (i + (q - j)) else sh_v sh o q) ho4 ?_ ?_ (fun q hq => ?_) hC ?_ ?_ (fun q hq => ?_) (fun k q hk => ?_) hoo hoz).x⟩
                      · rw [hcl, if_neg e1, if_neg e2, if_pos e3, if_neg p2, if_neg p4, if_neg p5, if_neg r1, if_pos r2, hq, ob_some]
                      · rw [hml2 _ v1 w1 v2 w2, if_neg e1, if_neg e2, if_pos e3, if_neg p5, if_neg p2, if_neg p4, if_neg (by omega), if_neg (by omega), if_neg r1, if_pos r2, show (40 : Int32) * nI s = nI (40 * s) from pk_mul 40 s, show (40 : Int32) * nI o = nI (40 * o) from pk_mul 40 o, nI_add, nI_add, f1]
                      · rw [gcp, if_neg (by omega)]
                        exact d1
                      · rw [gcp, if_neg (by omega)]
                        exact d2
                      · rw [gcp]
                        by_cases z : j ≤ q ∧ q < j + y
                        · rw [if_pos ⟨rfl, z⟩, if_pos z]
                          exact c3 _ (by omega)
                        · rw [if_neg (fun t => z t.2), if_neg z]
                          exact d3 q hq
                      · rw [f3 60 o (by decide)]
                        exact w1
                      · rw [f3 61 o (by decide)]
                        exact w2
                      · rw [f2]
                        by_cases z : j ≤ q ∧ q < j + y
                        · rw [if_pos (by omega), if_pos z, show 40 * s + i + (40 * o + q - (40 * o + j)) = 40 * s + (i + (q - j)) by omega]
                          exact v3 _ (by omega)
                        · rw [if_neg (by omega), if_neg z]
                          exact w3 q hq
                      · simp [Ts, SM] at hk
                        by_cases z : k = 62
                        · subst z
                          rw [f2, if_neg (by omega)]
                        · exact f3 k q z
                    · refine h.no (-12) (by rw [hcl, if_neg e1, if_neg e2, if_pos e3, if_neg p2, if_neg p4, if_neg p5, if_neg r1, if_neg r2]) ?_
                      rw [hmμ2, if_neg e1, if_neg e2, if_pos e3, if_neg p5, if_neg p2, if_neg p4, if_neg r1, if_neg r2]
                      by_cases t1 : sh_z sh s < i
                      · rw [if_pos t1]
                      · rw [if_neg t1]
                        by_cases t2 : sh_z sh o < j
                        · rw [if_pos t2]
                        · rw [if_neg t2]
          · exact h.no (-13) (by rw [hcl, if_neg e1, if_neg e2, if_neg e3]) (by rw [hmμ, if_neg e1, if_neg e2, if_neg e3])
    · exact h.no (-2) (by rcases b1 with b | ⟨b2, b3, b4, b5, b6⟩ <;> simp [m_X9_copy, g2, g3, *]) (by simp [m_X10_copy, m_in, g1, b0, bI])
  · exact h.no (-2) (by rcases b1 with b | ⟨b2, b3, b4, b5, b6⟩ <;> simp [m_X9_copy, *]) (by simp [m_X10_copy, m_in, b0, bI])
theorem sfS {s : Nat} (h : Ch (Sf s) μ μ2) : Ch (Ss s) μ μ2 := h.mono fun k i e => by simp [Ss, SC, Sf] at *; omega
theorem b_film (h : K n d hr lw tx F ts tb im sh μ) (x1 x2 x3 : Int32) : Bo (m_X9_film x1 x2 x3) (m_X10_film x1 x2 x3) μ := by
  rcases argb x1 3 3 4 rfl rfl (by decide) with ⟨s, hs, rfl, g1, g2, g3, g4, g5, g6⟩ | ⟨b0, b1⟩
  · rcases argc x2 with ⟨c, hc, rfl, l1⟩ | l0
    · rcases argb x3 24 24 25 rfl rfl (by decide) with ⟨z, hz, rfl, j1, j2, j3, j4, j5, j6⟩ | ⟨b0, b1⟩
      · have hs4 : s < 4 := by omega
        have i4 : ix 4 (nI s) = some s := ix_nI hs4 (by decide)
        have hz40 : z ≤ 40 := by omega
        obtain ⟨μ1, a1, a2, a3, a4, a5⟩ := c_ren (μ := μ) (z := z) hs4 hz40 1
        have e5 : ∀ k i, k ≤ 48 → k < 45 → μ1 k i = μ k i := fun k i _ hk => a5 k i (by simp [Sh]; omega)
        have hR1 : RC n d μ1 := h.rc.fr (e5 25 1 (by omega) (by omega)) fun k i p q => e5 k i (by omega) (by omega)
        have hL1 : LC d μ1 := fun μ' p q r hr' => h.lc μ' (fun k u v => by rw [p k u v]; exact funext fun j => e5 k j (by omega) (by omega)) (by rw [q]; exact e5 25 3 (by omega) (by omega)) r hr'
        obtain ⟨μ2, f1, f2, f3⟩ := c_film hR1 hL1 (fun r hr => (h.1.2.2.2.2.1 r hr).2.1) hs4 hz40 hc a2
        have hC : Ch (Ss s) μ μ2 := (shS a5).tr (sfS f3)
        have hM := h.2.2.offs hs4 hC
        have hM1 : KM n d hr lw tx F ts tb im sh μ2 := hM
        have hm4 : (ax_w (ax_w μ2 60 s 1) 61 s (nI z)) 51 4 = μ2 51 4 := by rw [w_k (by decide), w_k (by decide)]
        have hRM : RM n d (ax_w (ax_w μ2 60 s 1) 61 s (nI z)) := hM.1.1.fr (by rw [w_k (by decide), w_k (by decide)]) fun k i p q => by rw [w_k (by omega), w_k (by omega)]
        have hLM : LM d (ax_w (ax_w μ2 60 s 1) 61 s (nI z)) := (LM.ofT (hM.2.1.2.1 lw h.1.2.1) hM.1.2.2 h.1.2.2.2.1).ch2 (S := fun k i => k == 60 || k == 61) (fun k i hk => by simp at hk; rw [w_k (by omega), w_k (by omega)]) (fun k i hk => by simp; omega)
        obtain ⟨μ3, q1, q2, q3⟩ := m_film (z := z) hRM hLM hs4 hz40 hc
        rw [hm4] at q1
        have q3' : ∀ k i, Tf s k i = false → μ3 k i = (ax_w (ax_w μ2 60 s 1) 61 s (nI z)) k i := q3
        refine ⟨nI z, μ2, μ3, ?_, ?_, (h.ups (o := 1) (z := z) (v := fun i => s_fw d n c (nI i)) hs4 ?_ ?_ f2 hC ?_ ?_ q2 ?_ (Or.inr (Or.inr (Or.inl rfl))) hz40).x⟩
        · unfold m_X9_film
          rw [if_neg g2, if_pos g4, c_cel, l1, ob_some, if_neg (by decide), if_neg j2, if_pos j5, a1, ob_some, f1]
        · unfold m_X10_film
          rw [m_in, g1, ob_some, if_neg (by decide), m_cel, l1, ob_some, if_neg (by decide), m_in, j1, ob_some, if_neg (by decide), i4, ob_some, ob_some, q1]
        · rw [f3 49 s (by simp [Sf]; omega)]
          exact a2
        · rw [f3 50 s (by simp [Sf]; omega)]
          exact a3
        · rw [q3' 60 s (by simp [Tf]), w_k (by decide), w_ss]
        · rw [q3' 61 s (by simp [Tf]), w_ss]
        · intro k i hk
          simp [Ts, SM] at hk
          rw [q3' k i (by simp [Tf]; omega), w_e (by omega), w_e (by omega)]
      · exact h.no (-7) (by rcases b1 with b | ⟨b2, b3, b4, b5, b6⟩ <;> simp [m_X9_film, g2, g4, c_cel, l1, bI, *]) (by simp [m_X10_film, m_in, g1, m_cel, l1, b0, bI])
    · exact h.no (-5) (by simp [m_X9_film, g2, g4, c_cel, l0, bI]) (by simp [m_X10_film, m_in, g1, m_cel, l0, bI])
  · exact h.no (-2) (by rcases b1 with b | ⟨b2, b3, b4, b5, b6⟩ <;> simp [m_X9_film, *]) (by simp [m_X10_film, m_in, b0, bI])
end
