/-! ===== sheets: renewed, filmed (class) ===== -/
def Sh (s : Nat) (k i : Nat) : Bool := (k == 49 && i == s) || (k == 50 && i == s) || k == 45 + s
def Sf (s : Nat) (k i : Nat) : Bool := k == 16 || k == 17 || k == 45 + s
theorem SfN {s : Nat} (hs : s < 4) (k i : Nat) (h : cN k i = true) : Sf s k i = false := by simp [cN, Sf] at *; omega
theorem S2f {s : Nat} (k i : Nat) (h : Sf s k i = false) : S2 k i = false := by simp [S2, Sf] at *; omega
theorem c_ren {s z : Nat} {μ : ax_M} (hs : s < 4) (hz : z ≤ 40) (x2 : Int32) : ∃ μ2, m_X4_renew (nI s) x2 (nI z) μ = some μ2 ∧ μ2 49 s = x2 ∧ μ2 50 s = nI z ∧ (∀ j, j < z → μ2 (45 + s) j = 0) ∧ Ch (Sh s) μ μ2 := by
  have h45 : 45 + s ≠ 49 := by omega
  have h45' : 45 + s ≠ 50 := by omega
  obtain ⟨b, hb, hq⟩ := loopK (N := z) (fun k i (a : ax_M) => m_X4_renew_17 (nI s) (nI z) k (nI i) a) (fun i a => a 49 s = x2 ∧ a 50 s = nI z ∧ (∀ j, j < i → a (45 + s) j = 0) ∧ Ch (Sh s) μ a) (fun a => some a) (by omega)
    (fun k i a hi hI => by
      obtain ⟨h1, h2, h3, h4⟩ := hI
      refine ⟨ax_w a (45 + s) i 0, ?_, ?_, ?_, fun j hj => ?_, h4.w (by simp [Sh])⟩
      · show m_X4_renew_17 (nI s) (nI z) (k + 1) (nI i) a = _
        rw [m_X4_renew_17, if_neg (by rw [nleL (by omega) (by omega)]; omega), if_neg (by rw [show (40 : Int32) = nI 40 from rfl, nleL (by omega) (by omega)]; omega), ix_nI hs (by decide), ob_some, q_st45 hs (by omega), ob_some, na1]
      · rw [w_k (by omega), h1]
      · rw [w_k (by omega), h2]
      · by_cases e : j = i
        · subst e
          exact w_ss
        · rw [w_i e]
          exact h3 j (by omega))
    (fun k a hI => by
      show m_X4_renew_17 (nI s) (nI z) (k + 1) (nI z) a = _
      rw [m_X4_renew_17, if_pos (Int32.le_refl _)])
    (ax_w (ax_w μ 49 s x2) 50 s (nI z)) ⟨by rw [w_k (by decide), w_ss], w_ss, fun j hj => by omega, (Ch.rf.w (by simp [Sh])).w (by simp [Sh])⟩
  refine ⟨b, ?_, hb.1, hb.2.1, hb.2.2.1, hb.2.2.2⟩
  unfold m_X4_renew
  rw [ix_nI hs (by decide), ob_some, ob_some]
  exact hq
theorem c_film {n s z c : Nat} {d : Dt} {μ : ax_M} (h : RC n d μ) (hl : LC d μ) (hm : ∀ r, r < n → ∃ m, m ≤ 9 ∧ d_m d r = nI m) (hs : s < 4) (hz : z ≤ 40) (hc : c < 36) (h49 : μ 49 s = 1) : ∃ μ2, m_X9_film_48 (nI s) (nI c) (nI z) fu 0 μ = some (nI z, μ2) ∧ (∀ i, i < z → μ2 (45 + s) i = s_fw d n c (nI i)) ∧ Ch (Sf s) μ μ2 := by
  obtain ⟨b, hb, hq⟩ := loopK (N := z) (fun k i (a : ax_M) => m_X9_film_48 (nI s) (nI c) (nI z) k (nI i) a) (fun i a => (∀ j, j < i → a (45 + s) j = s_fw d n c (nI j)) ∧ Ch (Sf s) μ a) (fun a => some (nI z, a)) (by omega)
    (fun k i a hi hI => by
      obtain ⟨h3, hch⟩ := hI
      obtain ⟨μ2, e1, e2⟩ := c_fw (h.ch hch (SfN hs)) (hl.ch hch (SfN hs)) hc (nI i)
      have hch2 : Ch (Sf s) μ μ2 := hch.tr (e2.mono S2f)
      have hsm := short_small (fat_small (d := d) (n := n) (o := s_rul d n (s_awk d (nI i)) c) c (nI i) hm (fun r hr => s_rul_lt hr))
      refine ⟨ax_w μ2 (45 + s) i (s_fw d n c (nI i)), ?_, fun j hj => ?_, hch2.w (by simp [Sf])⟩
      · show m_X9_film_48 (nI s) (nI c) (nI z) (k + 1) (nI i) a = _
        rw [m_X9_film_48, if_neg (by rw [nleL (by omega) (by omega)]; omega), e1, bind2_some]
        unfold m_X4_write
        rw [ix_nI hs (by decide)]
        simp only [ob_some]
        rw [hch2 49 s (by simp [Sf]; omega), h49, if_neg (by decide), if_pos rfl, q_st45 hs (by omega), ob_some, ob_some, na1]
        rw [show (s_fw d n c (nI i)).toInt16.toInt32 = s_fw d n c (nI i) from hsm]
      · by_cases e : j = i
        · subst e
          exact w_ss
        · rw [w_i e, e2 (45 + s) j (by simp [S2]; omega)]
          exact h3 j (by omega))
    (fun k a hI => by
      show m_X9_film_48 (nI s) (nI c) (nI z) (k + 1) (nI z) a = _
      rw [m_X9_film_48, if_pos (Int32.le_refl _)])
    μ ⟨fun j hj => by omega, Ch.rf⟩
  exact ⟨b, hq, hb.1, hb.2⟩
