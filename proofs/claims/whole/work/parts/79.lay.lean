/-! ===== a rug laid anew ===== -/
def s_pt (f : Nat → Nat) (r v : Nat) : Nat → Nat := fun q => if q = r then v else f q
def Sr (k : Nat) (_ : Nat) : Bool := k == 28 || k == 29 || k == 30
theorem c_lay {n r a b : Nat} {d : Dt} {μ : ax_M} (h : RC n d μ) (hr : r < n) (ha : a < 36) (hb : b < 36) (h1 : a % 6 ≤ b % 6) (h2 : a / 6 ≤ b / 6) : ∃ μ2, m_X0_lay (nI r) (nI a) (nI b) μ = some μ2 ∧ RC n (d_sr d (s_pt (d_a d) r a) (s_pt (d_b d) r b)) μ2 ∧ Ch Sr μ μ2 := by
  obtain ⟨hn, h25, h3⟩ := h
  refine ⟨ax_w (ax_w (ax_w μ 28 r (nI a)) 29 r (nI b)) 30 r (nI ((b % 6 - a % 6 + 1) * (b / 6 - a / 6 + 1))), ?_, ⟨hn, by rw [w_k (by decide), w_k (by decide), w_k (by decide)]; exact h25, fun q hq => ?_⟩, ((Ch.rf.w rfl).w rfl).w rfl⟩
  · unfold m_X0_lay m_X9_columnOf m_X9_rowOf
    rw [ix_nI (show r < 6 by omega) (by decide)]
    simp only [ob_some]
    rw [nr6 (by omega), nr6 (by omega), nd6 (by omega), nd6 (by omega), pk_sub h1, pk_sub h2, na1, na1, pk_mul]
  · obtain ⟨a1, a2, a3, a4, a5, a6, a7, a8, a9, a10⟩ := h3 q hq
    have hsz : s_sz (d_sr d (s_pt (d_a d) r a) (s_pt (d_b d) r b)) q = if q = r then (b % 6 - a % 6 + 1) * (b / 6 - a / 6 + 1) else s_sz d q := by
      by_cases e : q = r <;> simp [s_sz, d_sr, d_a, d_b, s_pt, e]
    have hA : d_a (d_sr d (s_pt (d_a d) r a) (s_pt (d_b d) r b)) q = if q = r then a else d_a d q := rfl
    have hB : d_b (d_sr d (s_pt (d_a d) r a) (s_pt (d_b d) r b)) q = if q = r then b else d_b d q := rfl
    rw [hsz, hA, hB]
    by_cases e : q = r
    · subst e
      simp only [if_true]
      refine ⟨by rw [w_k (by decide), w_k (by decide), w_k (by decide)]; exact a1, by rw [w_k (by decide), w_k (by decide), w_k (by decide)]; exact a2, by rw [w_k (by decide), w_k (by decide), w_ss], by rw [w_k (by decide), w_ss], w_ss, by rw [w_k (by decide), w_k (by decide), w_k (by decide)]; exact a6, ha, hb, h1, h2⟩
    · simp only [if_neg e]
      refine ⟨by rw [w_k (by decide), w_k (by decide), w_k (by decide)]; exact a1, by rw [w_k (by decide), w_k (by decide), w_k (by decide)]; exact a2, by rw [w_k (by decide), w_k (by decide), w_i e]; exact a3, by rw [w_k (by decide), w_i e, w_k (by decide)]; exact a4, by rw [w_i e, w_k (by decide), w_k (by decide)]; exact a5, by rw [w_k (by decide), w_k (by decide), w_k (by decide)]; exact a6, a7, a8, a9, a10⟩
