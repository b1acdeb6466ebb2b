/-! ===== guests, layers, walks ===== -/
def s_wel (g : Nat → Int32) (M : Nat → Bool) (q : Nat) : Int32 := if M q then (if 99 ≤ g q then g q else g q + 1) else g q
def Sg (k : Nat) (_ : Nat) : Bool := k == 31
theorem c_wel {n : Nat} {μ : ax_M} (hn : n ≤ 6) (h1 : μ 25 1 = nI n) (M : Nat → Bool) : ∃ μ2, m_X0_welcome (mkA M n) μ = some μ2 ∧ Ch Sg μ μ2 ∧ ∀ q, q < n → μ2 31 q = s_wel (μ 31) M q := by
  obtain ⟨b, hb, hq⟩ := loopK (N := n) (fun k i (a : ax_M) => m_X0_welcome_2 (mkA M n) k (nI i) a) (fun i a => Ch Sg μ a ∧ (∀ q, q < i → a 31 q = s_wel (μ 31) M q) ∧ ∀ q, i ≤ q → a 31 q = μ 31 q) (fun a => some a) (by omega)
    (fun k i a hi hI => by
      obtain ⟨hc, hlo, hhi⟩ := hI
      have h1a : a 25 1 = nI n := by rw [hc 25 1 rfl, h1]
      have hstep : m_X0_welcome_2 (mkA M n) (k + 1) (nI i) a = m_X0_welcome_2 (mkA M n) k (nI (i + 1)) (if M i then (if 99 ≤ a 31 i then a else ax_w a 31 i (a 31 i + 1)) else a) := by
        rw [m_X0_welcome_2]
        simp only [h1a]
        rw [if_neg (by rw [nleL (by omega) (by omega)]; omega), mkA_bit (by omega), ix_nI (show i < 6 by omega) (by decide), na1]
        simp only [ob_some]
        cases hM : M i with
        | false => simp [hi]
        | true =>
          simp only [hi, decide_true, Bool.and_self, if_true]
          rw [if_neg (by decide)]
          by_cases e : 99 ≤ a 31 i
          · rw [if_pos e, if_pos e]
          · rw [if_neg e, if_neg e]
      refine ⟨_, hstep, ?_⟩
      have hii := hhi i (Nat.le_refl i)
      cases hM : M i with
      | false =>
        simp only [Bool.false_eq_true, if_false]
        refine ⟨hc, fun q hq => ?_, fun q hq => hhi q (by omega)⟩
        by_cases e : q = i
        · subst e
          rw [hii]
          simp [s_wel, hM]
        · exact hlo q (by omega)
      | true =>
        simp only [if_true]
        by_cases e9 : 99 ≤ a 31 i
        · rw [if_pos e9]
          refine ⟨hc, fun q hq => ?_, fun q hq => hhi q (by omega)⟩
          by_cases e : q = i
          · subst e
            rw [hii] at e9 ⊢
            simp [s_wel, hM, e9]
          · exact hlo q (by omega)
        · rw [if_neg e9]
          refine ⟨hc.w rfl, fun q hq => ?_, fun q hq => ?_⟩
          · by_cases e : q = i
            · subst e
              rw [w_ss]
              rw [hii] at e9 ⊢
              simp [s_wel, hM, e9]
            · rw [w_i e]
              exact hlo q (by omega)
          · rw [w_i (by omega)]
            exact hhi q (by omega))
    (fun k a hI => by
      show m_X0_welcome_2 (mkA M n) (k + 1) (nI n) a = _
      rw [m_X0_welcome_2]
      have h1a : a 25 1 = nI n := by rw [hI.1 25 1 rfl, h1]
      simp only [h1a]
      rw [if_pos (Int32.le_refl _)])
    μ ⟨Ch.rf, fun q hq => by omega, fun q hq => rfl⟩
  exact ⟨b, hq, hb.1, hb.2.1⟩
def s_num (f : Nat → Bool) : Nat → Nat
  | 0 => 0
  | k + 1 => s_num f k + (if f k then 1 else 0)
theorem s_num_le (f : Nat → Bool) : ∀ n, s_num f n ≤ n
  | 0 => Nat.le_refl 0
  | k + 1 => by
    have := s_num_le f k
    unfold s_num
    split <;> omega
theorem c_layers {n c : Nat} {d : Dt} {μ : ax_M} (h : RC n d μ) (hc : c < 36) : m_X0_layers (nI c) μ = some (nI (s_num (fun r => s_lie d r c) n)) := by
  have hn := h.1
  obtain ⟨b, hb, hq⟩ := loopK (N := n) (fun k i (a : Int32) => m_X0_layers_4 (nI c) μ k a (nI i)) (fun i a => a = nI (s_num (fun r => s_lie d r c) i)) (fun a => some a) (by omega)
    (fun k i a hi hI => by
      subst hI
      refine ⟨_, ?_, rfl⟩
      show m_X0_layers_4 (nI c) μ (k + 1) _ (nI i) = _
      rw [m_X0_layers_4]
      simp only [h.2.1]
      rw [if_neg (by rw [nleL (by omega) (by omega)]; omega), c_lie h hi hc, ob_some, na1, na1, s_num]
      cases s_lie d i c <;> simp [bI])
    (fun k a hI => by
      show m_X0_layers_4 (nI c) μ (k + 1) a (nI n) = _
      rw [m_X0_layers_4]
      simp only [h.2.1]
      rw [if_pos (Int32.le_refl _)])
    0 rfl
  subst hb
  exact hq
