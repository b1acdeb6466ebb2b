/-! ===== the model: leagues, walks ===== -/
theorem m_l58 {n : Nat} {μ : ax_M} {R : Nat → Option Nat} (hn : n ≤ 6) (h0 : μ 51 0 = nI n) (hR : ∀ c, c < 36 → μ 68 c = rI (R c)) (hRn : ∀ c r, R c = some r → r < n) (x2 x5 : Int32) (k47 : Int32 → Int32 → ax_M → Option (Int32 × ax_M)) (A : Nat → Bool) :
    m_X10_league_58 x2 x5 k47 fu (mkA A n) 0 μ = if mkA (s_rd R n A) n = x5 then k47 (mkA (s_rd R n A) n) 0 μ else k47 (mkA (s_rd R n A) n) 1 μ := by
  obtain ⟨a, ha, hq⟩ := loopK (N := n) (fun k i (a : Int32) => m_X10_league_58 x2 x5 k47 k a (nI i) μ) (fun i a => a = mkA (s_gr R A i) n) (fun a => if a = x5 then k47 a 0 μ else k47 a 1 μ) (by omega)
    (fun k i a hi hI => by
      subst hI
      refine ⟨_, ?_, rfl⟩
      show m_X10_league_58 x2 x5 k47 (k + 1) _ (nI i) μ = _
      rw [m_X10_league_58]
      simp only [h0]
      rw [if_neg (by rw [nleL (by omega) (by omega)]; omega), mkA_bit (by omega), m_nb hn hR hRn hi, ob_some, mkA_or, na1, or0]
      cases hA : s_gr R A i i with
      | false =>
        simp only [hi, decide_true, Bool.and_false, Bool.false_eq_true, if_false]
        rw [if_neg (by decide)]
        congr 1
        exact mkA_same fun q => by simp [s_gr, hA]
      | true =>
        simp only [hi, decide_true, Bool.and_self, if_true]
        congr 1
        exact mkA_same fun q => by simp [s_gr, hA])
    (fun k a hI => by
      show m_X10_league_58 x2 x5 k47 (k + 1) a (nI n) μ = _
      rw [m_X10_league_58]
      simp only [h0]
      rw [if_pos (Int32.le_refl _)])
    (mkA A n) rfl
  subst ha
  exact hq
theorem m_l47 {n : Nat} {μ : ax_M} {R : Nat → Option Nat} (hn : n ≤ 6) (h0 : μ 51 0 = nI n) (hR : ∀ c, c < 36 → μ 68 c = rI (R c)) (hRn : ∀ c r, R c = some r → r < n) (x2 : Int32) :
    ∀ (m k : Nat) (A : Nat → Bool), n ≤ m + s_bits A n → m + 2 < k → m_X10_league_47 x2 k (mkA A n) 1 μ = m_X10_league_118 x2 (mkA (s_it R n m A) n) fu 0 0 μ := by
  have fixed : ∀ (m k : Nat) (A : Nat → Bool), 2 < k → (∀ q, q < n → s_rd R n A q = A q) → m_X10_league_47 x2 k (mkA A n) 1 μ = m_X10_league_118 x2 (mkA (s_it R n m A) n) fu 0 0 μ := by
    intro m k A hk hf
    obtain ⟨k, rfl⟩ : ∃ k2, k = k2 + 2 := ⟨k - 2, by omega⟩
    have e1 : mkA (s_rd R n A) n = mkA A n := by rw [mkA_eq hn]; exact hf
    have e2 : mkA (s_it R n m A) n = mkA A n := by rw [mkA_eq hn]; exact s_it_fix hf m
    rw [m_X10_league_47, if_neg (by decide), m_l58 hn h0 hR hRn, if_pos e1, e1, m_X10_league_47, if_pos rfl, e2]
  intro m
  induction m with
  | zero =>
    intro k A hb hk
    exact fixed 0 k A hk (s_bits_eq (fun q hA => s_gr_le hA n) n (Nat.le_trans (s_bits_le _ n) (by omega)))
  | succ m ih =>
    intro k A hb hk
    by_cases e : s_bits (s_rd R n A) n ≤ s_bits A n
    · exact fixed (m + 1) k A (by omega) (s_bits_eq (fun q hA => s_gr_le hA n) n e)
    · obtain ⟨k, rfl⟩ : ∃ k2, k = k2 + 1 := ⟨k - 1, by omega⟩
      have e1 : ¬ mkA (s_rd R n A) n = mkA A n := by
        rw [mkA_eq hn]
        intro h
        apply e
        have : ∀ i, i ≤ n → s_bits (s_rd R n A) i = s_bits A i := by
          intro i
          induction i with
          | zero => intro _; rfl
          | succ i ih2 =>
            intro hi
            unfold s_bits
            rw [ih2 (by omega), h i (by omega)]
        rw [this n (Nat.le_refl n)]
        exact Nat.le_refl _
      rw [m_X10_league_47, if_neg (by decide), m_l58 hn h0 hR hRn, if_neg e1]
      exact ih k (s_rd R n A) (by omega) (by omega)
theorem s_sum_add (f g : Nat → Int32) : ∀ n, s_sum (fun i => f i + g i) n = s_sum f n + s_sum g n
  | 0 => by simp [s_sum]
  | k + 1 => by
    unfold s_sum
    rw [s_sum_add f g k]
    rw [Int32.add_assoc, Int32.add_assoc, ← Int32.add_assoc (f k), Int32.add_comm (f k) (s_sum g k), Int32.add_assoc (s_sum g k)]
theorem s_sum_0 : ∀ n, s_sum (fun _ => 0) n = 0
  | 0 => rfl
  | k + 1 => by
    unfold s_sum
    rw [s_sum_0 k]
    rfl
theorem s_cnts_sum {R : Nat → Option Nat} {n : Nat} (hRn : ∀ c r, R c = some r → r < n) (B : Nat → Bool) : s_cnts R B = s_sum (fun q => if B q then s_cnt R q else 0) n := by
  -- cells first
  have one : ∀ (o : Option Nat) (m : Nat), s_sum (fun q => if B q then bI (decide (o = some q)) else 0) m = bI (inB (fun q => B q && decide (q < m)) o) := by
    intro o m
    induction m with
    | zero => cases o <;> simp [s_sum, inB, bI]
    | succ m ih =>
      unfold s_sum
      rw [ih]
      cases o with
      | none => cases B m <;> simp [inB, bI]
      | some r =>
        by_cases e : r = m
        · subst e
          cases hB : B r <;> simp [inB, bI, hB]
        · have e1 : (r < m + 1) = (r < m) := propext ⟨fun h => by omega, fun h => by omega⟩
          cases hB : B m <;> simp [inB, bI, e, e1]
  have swap : ∀ k, s_sum (fun q => if B q then s_sum (fun c => bI (decide (R c = some q))) k else 0) n = s_sum (fun c => bI (inB B (R c))) k := by
    intro k
    induction k with
    | zero =>
      have : (fun q => if B q then s_sum (fun c => bI (decide (R c = some q))) 0 else 0) = fun _ => (0 : Int32) := by
        funext q
        simp [s_sum]
      rw [this, s_sum_0]
      rfl
    | succ k ih =>
      have : (fun q => if B q then s_sum (fun c => bI (decide (R c = some q))) (k + 1) else 0) = fun q => (if B q then s_sum (fun c => bI (decide (R c = some q))) k else 0) + (if B q then bI (decide (R k = some q)) else 0) := by
        funext q
        cases B q <;> simp [s_sum]
      rw [this, s_sum_add, ih, one (R k) n]
      show _ = s_sum (fun c => bI (inB B (R c))) k + bI (inB B (R k))
      congr 2
      cases e : R k with
      | none => rfl
      | some r =>
        have := hRn k r e
        simp [inB, this]
  exact (swap 36).symm
theorem m_l118 {n : Nat} {μ : ax_M} {R : Nat → Option Nat} (hn : n ≤ 6) (h0 : μ 51 0 = nI n) (hR : ∀ c, c < 36 → μ 68 c = rI (R c)) (hRn : ∀ c r, R c = some r → r < n) (x2 : Int32) (B : Nat → Bool) :
    m_X10_league_118 x2 (mkA B n) fu 0 0 μ = some (if x2 = 0 then mkA B n else s_cnts R B, μ) := by
  rw [s_cnts_sum hRn]
  obtain ⟨a, ha, hq⟩ := loopK (N := n) (fun k i (a : Int32) => m_X10_league_118 x2 (mkA B n) k a (nI i) μ) (fun i a => a = s_sum (fun q => if B q then s_cnt R q else 0) i) (fun a => some (if x2 = 0 then mkA B n else a, μ)) (by omega)
    (fun k i a hi hI => by
      subst hI
      refine ⟨_, ?_, rfl⟩
      show m_X10_league_118 x2 (mkA B n) (k + 1) _ (nI i) μ = _
      rw [m_X10_league_118]
      simp only [h0]
      rw [if_neg (by rw [nleL (by omega) (by omega)]; omega), mkA_bit (by omega), m_cnt hn hR hRn hi, ob_some, na1, s_sum]
      cases hB : B i <;> simp [hi])
    (fun k a hI => by
      show m_X10_league_118 x2 (mkA B n) (k + 1) a (nI n) μ = _
      rw [m_X10_league_118]
      simp only [h0]
      rw [if_pos (Int32.le_refl _)]
      by_cases e : x2 = 0 <;> simp [e])
    0 rfl
  subst ha
  exact hq
/-- a league, in the model -/
theorem m_lg {n x : Nat} {μ : ax_M} {R : Nat → Option Nat} (hn : n ≤ 6) (h0 : μ 51 0 = nI n) (hR : ∀ c, c < 36 → μ 68 c = rI (R c)) (hRn : ∀ c r, R c = some r → r < n) (hx : x < n) (x2 : Int32) :
    (if s_cnt R x = 0 then m_X10_league_47 x2 fu 0 1 μ else m_X10_league_47 x2 fu (shI 1 (nI x)) 1 μ) = some (if x2 = 0 then mkA (s_it R n 6 (s_st R x)) n else s_cnts R (s_it R n 6 (s_st R x)), μ) := by
  have e : (if s_cnt R x = 0 then m_X10_league_47 x2 fu 0 1 μ else m_X10_league_47 x2 fu (shI 1 (nI x)) 1 μ) = m_X10_league_47 x2 fu (mkA (s_st R x) n) 1 μ := by
    unfold s_st
    by_cases e : s_cnt R x = 0
    · rw [if_pos e, if_pos e]
      congr 1
      simp [mkA, mk6]
    · rw [if_neg e, if_neg e, sh1_mk hx (by omega)]
  rw [e, m_l47 hn h0 hR hRn x2 6 fu (s_st R x) (by omega) (by decide), m_l118 hn h0 hR hRn]
