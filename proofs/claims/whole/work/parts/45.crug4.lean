/-! ===== leagues, guests, layers ===== -/
theorem mk6_orr : ∀ (a b c d e f a2 b2 c2 d2 e2 f2 : Bool), (mk6 a b c d e f) ||| (mk6 a2 b2 c2 d2 e2 f2) = mk6 (a || a2) (b || b2) (c || c2) (d || d2) (e || e2) (f || f2) := by decide +kernel
theorem mkA_or {A B : Nat → Bool} {n : Nat} : (mkA A n) ||| (mkA B n) = mkA (fun q => A q || B q) n := by
  unfold mkA
  rw [mk6_orr]
  simp only [Bool.and_or_distrib_left]
theorem mkA_eq {A B : Nat → Bool} {n : Nat} (hn : n ≤ 6) : (mkA A n = mkA B n) = (∀ q, q < n → A q = B q) := by
  apply propext
  constructor
  · intro h q hq
    have h1 := mkA_bit (A := A) (n := n) (r := q) (by omega)
    have h2 := mkA_bit (A := B) (n := n) (r := q) (by omega)
    rw [h, h2] at h1
    cases hA : A q <;> cases hB : B q <;> simp [hA, hB, hq] at h1 ⊢
  · intro h
    apply mkA_ext
    intro r hr
    by_cases e : r < n
    · rw [h r e]
    · simp [e]
def s_gr (R : Nat → Option Nat) (A : Nat → Bool) : Nat → (Nat → Bool)
  | 0 => A
  | i + 1 => fun q => s_gr R A i q || (s_gr R A i i && s_nb R i q)
def s_rd (R : Nat → Option Nat) (n : Nat) (A : Nat → Bool) : Nat → Bool := s_gr R A n
def s_it (R : Nat → Option Nat) (n : Nat) : Nat → (Nat → Bool) → (Nat → Bool)
  | 0, A => A
  | m + 1, A => s_it R n m (s_rd R n A)
theorem s_gr_ext {R : Nat → Option Nat} {A B : Nat → Bool} {n : Nat} (h : ∀ q, q < n → A q = B q) : ∀ i, i ≤ n → ∀ q, q < n → s_gr R A i q = s_gr R B i q
  | 0, _, q, hq => h q hq
  | i + 1, hi, q, hq => by
    unfold s_gr
    rw [s_gr_ext h i (by omega) q hq, s_gr_ext h i (by omega) i (by omega)]
theorem s_gr_le {R : Nat → Option Nat} {A : Nat → Bool} {q : Nat} (h : A q = true) : ∀ i, s_gr R A i q = true
  | 0 => h
  | i + 1 => by
    unfold s_gr
    rw [s_gr_le h i]
    rfl
theorem s_it_ext {R : Nat → Option Nat} {n : Nat} : ∀ (m : Nat) {A B : Nat → Bool}, (∀ q, q < n → A q = B q) → ∀ q, q < n → s_it R n m A q = s_it R n m B q
  | 0, _, _, h, q, hq => h q hq
  | m + 1, A, B, h, q, hq => s_it_ext m (A := s_rd R n A) (B := s_rd R n B) (s_gr_ext h n (Nat.le_refl n)) q hq
theorem s_it_fix {R : Nat → Option Nat} {n : Nat} {A : Nat → Bool} (h : ∀ q, q < n → s_rd R n A q = A q) : ∀ (m : Nat) (q : Nat), q < n → s_it R n m A q = A q
  | 0, _, _ => rfl
  | m + 1, q, hq => by
    show s_it R n m (s_rd R n A) q = A q
    rw [s_it_ext m h q hq]
    exact s_it_fix h m q hq
def s_bits (A : Nat → Bool) : Nat → Nat
  | 0 => 0
  | k + 1 => s_bits A k + (if A k then 1 else 0)
theorem s_bits_le (A : Nat → Bool) : ∀ n, s_bits A n ≤ n
  | 0 => Nat.le_refl 0
  | k + 1 => by
    have := s_bits_le A k
    unfold s_bits
    split <;> omega
theorem s_bits_mono {A B : Nat → Bool} (h : ∀ q, A q = true → B q = true) : ∀ n, s_bits A n ≤ s_bits B n
  | 0 => Nat.le_refl 0
  | k + 1 => by
    have := s_bits_mono h k
    unfold s_bits
    cases hA : A k with
    | false => simp; split <;> omega
    | true => simp [h k hA]; omega
theorem s_bits_eq {A B : Nat → Bool} (h : ∀ q, A q = true → B q = true) : ∀ n, s_bits B n ≤ s_bits A n → ∀ q, q < n → B q = A q
  | 0, _, q, hq => by omega
  | k + 1, hl, q, hq => by
    have h1 := s_bits_mono h k
    unfold s_bits at hl
    by_cases e : q = k
    · subst e
      cases hA : A q with
      | true => rw [h q hA]
      | false =>
        cases hB : B q with
        | false => rfl
        | true => simp [hA, hB] at hl; omega
    · refine s_bits_eq h k ?_ q (by omega)
      cases hA : A k with
      | true => simp [hA, h k hA] at hl; omega
      | false =>
        rw [hA] at hl
        simp at hl
        split at hl <;> omega
/-- so many rounds suffice -/
theorem s_it_end {R : Nat → Option Nat} {n : Nat} : ∀ (m : Nat) (A : Nat → Bool), n ≤ m + s_bits A n → ∀ k, ∀ q, q < n → s_it R n (m + k) A q = s_it R n m A q
  | 0, A, h, k, q, hq => by
    have h1 : ∀ q, q < n → s_rd R n A q = A q := s_bits_eq (fun q hA => s_gr_le hA n) n (Nat.le_trans (s_bits_le _ n) (by omega))
    rw [Nat.zero_add]
    exact s_it_fix h1 k q hq
  | m + 1, A, h, k, q, hq => by
    by_cases e : s_bits (s_rd R n A) n ≤ s_bits A n
    · have h1 : ∀ q, q < n → s_rd R n A q = A q := s_bits_eq (fun q hA => s_gr_le hA n) n e
      rw [s_it_fix h1 _ q hq, s_it_fix h1 _ q hq]
    · rw [show m + 1 + k = (m + k) + 1 by omega]
      exact s_it_end m (s_rd R n A) (by omega) k q hq
def s_cnt (R : Nat → Option Nat) (x : Nat) : Int32 := s_sum (fun c => bI (decide (R c = some x))) 36
def s_cnts (R : Nat → Option Nat) (B : Nat → Bool) : Int32 := s_sum (fun c => bI (inB B (R c))) 36
theorem inB_1 (o : Option Nat) (x : Nat) : inB (fun q => q == x) o = decide (o = some x) := by
  cases o with
  | none => simp [inB]
  | some r => simp [inB]; rfl
def s_st (R : Nat → Option Nat) (x : Nat) : Nat → Bool := if s_cnt R x = 0 then fun _ => false else fun q => q == x
theorem c_j1 {n j : Nat} {μ : ax_M} {R : Nat → Option Nat} (hn : n ≤ 6) (h1 : μ 25 1 = nI n) (hR : ∀ c, c < 36 → μ 32 c = rI (R c)) (hRn : ∀ c r, R c = some r → r < n) (k20 : Int32 → Int32 → Option Int32) (A : Nat → Bool) :
    m_X0_joined_29 (nI j) k20 μ fu (mkA A n) 0 = k20 (mkA (s_rd R n A) n) (nI (j + 1)) := by
  obtain ⟨a, ha, hq⟩ := loopK (N := n) (fun k i (a : Int32) => m_X0_joined_29 (nI j) k20 μ k a (nI i)) (fun i a => a = mkA (s_gr R A i) n) (fun a => k20 a (nI (j + 1))) (by omega)
    (fun k i a hi hI => by
      subst hI
      refine ⟨_, ?_, rfl⟩
      show m_X0_joined_29 (nI j) k20 μ (k + 1) _ (nI i) = _
      rw [m_X0_joined_29]
      simp only [h1]
      rw [if_neg (by rw [nleL (by omega) (by omega)]; omega), mkA_bit (by omega), c_nb hn hR hRn hi, ob_some, mkA_or, na1]
      cases hA : s_gr R A i i with
      | false =>
        simp only [hi, decide_true, Bool.and_false, Bool.false_eq_true, if_false, if_pos]
        congr 1
        exact mkA_same fun q => by simp [s_gr, hA]
      | true =>
        simp only [hi, decide_true, Bool.and_self, if_true]
        rw [if_neg (by decide)]
        congr 1
        exact mkA_same fun q => by simp [s_gr, hA])
    (fun k a hI => by
      show m_X0_joined_29 (nI j) k20 μ (k + 1) a (nI n) = _
      rw [m_X0_joined_29]
      simp only [h1]
      rw [if_pos (Int32.le_refl _), na1])
    (mkA A n) rfl
  subst ha
  exact hq
theorem s_it_s {R : Nat → Option Nat} {n : Nat} : ∀ (m : Nat) (A : Nat → Bool), s_it R n (m + 1) A = s_rd R n (s_it R n m A)
  | 0, _ => rfl
  | m + 1, A => by
    show s_it R n (m + 1) (s_rd R n A) = _
    rw [s_it_s m]
    rfl
theorem c_j2 {n : Nat} {μ : ax_M} {R : Nat → Option Nat} (hn : n ≤ 6) (h1 : μ 25 1 = nI n) (hR : ∀ c, c < 36 → μ 32 c = rI (R c)) (hRn : ∀ c r, R c = some r → r < n) (A : Nat → Bool) :
    m_X0_joined_20 μ fu (mkA A n) 0 = some (mkA (s_it R n 6 A) n) := by
  obtain ⟨a, ha, hq⟩ := loopK (N := 6) (fun k i (a : Int32) => m_X0_joined_20 μ k a (nI i)) (fun i a => a = mkA (s_it R n i A) n) (fun a => some a) (by omega)
    (fun k i a hi hI => by
      subst hI
      refine ⟨_, ?_, rfl⟩
      show m_X0_joined_20 μ (k + 1) _ (nI i) = _
      rw [m_X0_joined_20, if_neg (by rw [show (6 : Int32) = nI 6 from rfl, nleL (by omega) (by omega)]; omega), c_j1 hn h1 hR hRn, s_it_s])
    (fun k a hI => by
      show m_X0_joined_20 μ (k + 1) a (nI 6) = _
      rw [m_X0_joined_20, if_pos (by decide)])
    (mkA A n) rfl
  subst ha
  exact hq
theorem c_cnt {μ : ax_M} {R : Nat → Option Nat} {n x : Nat} (hn : n ≤ 6) (hR : ∀ c, c < 36 → μ 32 c = rI (R c)) (hRn : ∀ c r, R c = some r → r < n) (hx : x < n) : m_X0_ruledByAny (shI 1 (nI x)) μ = some (s_cnt R x) := by
  rw [sh1_mk hx (by omega), c_rby hn hR hRn]
  unfold s_cnt
  simp only [inB_1]
theorem c_join {n x : Nat} {μ : ax_M} {R : Nat → Option Nat} (hn : n ≤ 6) (h1 : μ 25 1 = nI n) (hR : ∀ c, c < 36 → μ 32 c = rI (R c)) (hRn : ∀ c r, R c = some r → r < n) (hx : x < n) :
    m_X0_joined (nI x) μ = some (mkA (s_it R n 6 (s_st R x)) n) := by
  unfold m_X0_joined
  rw [c_cnt hn hR hRn hx, ob_some]
  unfold s_st
  by_cases e : s_cnt R x = 0
  · rw [if_pos e, if_pos e]
    have h := c_j2 hn h1 hR hRn (fun _ => false)
    rw [show mkA (fun _ => false) n = 0 by simp [mkA, mk6]] at h
    exact h
  · rw [if_neg e, if_neg e, sh1_mk hx (by omega)]
    exact c_j2 hn h1 hR hRn _
