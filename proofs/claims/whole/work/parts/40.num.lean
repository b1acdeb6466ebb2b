/-! ===== small numbers, loops, what changes ===== -/
theorem lit (n : Nat) : (OfNat.ofNat n : Int32) = nI n := rfl
theorem ix_nI {n j : Nat} (h : j < n) (hn : n < 2 ^ 31) : ix n (nI j) = some j := by
  unfold ix
  have h1 := nI_in h hn
  rw [if_neg h1, nI_clamp (by omega)]
theorem nr6 {c : Nat} (h : c < 2 ^ 31) : rmI (nI c) 6 = nI (c % 6) := pk_rem (d := 6) h (by decide) (by decide)
theorem nd6 {c : Nat} (h : c < 2 ^ 31) : nI c / 6 = nI (c / 6) := pk_div (d := 6) h (by decide) (by decide)
theorem nr100 {c : Nat} (h : c < 2 ^ 31) : rmI (nI c) 100 = nI (c % 100) := pk_rem (d := 100) h (by decide) (by decide)
theorem nd100 {c : Nat} (h : c < 2 ^ 31) : nI c / 100 = nI (c / 100) := pk_div (d := 100) h (by decide) (by decide)
theorem nr10 {c : Nat} (h : c < 2 ^ 31) : rmI (nI c) 10 = nI (c % 10) := pk_rem (d := 10) h (by decide) (by decide)
theorem nd10 {c : Nat} (h : c < 2 ^ 31) : nI c / 10 = nI (c / 10) := pk_div (d := 10) h (by decide) (by decide)
theorem na1 (c : Nat) : nI c + 1 = nI (c + 1) := nI_1 c
theorem nltL {a k : Nat} (ha : a < 2 ^ 31) (hk : k < 2 ^ 31) : (nI a < nI k) = (a < k) := propext (nI_ltI ha hk)
theorem nleL {a k : Nat} (ha : a < 2 ^ 31) (hk : k < 2 ^ 31) : (nI a ≤ nI k) = (a ≤ k) := propext (nI_leI ha hk)
theorem neqL {a k : Nat} (ha : a < 2 ^ 31) (hk : k < 2 ^ 31) : (nI a = nI k) = (a = k) := propext (nI_eq ha hk)
theorem nneg {a : Nat} (ha : a < 2 ^ 31) : ¬ nI a < 0 := nI_pos ha
theorem nm1 {a : Nat} (ha : a < 2 ^ 31) : ¬ nI a = -1 := by
  intro h
  have h1 := congrArg Int32.toInt h
  rw [nI_toInt ha] at h1
  have h2 : (-1 : Int32).toInt = -1 := by decide
  omega
theorem bind2_some {α β γ : Type} (a : α) (b : β) (f : α → β → Option γ) : bind2 (some (a, b)) f = f a b := rfl
theorem ob_some {α β : Type} (a : α) (f : α → Option β) : (some a).bind f = f a := rfl
/-- an int that is some small number -/
theorem isN {x : Int32} {n : Nat} (h0 : ¬ x < 0) (h1 : ¬ nI n ≤ x) (hn : n < 2 ^ 31) : ∃ j, j < n ∧ x = nI j := by
  obtain ⟨j, hj, rfl⟩ := nI_of h0
  refine ⟨j, ?_, rfl⟩
  rw [nleL hn hj] at h1
  omega
theorem isN' {x : Int32} {n : Nat} (h0 : ¬ x < 0) (h1 : x < nI n) (hn : n < 2 ^ 31) : ∃ j, j < n ∧ x = nI j := by
  obtain ⟨j, hj, rfl⟩ := nI_of h0
  refine ⟨j, ?_, rfl⟩
  rw [nltL hj hn] at h1
  exact h1
theorem loopI {α β : Type} {N : Nat} (L : Nat → Nat → α → Option β) (I : Nat → α → Prop) (Q : β → Prop)
    (hs : ∀ k i a, i < N → I i a → (∃ a2, L (k + 1) i a = L k (i + 1) a2 ∧ I (i + 1) a2) ∨ ∃ b, L (k + 1) i a = some b ∧ Q b)
    (he : ∀ k a, I N a → ∃ b, L (k + 1) N a = some b ∧ Q b) : ∀ (m i k : Nat) (a : α), i + m = N → m < k → I i a → ∃ b, L k i a = some b ∧ Q b := by
  intro m
  induction m with
  | zero =>
    intro i k a hi hk hI
    obtain ⟨k, rfl⟩ : ∃ k2, k = k2 + 1 := ⟨k - 1, by omega⟩
    have : i = N := by omega
    subst this
    exact he k a hI
  | succ m ih =>
    intro i k a hi hk hI
    obtain ⟨k, rfl⟩ : ∃ k2, k = k2 + 1 := ⟨k - 1, by omega⟩
    rcases hs k i a (by omega) hI with ⟨a2, h1, h2⟩ | h
    · rw [h1]
      exact ih (i + 1) k a2 (by omega) (by omega) h2
    · exact h
/-- from 0, with the big fuel -/
theorem loopF {α β : Type} {N : Nat} (L : Nat → Nat → α → Option β) (I : Nat → α → Prop) (Q : β → Prop) (hN : N < 1000000)
    (hs : ∀ k i a, i < N → I i a → (∃ a2, L (k + 1) i a = L k (i + 1) a2 ∧ I (i + 1) a2) ∨ ∃ b, L (k + 1) i a = some b ∧ Q b)
    (he : ∀ k a, I N a → ∃ b, L (k + 1) N a = some b ∧ Q b) (a : α) (h : I 0 a) : ∃ b, L fu 0 a = some b ∧ Q b :=
  loopI L I Q hs he N 0 fu a (by omega) hN h
/-- what is the same -/
def Ch (S : Nat → Nat → Bool) (μ μ2 : ax_M) : Prop := ∀ k i, S k i = false → μ2 k i = μ k i
theorem Ch.rf {S : Nat → Nat → Bool} {μ : ax_M} : Ch S μ μ := fun _ _ _ => rfl
theorem Ch.tr {S : Nat → Nat → Bool} {μ μ2 μ3 : ax_M} (h : Ch S μ μ2) (h2 : Ch S μ2 μ3) : Ch S μ μ3 := fun k i hs => (h2 k i hs).trans (h k i hs)
theorem Ch.mono {S S2 : Nat → Nat → Bool} {μ μ2 : ax_M} (h : Ch S μ μ2) (hS : ∀ k i, S2 k i = false → S k i = false) : Ch S2 μ μ2 := fun k i hs => h k i (hS k i hs)
theorem Ch.w {S : Nat → Nat → Bool} {μ μ2 : ax_M} {k i : Nat} {v : Int32} (h : Ch S μ μ2) (hS : S k i = true) : Ch S μ (ax_w μ2 k i v) := by
  intro k2 i2 hs
  have hne : ¬ (k2 = k ∧ i2 = i) := fun z => by rw [z.1, z.2, hS] at hs; cases hs
  show (if k2 = k then (if i2 = i then v else μ2 k2 i2) else μ2 k2 i2) = _
  by_cases a : k2 = k
  · rw [if_pos a, if_neg (fun b => hne ⟨a, b⟩)]
    exact h k2 i2 hs
  · rw [if_neg a]
    exact h k2 i2 hs
theorem w_ss {μ : ax_M} {k i : Nat} {v : Int32} : ax_w μ k i v k i = v := by simp [ax_w]
theorem w_k {μ : ax_M} {k i k2 i2 : Nat} {v : Int32} (h : k2 ≠ k) : ax_w μ k i v k2 i2 = μ k2 i2 := by simp [ax_w, h]
theorem w_i {μ : ax_M} {k i k2 i2 : Nat} {v : Int32} (h : i2 ≠ i) : ax_w μ k i v k2 i2 = μ k2 i2 := by simp [ax_w, h]
/-- the bits of a row of six -/
def mk6 (a b c d e f : Bool) : Int32 := (if a then 1 else 0) + (if b then 2 else 0) + (if c then 4 else 0) + (if d then 8 else 0) + (if e then 16 else 0) + (if f then 32 else 0)
def mkA (A : Nat → Bool) (n : Nat) : Int32 := mk6 (decide (0 < n) && A 0) (decide (1 < n) && A 1) (decide (2 < n) && A 2) (decide (3 < n) && A 3) (decide (4 < n) && A 4) (decide (5 < n) && A 5)
theorem mk6_bit : ∀ (a b c d e f : Bool) (r : Fin 6), (srI (mk6 a b c d e f) (nI r)) &&& 1 = if (match r.val with | 0 => a | 1 => b | 2 => c | 3 => d | 4 => e | _ => f) then 1 else 0 := by decide +kernel
theorem mk6_or : ∀ (a b c d e f : Bool) (r : Fin 6), (mk6 a b c d e f) ||| (shI 1 (nI r)) = mk6 (a || r.val == 0) (b || r.val == 1) (c || r.val == 2) (d || r.val == 3) (e || r.val == 4) (f || r.val == 5) := by decide +kernel
theorem mkA_bit {A : Nat → Bool} {n r : Nat} (hr : r < 6) : (srI (mkA A n) (nI r)) &&& 1 = if (decide (r < n) && A r) then 1 else 0 := by
  have h := mk6_bit (decide (0 < n) && A 0) (decide (1 < n) && A 1) (decide (2 < n) && A 2) (decide (3 < n) && A 3) (decide (4 < n) && A 4) (decide (5 < n) && A 5) ⟨r, hr⟩
  unfold mkA
  rw [h]
  match r, hr with
  | 0, _ => rfl
  | 1, _ => rfl
  | 2, _ => rfl
  | 3, _ => rfl
  | 4, _ => rfl
  | 5, _ => rfl
theorem mkA_0 (A : Nat → Bool) : mkA A 0 = 0 := by simp [mkA, mk6]
theorem mkA_ext {A B : Nat → Bool} {n : Nat} (h : ∀ r, r < 6 → (decide (r < n) && A r) = (decide (r < n) && B r)) : mkA A n = mkA B n := by
  unfold mkA
  rw [h 0 (by omega), h 1 (by omega), h 2 (by omega), h 3 (by omega), h 4 (by omega), h 5 (by omega)]
theorem mkA_set {A : Nat → Bool} {n r : Nat} (hr : r < n) (hr6 : r < 6) : (mkA A n) ||| (shI 1 (nI r)) = mkA (fun q => A q || q == r) n := by
  unfold mkA
  have h := mk6_or (decide (0 < n) && A 0) (decide (1 < n) && A 1) (decide (2 < n) && A 2) (decide (3 < n) && A 3) (decide (4 < n) && A 4) (decide (5 < n) && A 5) ⟨r, hr6⟩
  rw [h]
  match r, hr6 with
  | 0, _ => simp [hr]
  | 1, _ => simp [hr]
  | 2, _ => simp [hr]
  | 3, _ => simp [hr]
  | 4, _ => simp [hr]
  | 5, _ => simp [hr]
theorem mkA_up {A : Nat → Bool} {n : Nat} (hn : n < 6) : mkA A (n + 1) = if A n then (mkA A n) ||| (shI 1 (nI n)) else mkA A n := by
  have h := mk6_or (decide (0 < n) && A 0) (decide (1 < n) && A 1) (decide (2 < n) && A 2) (decide (3 < n) && A 3) (decide (4 < n) && A 4) (decide (5 < n) && A 5) ⟨n, hn⟩
  unfold mkA
  rw [h]
  match n, hn with
  | 0, _ => cases h0 : A 0 <;> simp
  | 1, _ => cases h0 : A 1 <;> simp
  | 2, _ => cases h0 : A 2 <;> simp
  | 3, _ => cases h0 : A 3 <;> simp
  | 4, _ => cases h0 : A 4 <;> simp
  | 5, _ => cases h0 : A 5 <;> simp
theorem sh1_mk {n r : Nat} (hr : r < n) (hr6 : r < 6) : shI 1 (nI r) = mkA (fun q => q == r) n := by
  have h := mkA_set (A := fun _ => false) hr hr6
  have h0 : mkA (fun _ => false) n = 0 := by simp [mkA, mk6]
  rw [h0] at h
  simp only [Bool.false_or] at h
  rw [← h]
  match r, hr6 with
  | 0, _ => decide
  | 1, _ => decide
  | 2, _ => decide
  | 3, _ => decide
  | 4, _ => decide
  | 5, _ => decide
