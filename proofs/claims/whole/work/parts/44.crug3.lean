/-! ===== neighbours, leagues, guests ===== -/
theorem loopK {α β : Type} {N : Nat} (L : Nat → Nat → α → Option β) (I : Nat → α → Prop) (K : α → Option β) (hN : N < 1000000)
    (hs : ∀ k i a, i < N → I i a → ∃ a2, L (k + 1) i a = L k (i + 1) a2 ∧ I (i + 1) a2)
    (he : ∀ k a, I N a → L (k + 1) N a = K a) (a : α) (h : I 0 a) : ∃ a2, I N a2 ∧ L fu 0 a = K a2 := by
  have key : ∀ (m i k : Nat) (a : α), i + m = N → m < k → I i a → ∃ a2, I N a2 ∧ L k i a = K a2 := by
    intro m
    induction m with
    | zero =>
      intro i k a hi hk hI
      obtain ⟨k, rfl⟩ : ∃ k2, k = k2 + 1 := ⟨k - 1, by omega⟩
      have : i = N := by omega
      subst this
      exact ⟨a, hI, he k a hI⟩
    | succ m ih =>
      intro i k a hi hk hI
      obtain ⟨k, rfl⟩ : ∃ k2, k = k2 + 1 := ⟨k - 1, by omega⟩
      obtain ⟨a2, h1, h2⟩ := hs k i a (by omega) hI
      rw [h1]
      exact ih (i + 1) k a2 (by omega) (by omega) h2
  exact key N 0 fu a (by omega) hN h
def s_any (f : Nat → Bool) : Nat → Bool
  | 0 => false
  | k + 1 => s_any f k || f k
def s_nb1 (R : Nat → Option Nat) (x c w q : Nat) : Bool := decide (R c = some x) && (match s_step c w with
  | none => false
  | some v => decide (R v = some q) && decide (q ≠ x))
def s_nb (R : Nat → Option Nat) (x q : Nat) : Bool := s_any (fun c => s_any (fun w => s_nb1 R x c w q) 4) 36
theorem rI_eq {o : Option Nat} {x : Nat} (ho : ∀ r, o = some r → r < 2 ^ 31) (hx : x < 2 ^ 31) : (rI o = nI x) = (o = some x) := by
  cases o with
  | none =>
    apply propext
    constructor
    · intro h
      exact absurd h.symm (nm1 hx)
    · intro h
      cases h
  | some r =>
    show (nI r = nI x) = _
    rw [neqL (ho r rfl) hx]
    simp
theorem rI_m1 {o : Option Nat} (ho : ∀ r, o = some r → r < 2 ^ 31) : (rI o = -1) = (o = none) := by
  cases o with
  | none => simp [rI]
  | some r =>
    apply propext
    constructor
    · intro h
      exact absurd h (nm1 (ho r rfl))
    · intro h
      cases h
theorem mkA_same {A B : Nat → Bool} {n : Nat} (h : ∀ q, A q = B q) : mkA A n = mkA B n := by rw [funext h]
theorem c_nb1 {n x c : Nat} {μ : ax_M} {R : Nat → Option Nat} (hn : n ≤ 6) (hR : ∀ c, c < 36 → μ 32 c = rI (R c)) (hRn : ∀ c r, R c = some r → r < n) (hx : x < n) (hc : c < 36) (k4 : Int32 → Int32 → Option Int32) (A : Nat → Bool) :
    m_X0_neighbours_13 (nI x) (nI c) k4 μ fu (mkA A n) 0 = k4 (mkA (fun q => A q || s_any (fun w => s_nb1 R x c w q) 4) n) (nI (c + 1)) := by
  have hb : ∀ c r, R c = some r → r < 2 ^ 31 := fun c r h => by have := hRn c r h; omega
  obtain ⟨a, ha, hq⟩ := loopK (N := 4) (fun k i (a : Int32) => m_X0_neighbours_13 (nI x) (nI c) k4 μ k a (nI i)) (fun i a => a = mkA (fun q => A q || s_any (fun w => s_nb1 R x c w q) i) n) (fun a => k4 a (nI (c + 1))) (by omega)
    (fun k i a hi hI => by
      subst hI
      refine ⟨_, ?_, rfl⟩
      have e : ∀ q, (A q || s_any (fun w => s_nb1 R x c w q) (i + 1)) = ((A q || s_any (fun w => s_nb1 R x c w q) i) || s_nb1 R x c i q) := fun q => (Bool.or_assoc ..).symm
      rw [mkA_same e]
      show m_X0_neighbours_13 (nI x) (nI c) k4 μ (k + 1) _ (nI i) = _
      rw [m_X0_neighbours_13, if_neg (show ¬ (4 : Int32) ≤ nI i by rw [show (4 : Int32) = nI 4 from rfl, nleL (by omega) (by omega)]; omega), c_step hc hi, ob_some, ix_nI hc (by decide), ob_some, hR c hc]
      simp only [rI_eq (hb c) (show x < 2 ^ 31 by omega), na1]
      by_cases e1 : R c = some x
      · rw [if_pos e1]
        cases e2 : s_step c i with
        | none =>
          rw [if_pos (show rI none = -1 from rfl)]
          congr 1
          exact mkA_same fun q => by simp [s_nb1, e2]
        | some v =>
          have hv := s_step_lt hc e2
          rw [if_neg (show ¬ rI (some v) = -1 from nm1 (by omega))]
          rw [show rI (some v) = nI v from rfl, ix_nI hv (by decide)]
          simp only [ob_some, hR v hv, rI_eq (hb v) (show x < 2 ^ 31 by omega), rI_m1 (hb v)]
          by_cases e3 : R v = some x
          · rw [if_pos e3]
            congr 1
            refine mkA_same fun q => ?_
            simp only [s_nb1, e2, e3, e1]
            by_cases hqx : q = x
            · subst hqx
              simp
            · have : ¬ x = q := fun z => hqx z.symm
              simp [this]
          · rw [if_neg e3]
            by_cases e4 : R v = none
            · rw [if_pos e4]
              congr 1
              exact mkA_same fun q => by simp [s_nb1, e2, e4]
            · rw [if_neg e4]
              obtain ⟨y, hy⟩ : ∃ y, R v = some y := by
                cases hz : R v with
                | none => exact absurd hz e4
                | some y => exact ⟨y, rfl⟩
              have hyn := hRn v y hy
              rw [hy, show rI (some y) = nI y from rfl, mkA_set hyn (by omega)]
              congr 1
              refine mkA_same fun q => ?_
              simp only [s_nb1, e2, hy, e1]
              have hyx : ¬ y = x := fun z => e3 (by rw [hy, z])
              by_cases hqy : q = y
              · subst hqy
                simp [hyx]
              · have h2 : ¬ y = q := fun z => hqy z.symm
                simp [hqy, h2]
      · rw [if_neg e1]
        congr 1
        exact mkA_same fun q => by simp [s_nb1, e1])
    (fun k a hI => by
      show m_X0_neighbours_13 (nI x) (nI c) k4 μ (k + 1) a (nI 4) = _
      rw [m_X0_neighbours_13, if_pos (by decide), na1])
    (mkA A n) (mkA_same fun q => by simp [s_any])
  subst ha
  exact hq
theorem c_nb {n x : Nat} {μ : ax_M} {R : Nat → Option Nat} (hn : n ≤ 6) (hR : ∀ c, c < 36 → μ 32 c = rI (R c)) (hRn : ∀ c r, R c = some r → r < n) (hx : x < n) : m_X0_neighbours (nI x) μ = some (mkA (s_nb R x) n) := by
  obtain ⟨a, ha, hq⟩ := loopK (N := 36) (fun k i (a : Int32) => m_X0_neighbours_4 (nI x) μ k a (nI i)) (fun i a => a = mkA (fun q => s_any (fun c => s_any (fun w => s_nb1 R x c w q) 4) i) n) (fun a => some a) (by omega)
    (fun k i a hi hI => by
      subst hI
      refine ⟨_, ?_, rfl⟩
      show m_X0_neighbours_4 (nI x) μ (k + 1) _ (nI i) = _
      rw [m_X0_neighbours_4, if_neg (ge36 hi), c_nb1 hn hR hRn hx hi]
      rfl)
    (fun k a hI => by
      show m_X0_neighbours_4 (nI x) μ (k + 1) a (nI 36) = _
      rw [m_X0_neighbours_4, if_pos (by decide)])
    0 (show (0 : Int32) = mkA (fun _ => false) n by simp [mkA, mk6])
  subst ha
  exact hq
