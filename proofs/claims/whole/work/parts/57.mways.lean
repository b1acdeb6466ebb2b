/-! ===== least ways: the model ===== -/
def T70 (k : Nat) (_ : Nat) : Bool := k == 70
def s_wt (z : Nat) (fn : Nat → Nat) (c : Nat) : Nat := if z = 0 then fn c else 1
theorem co_wt {z : Nat} {R : Nat → Option Nat} {fn : Nat → Nat} (hz : ¬ z = 1) (a c : Nat) : s_co z R fn a c = s_wt z fn c := by
  unfold s_co s_wt
  by_cases e : z = 0 <;> simp [e, hz]
def s_kd (z : Nat) : Int32 := if z = 1 then 1 else 0
theorem m_rx {n z a c w st v0 : Nat} {μ : ax_M} {R : Nat → Option Nat} {fn : Nat → Nat} {op : Nat → Bool} {D : Nat → Option Nat} (hn : n ≤ 6) (hR : ∀ c, c < 36 → μ 68 c = rI (R c)) (hfn : ∀ c, fn c ≤ 250) (hRn : ∀ c r, R c = some r → r < n) (ha : a < 36) (hw : w < 4) (hs : s_step a w = some c)
    (h69 : ∀ c, c < 36 → μ 69 c = if op c then nI (s_wt z fn c) else -1) (hD : ∀ c, c < 36 → μ 70 c = rI (D c)) (hwi : WI op (s_co z R fn) st v0 D) :
    ∃ μ2, m_X10_relaxes (nI a) (nI c) (s_kd z) μ = some (bI (rxf op (s_co z R fn) a c D), μ2) ∧ Ch T70 μ μ2 ∧ ∀ q, q < 36 → μ2 70 q = rI (rx op (s_co z R fn) a c D q) := by
  have hb : ∀ c r, R c = some r → r < 2 ^ 31 := fun c r h => by have := hRn c r h; omega
  have hc := s_step_lt ha hs
  have hco := s_co_le (z := z) (R := R) hfn
  have hwtb : s_wt z fn c ≤ 250 := by
    have := hfn c
    unfold s_wt
    split <;> omega
  have no : rxf op (s_co z R fn) a c D = false → ∃ μ2, (some ((0 : Int32), μ) : Option (Int32 × ax_M)) = some (bI (rxf op (s_co z R fn) a c D), μ2) ∧ Ch T70 μ μ2 ∧ ∀ q, q < 36 → μ2 70 q = rI (rx op (s_co z R fn) a c D q) := by
    intro hf
    rw [hf, rx_no hf]
    exact ⟨μ, rfl, Ch.rf, hD⟩
  unfold m_X10_relaxes
  rw [ix_nI ha (by decide), ix_nI hc (by decide)]
  simp only [ob_some, hD a ha, rI_m1 (wi_b2 hwi), h69 c hc, hR a ha, hR c hc, rI_inj (hb a) (hb c)]
  cases hDa : D a with
  | none =>
    rw [if_pos rfl]
    exact no (by unfold rxf; rw [hDa])
  | some u =>
    rw [if_neg (by simp)]
    have hub := wi_b hwi hDa
    have hcb := hco a c
    cases hoc : op c with
    | false =>
      simp only [Bool.false_eq_true, if_false, if_true]
      exact no (by unfold rxf; rw [hDa]; simp [hoc])
    | true =>
      simp only [if_true]
      rw [if_neg (show ¬ nI (s_wt z fn c) = -1 from nm1 (by omega))]
      -- with the cost
      have key : ∃ μ2, m_X10_relaxes_55 (nI a) (nI c) (nI (s_co z R fn a c)) μ = some (bI (rxf op (s_co z R fn) a c D), μ2) ∧ Ch T70 μ μ2 ∧ ∀ q, q < 36 → μ2 70 q = rI (rx op (s_co z R fn) a c D q) := by
        have set : rxf op (s_co z R fn) a c D = true → ∃ μ2, m_X10_relaxes_91 (nI c) (nI (u + s_co z R fn a c)) μ = some (bI (rxf op (s_co z R fn) a c D), μ2) ∧ Ch T70 μ μ2 ∧ ∀ q, q < 36 → μ2 70 q = rI (rx op (s_co z R fn) a c D q) := by
          intro hf
          obtain ⟨u2, g1, -, -, g4⟩ := rx_yes hf
          rw [hDa] at g1
          cases g1
          refine ⟨ax_w μ 70 c (nI (u + s_co z R fn a c)), ?_, Ch.rf.w rfl, fun q hq => ?_⟩
          · unfold m_X10_relaxes_91
            rw [ix_nI hc (by decide), ob_some, hf]
            rfl
          · rw [g4]
            by_cases eq : q = c
            · subst eq
              rw [w_ss]
              simp [s_up, rI]
            · rw [w_i eq, hD q hq]
              simp [s_up, eq]
        unfold m_X10_relaxes_55
        rw [ix_nI ha (by decide), ix_nI hc (by decide)]
        simp only [ob_some, hD a ha, hD c hc, hDa, rI_m1 (wi_b2 hwi)]
        rw [show rI (some u) + nI (s_co z R fn a c) = nI (u + s_co z R fn a c) from nI_add u _]
        cases hDc : D c with
        | none =>
          rw [if_pos rfl]
          exact set (by unfold rxf; rw [hDa]; simp [hoc, s_lts, hDc])
        | some x =>
          have hxb := wi_b hwi hDc
          rw [if_neg (by simp), show rI (some x) = nI x from rfl]
          simp only [show (nI (u + s_co z R fn a c) < nI x) = (u + s_co z R fn a c < x) from nltL (by omega) (by omega)]
          by_cases hlt : u + s_co z R fn a c < x
          · rw [if_pos hlt]
            exact set (by unfold rxf; rw [hDa]; simp [hoc, s_lts, hDc]; omega)
          · rw [if_neg hlt]
            exact no (by unfold rxf; rw [hDa]; simp [hoc, s_lts, hDc]; omega)
      by_cases e1 : z = 1
      · subst e1
        rw [if_neg (show ¬ s_kd 1 = 0 by simp [s_kd])]
        by_cases e2 : R a = R c
        · rw [if_pos e2]
          have : nI (s_co 1 R fn a c) = 0 := by simp [s_co, e2]; rfl
          rw [← this]
          exact key
        · rw [if_neg e2]
          have : nI (s_co 1 R fn a c) = 1 := by simp [s_co, e2]; rfl
          rw [← this]
          exact key
      · rw [if_pos (by simp [s_kd, e1]), ← co_wt (R := R) e1 a c]
        exact key
/-- the edges as the model goes over them -/
def s_mr (a : Nat) : List (Nat × Nat) := if a % 6 < 5 then [(a, a + 1), (a + 1, a)] else []
def s_md (a : Nat) : List (Nat × Nat) := if a < 30 then [(a, a + 6), (a + 6, a)] else []
def s_mls : Nat → List (Nat × Nat)
  | 0 => []
  | a + 1 => s_mls a ++ (s_mr a ++ s_md a)
theorem mem_mls {e : Nat × Nat} : ∀ j, e ∈ s_mls j ↔ ∃ a, a < j ∧ (e ∈ s_mr a ∨ e ∈ s_md a)
  | 0 => by simp [s_mls]
  | j + 1 => by
    unfold s_mls
    rw [List.mem_append, List.mem_append, mem_mls j]
    constructor
    · rintro (⟨a, h1, h2⟩ | h)
      · exact ⟨a, by omega, h2⟩
      · exact ⟨j, by omega, h⟩
    · rintro ⟨a, h1, h2⟩
      by_cases e2 : a = j
      · right
        subst e2
        exact h2
      · left
        exact ⟨a, by omega, h2⟩
theorem mr_edg {a : Nat} (ha : a < 36) : ∀ e ∈ s_mr a, Edg e := by
  intro e he
  unfold s_mr at he
  split at he
  · rename_i h5
    simp only [List.mem_cons, List.not_mem_nil, or_false] at he
    rcases he with rfl | rfl
    · exact ⟨ha, 0, by omega, by simp [s_step, h5]⟩
    · refine ⟨by show a + 1 < 36; omega, 1, by omega, ?_⟩
      show s_step (a + 1) 1 = some a
      unfold s_step
      rw [if_neg (by decide), if_pos rfl, if_pos (by omega)]
      rfl
  · cases he
theorem md_edg {a : Nat} (ha : a < 36) : ∀ e ∈ s_md a, Edg e := by
  intro e he
  unfold s_md at he
  split at he
  · rename_i h5
    simp only [List.mem_cons, List.not_mem_nil, or_false] at he
    rcases he with rfl | rfl
    · refine ⟨ha, 2, by omega, ?_⟩
      show s_step a 2 = some (a + 6)
      unfold s_step
      rw [if_neg (by decide), if_neg (by decide), if_pos rfl, if_pos (by omega)]
    · refine ⟨by show a + 6 < 36; omega, 3, by omega, ?_⟩
      show s_step (a + 6) 3 = some a
      unfold s_step
      rw [if_neg (by decide), if_neg (by decide), if_neg (by decide), if_pos (by omega)]
      rfl
  · cases he
theorem mls_edg {a : Nat} (ha : a ≤ 36) : ∀ e ∈ s_mls a, Edg e := by
  intro e he
  obtain ⟨b, h1, h2 | h2⟩ := (mem_mls a).mp he
  · exact mr_edg (by omega) e h2
  · exact md_edg (by omega) e h2
theorem full_mls : Full (s_mls 36) := by
  intro e
  constructor
  · rintro ⟨h1, w, h2, h3⟩
    rw [mem_mls]
    obtain ⟨a, c⟩ := e
    have h1 : a < 36 := h1
    have h3 : s_step a w = some c := h3
    unfold s_step at h3
    split at h3
    · split at h3
      · cases h3
        exact ⟨a, h1, Or.inl (by simp [s_mr, *])⟩
      · cases h3
    · split at h3
      · split at h3
        · cases h3
          refine ⟨a - 1, by omega, Or.inl ?_⟩
          have e1 : (a - 1) % 6 < 5 := by omega
          have e2 : a - 1 + 1 = a := by omega
          simp [s_mr, e1, e2]
        · cases h3
      · split at h3
        · split at h3
          · cases h3
            have e1 : a < 30 := by omega
            exact ⟨a, h1, Or.inr (by simp [s_md, e1])⟩
          · cases h3
        · split at h3
          · cases h3
            refine ⟨a - 6, by omega, Or.inr ?_⟩
            have e1 : a - 6 < 30 := by omega
            have e2 : a - 6 + 6 = a := by omega
            simp [s_md, e1, e2]
          · cases h3
  · exact mls_edg (Nat.le_refl 36) e
