/-! ===== what the rugs mean ===== -/
abbrev Dt : Type := (Nat → Int32 → Int32 → Int32 → Int32 → Int32 → Int32 → Int32) × ((Nat → Int32) × ((Nat → Int32) × ((Nat → Int32) × ((Nat → Nat) × (Nat → Nat)))))
def d_f (d : Dt) : Nat → Int32 → Int32 → Int32 → Int32 → Int32 → Int32 → Int32 := d.1
def d_k (d : Dt) : Nat → Int32 := d.2.1
def d_m (d : Dt) : Nat → Int32 := d.2.2.1
def d_g (d : Dt) : Nat → Int32 := d.2.2.2.1
def d_a (d : Dt) : Nat → Nat := d.2.2.2.2.1
def d_b (d : Dt) : Nat → Nat := d.2.2.2.2.2
def s_sz (d : Dt) (r : Nat) : Nat := (d_b d r % 6 - d_a d r % 6 + 1) * (d_b d r / 6 - d_a d r / 6 + 1)
def s_val (d : Dt) (p r c : Nat) (h : Int32) : Int32 := d_f d p (nI (c % 6)) (nI (c / 6)) h (d_g d r) (nI (s_sz d r)) (d_m d r)
def s_say (d : Dt) (p r c : Nat) (h : Int32) : Int32 := if p = 0 then mxI 0 (mnI 99 (s_val d p r c h)) else if s_val d p r c h = 0 then 0 else 1
def s_asl (d : Dt) (r : Nat) (h : Int32) : Bool :=
  if d_k d r = 5 then false
  else if d_k d r = 2 then (decide (s_say d 2 r (d_a d r) h ≠ 0) || decide (h = 14) || decide (h = 15))
  else if d_k d r = 4 then !(decide (s_say d 2 r (d_a d r) h ≠ 0) || decide (h = 14) || decide (h = 15))
  else decide (s_say d 2 r (d_a d r) h ≠ 0)
def s_lie (d : Dt) (r c : Nat) : Bool := decide (d_a d r % 6 ≤ c % 6 ∧ c % 6 ≤ d_b d r % 6 ∧ d_a d r / 6 ≤ c / 6 ∧ c / 6 ≤ d_b d r / 6)
def s_frg (d : Dt) (r c : Nat) : Bool := decide (c % 6 = d_a d r % 6 ∨ c % 6 = d_b d r % 6 ∨ c / 6 = d_a d r / 6 ∨ c / 6 = d_b d r / 6)
def s_tar (d : Dt) (r c : Nat) (h : Int32) : Int32 := if s_frg d r c then s_say d 0 r c h + 2 * d_m d r else s_say d 0 r c h
def s_fin (d : Dt) (r c : Nat) (h : Int32) : Int32 :=
  if d_k d r = 5 then d_m d r
  else if d_k d r = 1 then s_tar d r c h
  else if d_k d r = 3 then 2 * s_tar d r c h
  else if d_k d r = 4 then (if s_frg d r c then 0 else s_say d 0 r c h / 2)
  else s_say d 0 r c h
def s_adm (d : Dt) (r c : Nat) (h : Int32) : Bool :=
  if d_k d r = 3 then true
  else if d_k d r = 2 ∨ d_k d r = 4 then (decide (s_say d 1 r c h ≠ 0) && decide (d_g d r < d_m d r))
  else decide (s_say d 1 r c h ≠ 0)
def s_top (P : Nat → Bool) : Nat → Option Nat
  | 0 => none
  | n + 1 => if P n then some n else s_top P n
def s_rul (d : Dt) (n : Nat) (A : Nat → Bool) (c : Nat) : Option Nat := s_top (fun r => A r && s_lie d r c) n
def rI (o : Option Nat) : Int32 := match o with
  | none => -1
  | some r => nI r
def s_fat (d : Dt) (o : Option Nat) (c : Nat) (h : Int32) : Int32 := match o with
  | none => 0
  | some r => s_fin d r c h
def s_awk (d : Dt) (h : Int32) (r : Nat) : Bool := !s_asl d r h
theorem s_top_lt {P : Nat → Bool} : ∀ {n r : Nat}, s_top P n = some r → r < n
  | 0, r, h => by cases h
  | n + 1, r, h => by
    unfold s_top at h
    split at h
    · cases h
      omega
    · have := s_top_lt h
      omega
theorem s_top_ext {P Q : Nat → Bool} : ∀ {n : Nat}, (∀ r, r < n → P r = Q r) → s_top P n = s_top Q n
  | 0, _ => rfl
  | n + 1, h => by
    unfold s_top
    rw [h n (by omega), s_top_ext (fun r hr => h r (by omega))]
def bI (b : Bool) : Int32 := if b then 1 else 0
/-- what the rugs are, in the class' cells -/
def RC (n : Nat) (d : Dt) (μ : ax_M) : Prop := n ≤ 6 ∧ μ 25 1 = nI n ∧ ∀ r, r < n → μ 26 r = d_k d r ∧ μ 27 r = d_m d r ∧ μ 28 r = nI (d_a d r) ∧ μ 29 r = nI (d_b d r) ∧ μ 30 r = nI (s_sz d r) ∧ μ 31 r = d_g d r ∧ d_a d r < 36 ∧ d_b d r < 36 ∧ d_a d r % 6 ≤ d_b d r % 6 ∧ d_a d r / 6 ≤ d_b d r / 6
/-- what the law says -/
def LC (d : Dt) (μ : ax_M) : Prop := ∀ μ1 : ax_M, (∀ k, 3 ≤ k → k ≤ 15 → μ1 k = μ k) → μ1 25 3 = μ 25 3 → ∀ p, p < 3 → ∃ μ2, m_X7_value (μ1 25 3) (nI p) μ1 = some (d_f d p (μ1 16 0) (μ1 16 1) (μ1 16 2) (μ1 16 3) (μ1 16 4) (μ1 16 5), μ2) ∧ ∀ k, k ≠ 17 → μ2 k = μ1 k
def cN (k : Nat) (_ : Nat) : Bool := (decide (3 ≤ k) && decide (k ≤ 15)) || (decide (25 ≤ k) && decide (k ≤ 31))
theorem RC.ch {n : Nat} {d : Dt} {μ μ2 : ax_M} {S : Nat → Nat → Bool} (h : RC n d μ) (hc : Ch S μ μ2) (hS : ∀ k i, cN k i = true → S k i = false) : RC n d μ2 := by
  have e : ∀ k i, 25 ≤ k → k ≤ 31 → μ2 k i = μ k i := fun k i h1 h2 => hc k i (hS k i (by simp [cN]; omega))
  obtain ⟨h1, h2, h3⟩ := h
  refine ⟨h1, by rw [e 25 1 (by omega) (by omega)]; exact h2, fun r hr => ?_⟩
  rw [e 26 r (by omega) (by omega), e 27 r (by omega) (by omega), e 28 r (by omega) (by omega), e 29 r (by omega) (by omega), e 30 r (by omega) (by omega), e 31 r (by omega) (by omega)]
  exact h3 r hr
theorem LC.ch {d : Dt} {μ μ2 : ax_M} {S : Nat → Nat → Bool} (h : LC d μ) (hc : Ch S μ μ2) (hS : ∀ k i, cN k i = true → S k i = false) : LC d μ2 := by
  intro μ1 h1 h2 p hp
  refine h μ1 (fun k a b => ?_) ?_ p hp
  · rw [h1 k a b]
    funext i
    exact hc k i (hS k i (by simp [cN]; omega))
  · rw [h2]
    exact hc 25 3 (hS 25 3 (by simp [cN]))
def S2 (k : Nat) (_ : Nat) : Bool := k == 16 || k == 17
def S3 (k : Nat) (_ : Nat) : Bool := k == 16 || k == 17 || k == 32
def S4 (k : Nat) (_ : Nat) : Bool := k == 16 || k == 17 || k == 32 || k == 33
theorem S2N (k i : Nat) (h : cN k i = true) : S2 k i = false := by simp [cN, S2] at *; omega
theorem S3N (k i : Nat) (h : cN k i = true) : S3 k i = false := by simp [cN, S3] at *; omega
theorem S4N (k i : Nat) (h : cN k i = true) : S4 k i = false := by simp [cN, S4] at *; omega
theorem S23 (k i : Nat) (h : S3 k i = false) : S2 k i = false := by simp [S2, S3] at *; omega
theorem S34 (k i : Nat) (h : S4 k i = false) : S3 k i = false := by simp [S4, S3] at *; omega
theorem S24 (k i : Nat) (h : S4 k i = false) : S2 k i = false := S23 k i (S34 k i h)
theorem c_lie {n : Nat} {d : Dt} {μ : ax_M} (h : RC n d μ) {r c : Nat} (hr : r < n) (hc : c < 36) : m_X0_liesOn (nI r) (nI c) μ = some (bI (s_lie d r c)) := by
  obtain ⟨h1, h2, h3⟩ := h
  obtain ⟨-, -, ha, hb, -, -, la, lb, -, -⟩ := h3 r hr
  unfold m_X0_liesOn m_X9_columnOf m_X9_rowOf
  rw [ix_nI (by omega) (by decide)]
  simp only [ob_some, ha, hb]
  rw [nr6 (by omega), nr6 (by omega), nr6 (by omega), nd6 (by omega), nd6 (by omega), nd6 (by omega)]
  simp (disch := omega) only [nltL]
  unfold s_lie bI
  repeat' split
  all_goals first | rfl | (simp_all; done) | (simp_all; omega)
theorem c_frg {n : Nat} {d : Dt} {μ : ax_M} (h : RC n d μ) {r c : Nat} (hr : r < n) (hc : c < 36) : m_X0_hasFringeOn (nI r) (nI c) μ = some (bI (s_frg d r c)) := by
  obtain ⟨h1, h2, h3⟩ := h
  obtain ⟨-, -, ha, hb, -, -, la, lb, -, -⟩ := h3 r hr
  unfold m_X0_hasFringeOn m_X9_columnOf m_X9_rowOf
  rw [ix_nI (by omega) (by decide)]
  simp only [ob_some, ha, hb]
  rw [nr6 (by omega), nr6 (by omega), nr6 (by omega), nd6 (by omega), nd6 (by omega), nd6 (by omega)]
  simp (disch := omega) only [neqL]
  unfold s_frg bI
  repeat' split
  all_goals first | rfl | (simp_all; done) | (simp_all; omega)
theorem c_say {n : Nat} {d : Dt} {μ : ax_M} (h : RC n d μ) (hl : LC d μ) {p r c : Nat} {hh : Int32} (hp : p < 3) (hr : r < n) (hc : c < 36) : ∃ μ2, m_X0_says (nI p) (nI r) (nI c) hh μ = some (s_say d p r c hh, μ2) ∧ Ch S2 μ μ2 := by
  obtain ⟨h1, h2, h3⟩ := h
  obtain ⟨-, hm, -, -, hs, hg, -, -, -, -⟩ := h3 r hr
  unfold m_X0_says m_X9_columnOf m_X9_rowOf
  rw [ix_nI (by omega) (by decide)]
  simp only [ob_some]
  rw [nr6 (by omega), nd6 (by omega)]
  simp only [w_k (show (31 : Nat) ≠ 16 by decide), w_k (show (30 : Nat) ≠ 16 by decide), w_k (show (27 : Nat) ≠ 16 by decide), w_k (show (25 : Nat) ≠ 16 by decide)]
  rw [hm, hs, hg]
  generalize hμ : ax_w (ax_w (ax_w (ax_w (ax_w (ax_w μ 16 0 (nI (c % 6))) 16 1 (nI (c / 6))) 16 2 hh) 16 3 (d_g d r)) 16 4 (nI (s_sz d r))) 16 5 (d_m d r) = μ1
  have hc1 : Ch S2 μ μ1 := by
    rw [← hμ]
    exact ((((((Ch.rf.w rfl).w rfl).w rfl).w rfl).w rfl).w rfl)
  obtain ⟨μ2, e1, e2⟩ := hl μ1 (fun k a b => funext fun i => hc1 k i (by simp [S2]; omega)) (hc1 25 3 rfl) p hp
  rw [hc1 25 3 rfl] at e1
  rw [e1, bind2_some]
  have n0 : μ1 16 0 = nI (c % 6) := by rw [← hμ]; simp [ax_w]
  have n1 : μ1 16 1 = nI (c / 6) := by rw [← hμ]; simp [ax_w]
  have n2 : μ1 16 2 = hh := by rw [← hμ]; simp [ax_w]
  have n3 : μ1 16 3 = d_g d r := by rw [← hμ]; simp [ax_w]
  have n4 : μ1 16 4 = nI (s_sz d r) := by rw [← hμ]; simp [ax_w]
  have n5 : μ1 16 5 = d_m d r := by rw [← hμ]; simp [ax_w]
  rw [n0, n1, n2, n3, n4, n5]
  refine ⟨μ2, ?_, hc1.tr (fun k i hs => by rw [e2 k (by simp [S2] at hs; omega)])⟩
  simp only [show (nI p = 0) = (p = 0) from neqL (k := 0) (by omega) (by decide)]
  unfold s_say s_val
  repeat' split
  all_goals first | rfl | (simp_all; done)
