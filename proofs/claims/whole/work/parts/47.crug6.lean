/-! ===== walks and balls ===== -/
theorem rI_inj {o o2 : Option Nat} (ho : ∀ r, o = some r → r < 2 ^ 31) (ho2 : ∀ r, o2 = some r → r < 2 ^ 31) : (rI o = rI o2) = (o = o2) := by
  cases o2 with
  | none => rw [show rI none = -1 from rfl, rI_m1 ho]
  | some r => rw [show rI (some r) = nI r from rfl, rI_eq ho (ho2 r rfl)]
def s_pv (w : Nat → Nat) : Nat → Option Nat
  | 0 => none
  | i + 1 => some (w i)
def s_crs (R : Nat → Option Nat) (p : Option Nat) (c : Nat) : Bool := match p with
  | none => false
  | some a => !decide (R a = R c)
def s_wb (R : Nat → Option Nat) (w : Nat → Nat) (i : Nat) : Nat := s_num (fun j => s_crs R (s_pv w j) (w j)) i
def s_wm (R : Nat → Option Nat) (w : Nat → Nat) (i q : Nat) : Bool := s_any (fun j => decide (R (w j) = some q)) i
def St (k : Nat) (_ : Nat) : Bool := k == 34
def S5 (k : Nat) (_ : Nat) : Bool := k == 16 || k == 17 || k == 34
theorem S5N (k i : Nat) (h : cN k i = true) : S5 k i = false := by simp [cN, S5] at *; omega
theorem S25 (k i : Nat) (h : S5 k i = false) : S2 k i = false := by simp [S2, S5] at *; omega
theorem St5 (k i : Nat) (h : S5 k i = false) : St k i = false := by simp [St, S5] at *; omega
def JT (n : Nat) (R : Nat → Option Nat) (F : Nat → Int32) (w : Nat → Nat) (i : Nat) (μ : ax_M) : Prop := μ 34 1 = s_sum (fun j => F (w j)) i ∧ μ 34 2 = nI (s_wb R w i) ∧ μ 34 3 = mkA (s_wm R w i) n ∧ μ 34 4 = rI (s_pv w i)
theorem c_crs {n c : Nat} {μ : ax_M} {R : Nat → Option Nat} {p : Option Nat} (hn : n ≤ 6) (hR : ∀ c, c < 36 → μ 32 c = rI (R c)) (hRn : ∀ c r, R c = some r → r < n) (hc : c < 36) (hp : ∀ a, p = some a → a < 36) (h4 : μ 34 4 = rI p) : m_X5_crosses (nI c) μ = some (bI (s_crs R p c)) := by
  have hb : ∀ c r, R c = some r → r < 2 ^ 31 := fun c r h => by have := hRn c r h; omega
  unfold m_X5_crosses
  cases p with
  | none =>
    rw [h4]
    simp [rI, s_crs, bI]
  | some a =>
    have ha := hp a rfl
    rw [h4, show rI (some a) = nI a from rfl, if_neg (nm1 (by omega)), ix_nI ha (by decide), ob_some, ix_nI hc (by decide), ob_some, hR a ha, hR c hc]
    simp only [rI_inj (hb a) (hb c)]
    by_cases e : R a = R c <;> simp [s_crs, bI, e]
def s_stp (d : Dt) (R : Nat → Option Nat) (p : Option Nat) (c : Nat) (h : Int32) : Bool := match p with
  | none => !s_let d (R c) c h
  | some a => !decide (R a = R c) && !s_let d (R c) c h
theorem c_stp {n c : Nat} {d : Dt} {μ : ax_M} {R : Nat → Option Nat} {p : Option Nat} (h : RC n d μ) (hl : LC d μ) (hR : ∀ c, c < 36 → μ 32 c = rI (R c)) (hRn : ∀ c r, R c = some r → r < n) (hc : c < 36) (hp : ∀ a, p = some a → a < 36) (h4 : μ 34 4 = rI p) :
    ∃ μ2, m_X5_isStopped (nI c) μ = some (bI (s_stp d R p c (μ 25 2)), μ2) ∧ Ch S2 μ μ2 := by
  obtain ⟨μ2, e1, e2⟩ := c_let h hl hR hRn hc
  have e3 : m_X5_isStopped_16 (nI c) μ = some (bI (!s_let d (R c) c (μ 25 2)), μ2) := by
    unfold m_X5_isStopped_16
    rw [e1, bind2_some]
    cases s_let d (R c) c (μ 25 2) <;> simp [bI]
  unfold m_X5_isStopped
  rw [c_crs h.1 hR hRn hc hp h4, e3]
  cases p with
  | none =>
    refine ⟨μ2, ?_, e2⟩
    rw [h4]
    simp [rI, s_stp]
  | some a =>
    have ha := hp a rfl
    rw [h4, show rI (some a) = nI a from rfl, if_neg (nm1 (by omega)), ob_some]
    by_cases e : R a = R c
    · exact ⟨μ, by simp [s_crs, s_stp, bI, e], Ch.rf⟩
    · exact ⟨μ2, by simp [s_crs, s_stp, bI, e], e2⟩
theorem c_go {n i : Nat} {μ : ax_M} {R : Nat → Option Nat} {F : Nat → Int32} {w : Nat → Nat} (hn : n ≤ 6) (hR : ∀ c, c < 36 → μ 32 c = rI (R c)) (hF : ∀ c, c < 36 → μ 33 c = F c) (hRn : ∀ c r, R c = some r → r < n) (hw : ∀ j, j ≤ i → w j < 36) (hJ : JT n R F w i μ) :
    ∃ μ2, m_X5_go (nI (w i)) μ = some μ2 ∧ JT n R F w (i + 1) μ2 ∧ Ch St μ μ2 := by
  have hb : ∀ c r, R c = some r → r < 2 ^ 31 := fun c r h => by have := hRn c r h; omega
  obtain ⟨j1, j2, j3, j4⟩ := hJ
  have hc := hw i (Nat.le_refl i)
  have hp : ∀ a, s_pv w i = some a → a < 36 := by
    intro a ha
    cases i with
    | zero => cases ha
    | succ i => cases ha; exact hw i (by omega)
  -- the last step, whatever the borders
  have last : ∀ μ1 : ax_M, μ1 34 1 = s_sum (fun j => F (w j)) (i + 1) → μ1 34 2 = nI (s_wb R w (i + 1)) → μ1 34 3 = mkA (s_wm R w i) n → Ch St μ μ1 → ∃ μ2, m_X5_go_36 (nI (w i)) μ1 = some μ2 ∧ JT n R F w (i + 1) μ2 ∧ Ch St μ μ2 := by
    intro μ1 a1 a2 a3 hch
    unfold m_X5_go_36
    have a32 : μ1 32 (w i) = rI (R (w i)) := by rw [hch 32 _ rfl]; exact hR _ hc
    rw [ix_nI hc (by decide)]
    simp only [ob_some, a32, rI_m1 (hb (w i))]
    by_cases e : R (w i) = none
    · rw [if_pos e]
      refine ⟨_, rfl, ⟨?_, ?_, ?_, w_ss⟩, hch.w rfl⟩
      · rw [w_i (by decide), a1]
      · rw [w_i (by decide), a2]
      · rw [w_i (by decide), a3]
        exact mkA_same fun q => by simp [s_wm, s_any, e]
    · rw [if_neg e]
      obtain ⟨y, hy⟩ : ∃ y, R (w i) = some y := by
        cases hz : R (w i) with
        | none => exact absurd hz e
        | some y => exact ⟨y, rfl⟩
      have hyn := hRn _ y hy
      refine ⟨_, rfl, ⟨?_, ?_, ?_, w_ss⟩, (hch.w rfl).w rfl⟩
      · rw [w_i (by decide), w_i (by decide), a1]
      · rw [w_i (by decide), w_i (by decide), a2]
      · rw [w_i (by decide), w_ss, a3, hy, show rI (some y) = nI y from rfl, mkA_set hyn (by omega)]
        refine mkA_same fun q => ?_
        simp only [s_wm, s_any, hy]
        by_cases hqy : q = y
        · subst hqy
          simp
        · have h2 : ¬ y = q := fun z => hqy z.symm
          simp [hqy, h2]
  have e0 : ∀ k2 i2, k2 ≠ 34 → (ax_w μ 34 1 (μ 34 1 + μ 33 (w i))) k2 i2 = μ k2 i2 := fun k2 i2 hk => w_k hk
  unfold m_X5_go
  rw [ix_nI hc (by decide), ob_some, c_crs hn (fun c hc => by rw [e0 32 c (by decide)]; exact hR c hc) hRn hc hp (by rw [w_i (by decide)]; exact j4), ob_some]
  have b1 : (ax_w μ 34 1 (μ 34 1 + μ 33 (w i))) 34 1 = s_sum (fun j => F (w j)) (i + 1) := by
    rw [w_ss, j1, hF _ hc]
    rfl
  cases hx : s_crs R (s_pv w i) (w i) with
  | false =>
    rw [if_pos (by simp [bI])]
    refine last _ b1 ?_ (by rw [w_i (by decide), j3]) (Ch.rf.w rfl)
    rw [w_i (by decide), j2]
    simp [s_wb, s_num, hx]
  | true =>
    rw [if_neg (by simp [bI])]
    refine last _ (by rw [w_i (by decide)]; exact b1) ?_ (by rw [w_i (by decide), w_i (by decide), j3]) ((Ch.rf.w rfl).w rfl)
    rw [w_ss, w_i (by decide), j2, na1]
    simp [s_wb, s_num, hx]
def s_idx (f : Nat → Bool) : Nat → Nat → Option Nat
  | 0, _ => none
  | m + 1, i => if f i then some i else s_idx f m (i + 1)
def s_til (o : Option Nat) (z : Nat) : Nat := match o with
  | none => z
  | some i => i
theorem c_thru {n s z : Nat} {d : Dt} {μ : ax_M} {R : Nat → Option Nat} {F : Nat → Int32} {w : Nat → Nat} (h : RC n d μ) (hl : LC d μ) (hR : ∀ c, c < 36 → μ 32 c = rI (R c)) (hF : ∀ c, c < 36 → μ 33 c = F c) (hRn : ∀ c r, R c = some r → r < n) (hs : s < 4) (hz : z ≤ 40) (h50 : μ 50 s = nI z) (hw : ∀ j, j < z → w j < 36 ∧ μ (45 + s) j = nI (w j)) :
    ∃ μ2, m_X9_goThrough (nI s) μ = some (rI (s_idx (fun i => s_stp d R (s_pv w i) (w i) (μ 25 2)) z 0), μ2) ∧ JT n R F w (s_til (s_idx (fun i => s_stp d R (s_pv w i) (w i) (μ 25 2)) z 0) z) μ2 ∧ Ch S5 μ μ2 := by
  have key : ∀ (m i k : Nat) (μ1 : ax_M), i + m = z → m < k → Ch S5 μ μ1 → JT n R F w i μ1 → ∃ μ2, m_X9_goThrough_9 (nI s) k (nI i) μ1 = some (rI (s_idx (fun i => s_stp d R (s_pv w i) (w i) (μ 25 2)) m i), μ2) ∧ JT n R F w (s_til (s_idx (fun i => s_stp d R (s_pv w i) (w i) (μ 25 2)) m i) z) μ2 ∧ Ch S5 μ μ2 := by
    intro m
    induction m with
    | zero =>
      intro i k μ1 hi hk hch hJ
      obtain ⟨k, rfl⟩ : ∃ k2, k = k2 + 1 := ⟨k - 1, by omega⟩
      refine ⟨μ1, ?_, ?_, hch⟩
      · rw [m_X9_goThrough_9, ix_nI hs (by decide), ob_some, hch 50 s rfl, h50, if_pos (by rw [nleL (by omega) (by omega)]; omega)]
        rfl
      · have : i = z := by omega
        subst this
        exact hJ
    | succ m ih =>
      intro i k μ1 hi hk hch hJ
      obtain ⟨k, rfl⟩ : ∃ k2, k = k2 + 1 := ⟨k - 1, by omega⟩
      have hwi := hw i (by omega)
      have hp : ∀ a, s_pv w i = some a → a < 36 := by
        intro a ha
        cases i with
        | zero => cases ha
        | succ i => cases ha; exact (hw i (by omega)).1
      obtain ⟨μ2, f1, f2⟩ := c_stp (h.ch hch S5N) (hl.ch hch S5N) (R := R) (p := s_pv w i) (c := w i) (fun c hc => by rw [hch 32 c rfl]; exact hR c hc) hRn hwi.1 hp hJ.2.2.2
      have f3 : Ch S5 μ μ2 := hch.tr (f2.mono S25)
      have hJ2 : JT n R F w i μ2 := by
        obtain ⟨j1, j2, j3, j4⟩ := hJ
        exact ⟨by rw [f2 34 1 rfl]; exact j1, by rw [f2 34 2 rfl]; exact j2, by rw [f2 34 3 rfl]; exact j3, by rw [f2 34 4 rfl]; exact j4⟩
      rw [m_X9_goThrough_9, ix_nI hs (by decide)]
      simp only [ob_some]
      rw [hch 50 s rfl, h50, if_neg (by rw [nleL (by omega) (by omega)]; omega), q_ld45 hs (by omega), ob_some, hch (45 + s) i (by simp [S5]; omega), hwi.2, f1, bind2_some, hch 25 2 rfl]
      cases hx : s_stp d R (s_pv w i) (w i) (μ 25 2) with
      | true =>
        refine ⟨μ2, ?_, ?_, f3⟩
        · rw [if_neg (by simp [bI])]
          simp [s_idx, hx, rI]
        · simp [s_idx, hx, s_til]
          exact hJ2
      | false =>
        obtain ⟨μ3, g1, g2, g3⟩ := c_go h.1 (R := R) (F := F) (fun c hc => by rw [f3 32 c rfl]; exact hR c hc) (fun c hc => by rw [f3 33 c rfl]; exact hF c hc) hRn (fun j hj => (hw j (by omega)).1) hJ2
        obtain ⟨μ4, k1, k2, k3⟩ := ih (i + 1) k μ3 (by omega) (by omega) (f3.tr (g3.mono St5)) g2
        refine ⟨μ4, ?_, ?_, k3⟩
        · rw [if_pos (by simp [bI]), g1, ob_some, na1, k1]
          simp [s_idx, hx]
        · simp only [s_idx, hx, Bool.false_eq_true, if_false]
          exact k2
  unfold m_X9_goThrough m_X5_begin
  rw [ob_some]
  refine key z 0 fu _ (by omega) (by have : 41 ≤ fu := by decide
                                     omega) ((((Ch.rf.w rfl).w rfl).w rfl).w rfl) ⟨?_, ?_, ?_, w_ss⟩
  · rw [w_i (by decide), w_i (by decide), w_i (by decide), w_ss]
    rfl
  · rw [w_i (by decide), w_i (by decide), w_ss]
    rfl
  · rw [w_i (by decide), w_ss]
    simp [mkA, mk6, s_wm, s_any]
