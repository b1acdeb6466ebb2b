def s_step (c w : Nat) : Option Nat := if w = 0 then (if c % 6 < 5 then some (c + 1) else none) else if w = 1 then (if 0 < c % 6 then some (c - 1) else none) else if w = 2 then (if c / 6 < 5 then some (c + 6) else none) else (if 0 < c / 6 then some (c - 6) else none)
theorem s_step_lt {c w q : Nat} (hc : c < 36) (h : s_step c w = some q) : q < 36 := by
  unfold s_step at h
  repeat' split at h
  all_goals first | (cases h; omega) | cases h
theorem c_step {μ : ax_M} {c w : Nat} (hc : c < 36) (hw : w < 4) : m_X9_stepFrom (nI c) (nI w) μ = some (rI (s_step c w)) := by
  unfold m_X9_stepFrom m_X9_columnOf m_X9_rowOf s_step
  rw [nr6 (by omega), nd6 (by omega)]
  simp only [ob_some]
  simp only [show (nI w = 0) = (w = 0) from neqL (k := 0) (by omega) (by decide), show (nI w = 1) = (w = 1) from neqL (k := 1) (by omega) (by decide), show (nI w = 2) = (w = 2) from neqL (k := 2) (by omega) (by decide), show (nI w = 3) = (w = 3) from neqL (k := 3) (by omega) (by decide),
    show (5 ≤ nI (c % 6)) = (5 ≤ c % 6) from nleL (a := 5) (by decide) (by omega), show (nI (c % 6) ≤ 0) = (c % 6 ≤ 0) from nleL (k := 0) (by omega) (by decide), show (5 ≤ nI (c / 6)) = (5 ≤ c / 6) from nleL (a := 5) (by decide) (by omega), show (nI (c / 6) ≤ 0) = (c / 6 ≤ 0) from nleL (k := 0) (by omega) (by decide)]
  repeat' split
  all_goals first
    | omega
    | rfl
    | exact congrArg some (show nI c + 1 = nI (c + 1) from na1 c)
    | exact congrArg some (show nI c + nI 6 = nI (c + 6) from nI_add c 6)
    | exact congrArg some (show nI c - nI 1 = nI (c - 1) from pk_sub (by omega))
    | exact congrArg some (show nI c - nI 6 = nI (c - 6) from pk_sub (by omega))
    | (simp_all; omega)
theorem s_rul_lt {d : Dt} {n c r : Nat} {A : Nat → Bool} (h : s_rul d n A c = some r) : r < n := s_top_lt h
theorem c_frs {n : Nat} {d : Dt} {μ : ax_M} (h : RC n d μ) (hl : LC d μ) : ∃ μ2, m_X0_findRulers μ = some μ2 ∧ Ch S3 μ μ2 ∧ ∀ c, c < 36 → μ2 32 c = rI (s_rul d n (s_awk d (μ 25 2)) c) := by
  obtain ⟨μ1, e1, e2⟩ := c_awk h hl (μ 25 2)
  have e2' : Ch S3 μ μ1 := e2.mono S23
  obtain ⟨b, hb, hq⟩ := loopF (N := 36) (fun k i (a : ax_M) => m_X0_findRulers_11 (mkA (s_awk d (μ 25 2)) n) k (nI i) a) (fun i a => Ch S3 μ a ∧ ∀ c, c < i → a 32 c = rI (s_rul d n (s_awk d (μ 25 2)) c)) (fun b => Ch S3 μ b ∧ ∀ c, c < 36 → b 32 c = rI (s_rul d n (s_awk d (μ 25 2)) c)) (by omega)
    (fun k i a hi hI => by
      obtain ⟨hc, hr⟩ := hI
      refine Or.inl ⟨ax_w a 32 i (rI (s_rul d n (s_awk d (μ 25 2)) i)), ?_, hc.w rfl, fun c hcc => ?_⟩
      · show m_X0_findRulers_11 _ (k + 1) (nI i) a = _
        rw [m_X0_findRulers_11, if_neg (by rw [show (36 : Int32) = nI 36 from rfl, nleL (by omega) (by omega)]; omega), c_rul (h.ch hc S3N) hi, ob_some, ix_nI hi (by decide), ob_some, na1]
      · by_cases e : c = i
        · subst e
          exact w_ss
        · rw [w_i e]
          exact hr c (by omega))
    (fun k a hI => ⟨a, by
      show m_X0_findRulers_11 _ (k + 1) (nI 36) a = _
      rw [m_X0_findRulers_11, if_pos (by decide)], hI⟩)
    μ1 ⟨e2', fun c hc => by omega⟩
  refine ⟨b, ?_, hq⟩
  unfold m_X0_findRulers
  rw [e1, bind2_some]
  exact hb
theorem c_look {n : Nat} {d : Dt} {μ : ax_M} (h : RC n d μ) (hl : LC d μ) : ∃ μ2, m_X0_look μ = some μ2 ∧ Ch S4 μ μ2 ∧ (∀ c, c < 36 → μ2 32 c = rI (s_rul d n (s_awk d (μ 25 2)) c)) ∧ ∀ c, c < 36 → μ2 33 c = s_fat d (s_rul d n (s_awk d (μ 25 2)) c) c (μ 25 2) := by
  obtain ⟨μ1, e1, e2, e3⟩ := c_frs h hl
  obtain ⟨b, hb, hq⟩ := loopF (N := 36) (fun k i (a : ax_M) => m_X0_look_6 k (nI i) a) (fun i a => Ch S4 μ a ∧ (∀ c, c < 36 → a 32 c = rI (s_rul d n (s_awk d (μ 25 2)) c)) ∧ ∀ c, c < i → a 33 c = s_fat d (s_rul d n (s_awk d (μ 25 2)) c) c (μ 25 2)) (fun b => Ch S4 μ b ∧ (∀ c, c < 36 → b 32 c = rI (s_rul d n (s_awk d (μ 25 2)) c)) ∧ ∀ c, c < 36 → b 33 c = s_fat d (s_rul d n (s_awk d (μ 25 2)) c) c (μ 25 2)) (by omega)
    (fun k i a hi hI => by
      obtain ⟨hc, hr, hf⟩ := hI
      obtain ⟨μ2, f1, f2⟩ := c_fat (h.ch hc S4N) (hl.ch hc S4N) (o := s_rul d n (s_awk d (μ 25 2)) i) (c := i) (hh := μ 25 2) (fun r hr => s_rul_lt hr) hi
      refine Or.inl ⟨ax_w μ2 33 i (s_fat d (s_rul d n (s_awk d (μ 25 2)) i) i (μ 25 2)), ?_, (hc.tr (f2.mono S24)).w rfl, fun c hcc => ?_, fun c hcc => ?_⟩
      · show m_X0_look_6 (k + 1) (nI i) a = _
        rw [m_X0_look_6, if_neg (by rw [show (36 : Int32) = nI 36 from rfl, nleL (by omega) (by omega)]; omega), ix_nI hi (by decide), ob_some, hr i hi, hc 25 2 rfl, f1, bind2_some, ob_some, na1]
      · rw [w_k (by decide), f2 32 c rfl]
        exact hr c hcc
      · by_cases e : c = i
        · subst e
          exact w_ss
        · rw [w_i e, f2 33 c rfl]
          exact hf c (by omega))
    (fun k a hI => ⟨a, by
      show m_X0_look_6 (k + 1) (nI 36) a = _
      rw [m_X0_look_6, if_pos (by decide)], hI⟩)
    μ1 ⟨e2.mono S34, e3, fun c hc => by omega⟩
  refine ⟨b, ?_, hq⟩
  unfold m_X0_look
  rw [e1, ob_some]
  exact hb
def s_let (d : Dt) (o : Option Nat) (c : Nat) (h : Int32) : Bool := match o with
  | none => true
  | some r => s_adm d r c h
theorem c_let {n : Nat} {d : Dt} {μ : ax_M} (h : RC n d μ) (hl : LC d μ) {R : Nat → Option Nat} (hR : ∀ c, c < 36 → μ 32 c = rI (R c)) (hRn : ∀ c r, R c = some r → r < n) {c : Nat} (hc : c < 36) : ∃ μ2, m_X0_letsOn (nI c) μ = some (bI (s_let d (R c) c (μ 25 2)), μ2) ∧ Ch S2 μ μ2 := by
  have h6 := h.1
  unfold m_X0_letsOn
  rw [ix_nI hc (by decide)]
  simp only [ob_some, hR c hc]
  cases e : R c with
  | none => exact ⟨μ, by simp [rI, s_let, bI], Ch.rf⟩
  | some r =>
    have hr := hRn c r e
    obtain ⟨μ2, e1, e2⟩ := c_adm h hl hr hc
    refine ⟨μ2, ?_, e2⟩
    show (if nI r = -1 then _ else bind2 (m_X0_admits (nI r) (nI c) μ) _) = _
    rw [if_neg (nm1 (by omega)), e1, bind2_some]
    show _ = some (bI (s_adm d r c (μ 25 2)), μ2)
    cases s_adm d r c (μ 25 2) <;> rfl
def s_set (P : Nat → Bool) : Nat → Int64
  | 0 => 0
  | k + 1 => if P k then s_set P k ||| shL 1 (nI k) else s_set P k
def s_sum (g : Nat → Int32) : Nat → Int32
  | 0 => 0
  | k + 1 => s_sum g k + g k
theorem s_sum_ext {g g2 : Nat → Int32} : ∀ {n : Nat}, (∀ i, i < n → g i = g2 i) → s_sum g n = s_sum g2 n
  | 0, _ => rfl
  | n + 1, h => by
    unfold s_sum
    rw [s_sum_ext (fun i hi => h i (by omega)), h n (by omega)]
theorem s_set_ext {P P2 : Nat → Bool} : ∀ {n : Nat}, (∀ i, i < n → P i = P2 i) → s_set P n = s_set P2 n
  | 0, _ => rfl
  | n + 1, h => by
    unfold s_set
    rw [s_set_ext (fun i hi => h i (by omega)), h n (by omega)]
theorem ge36 {i : Nat} (hi : i < 36) : ¬ (36 : Int32) ≤ nI i := by rw [show (36 : Int32) = nI 36 from rfl, nleL (by omega) (by omega)]; omega
theorem c_realm {μ : ax_M} {R : Nat → Option Nat} (hR : ∀ c, c < 36 → μ 32 c = rI (R c)) (x : Int32) : m_X0_realm x μ = some (s_set (fun c => decide (rI (R c) = x)) 36) := by
  obtain ⟨b, hb, hq⟩ := loopF (N := 36) (fun k i (a : Int64) => m_X0_realm_5 x μ k a (nI i)) (fun i a => a = s_set (fun c => decide (rI (R c) = x)) i) (fun b => b = s_set (fun c => decide (rI (R c) = x)) 36) (by omega)
    (fun k i a hi hI => by
      subst hI
      refine Or.inl ⟨_, ?_, rfl⟩
      show m_X0_realm_5 x μ (k + 1) _ (nI i) = _
      rw [m_X0_realm_5, if_neg (ge36 hi), ix_nI hi (by decide), ob_some, hR i hi, na1, s_set]
      by_cases e : rI (R i) = x <;> simp [e])
    (fun k a hI => ⟨a, by
      show m_X0_realm_5 x μ (k + 1) a (nI 36) = _
      rw [m_X0_realm_5, if_pos (by decide)], hI⟩)
    0 rfl
  subst hq
  exact hb
theorem c_frealm {μ : ax_M} {R : Nat → Option Nat} {F : Nat → Int32} (hR : ∀ c, c < 36 → μ 32 c = rI (R c)) (hF : ∀ c, c < 36 → μ 33 c = F c) (x : Int32) : m_X0_fineOfRealm x μ = some (s_sum (fun c => if rI (R c) = x then F c else 0) 36) := by
  obtain ⟨b, hb, hq⟩ := loopF (N := 36) (fun k i (a : Int32) => m_X0_fineOfRealm_4 x μ k a (nI i)) (fun i a => a = s_sum (fun c => if rI (R c) = x then F c else 0) i) (fun b => b = s_sum (fun c => if rI (R c) = x then F c else 0) 36) (by omega)
    (fun k i a hi hI => by
      subst hI
      refine Or.inl ⟨_, ?_, rfl⟩
      show m_X0_fineOfRealm_4 x μ (k + 1) _ (nI i) = _
      rw [m_X0_fineOfRealm_4, if_neg (ge36 hi), ix_nI hi (by decide), ob_some, hR i hi, ob_some, hF i hi, na1, s_sum]
      by_cases e : rI (R i) = x <;> simp [e])
    (fun k a hI => ⟨a, by
      show m_X0_fineOfRealm_4 x μ (k + 1) a (nI 36) = _
      rw [m_X0_fineOfRealm_4, if_pos (by decide)], hI⟩)
    0 rfl
  subst hq
  exact hb
def inB (B : Nat → Bool) (o : Option Nat) : Bool := match o with
  | none => false
  | some r => B r
theorem c_rby {μ : ax_M} {R : Nat → Option Nat} {n : Nat} (hn : n ≤ 6) (hR : ∀ c, c < 36 → μ 32 c = rI (R c)) (hRn : ∀ c r, R c = some r → r < n) (B : Nat → Bool) : m_X0_ruledByAny (mkA B n) μ = some (s_sum (fun c => bI (inB B (R c))) 36) := by
  obtain ⟨b, hb, hq⟩ := loopF (N := 36) (fun k i (a : Int32) => m_X0_ruledByAny_4 (mkA B n) μ k a (nI i)) (fun i a => a = s_sum (fun c => bI (inB B (R c))) i) (fun b => b = s_sum (fun c => bI (inB B (R c))) 36) (by omega)
    (fun k i a hi hI => by
      subst hI
      refine Or.inl ⟨_, ?_, rfl⟩
      show m_X0_ruledByAny_4 (mkA B n) μ (k + 1) _ (nI i) = _
      rw [m_X0_ruledByAny_4, if_neg (ge36 hi), ix_nI hi (by decide), ob_some, hR i hi, ob_some, na1, s_sum]
      cases e : R i with
      | none => simp [rI, inB, bI]
      | some r =>
        have hr := hRn i r e
        rw [if_neg (show ¬ rI (some r) = -1 from nm1 (by omega)), hR i hi, e, show rI (some r) = nI r from rfl, mkA_bit (by omega)]
        cases hB : B r <;> simp [bI, hr, inB, hB])
    (fun k a hI => ⟨a, by
      show m_X0_ruledByAny_4 (mkA B n) μ (k + 1) a (nI 36) = _
      rw [m_X0_ruledByAny_4, if_pos (by decide)], hI⟩)
    0 rfl
  subst hq
  exact hb
theorem c_rnow {n : Nat} {d : Dt} {μ : ax_M} (h : RC n d μ) (hl : LC d μ) {r : Nat} (hr : r < n) : ∃ μ2, m_X0_ruledNow (nI r) μ = some (s_sum (fun c => bI (inB (fun q => q == r) (s_rul d n (s_awk d (μ 25 2)) c))) 36, μ2) ∧ Ch S3 μ μ2 ∧ ∀ c, c < 36 → μ2 32 c = rI (s_rul d n (s_awk d (μ 25 2)) c) := by
  obtain ⟨μ1, e1, e2, e3⟩ := c_frs h hl
  refine ⟨μ1, ?_, e2, e3⟩
  have h6 := h.1
  unfold m_X0_ruledNow
  rw [e1, ob_some, sh1_mk hr (by omega), c_rby h6 e3 (fun c r => s_rul_lt)]
  rfl
def s_all (d : Dt) (n : Nat) (A : Nat → Bool) (h : Int32) : Int32 := s_sum (fun c => s_fat d (s_rul d n A c) c h) 36
theorem c_foa {n : Nat} {d : Dt} {μ : ax_M} (h : RC n d μ) (hl : LC d μ) (hh : Int32) (A : Nat → Bool) : ∃ μ2, m_X0_fineOfAll hh (mkA A n) μ = some (s_all d n A hh, μ2) ∧ Ch S2 μ μ2 := by
  obtain ⟨b, hb, hq⟩ := loopF (N := 36) (fun k i (a : Int32 × ax_M) => m_X0_fineOfAll_5 hh (mkA A n) k a.1 (nI i) a.2) (fun i a => a.1 = s_sum (fun c => s_fat d (s_rul d n A c) c hh) i ∧ Ch S2 μ a.2) (fun b => b.1 = s_all d n A hh ∧ Ch S2 μ b.2) (by omega)
    (fun k i a hi hI => by
      obtain ⟨x, μ1⟩ := a
      obtain ⟨rfl, hc⟩ := hI
      have hc : Ch S2 μ μ1 := hc
      obtain ⟨μ2, f1, f2⟩ := c_fat (h.ch hc S2N) (hl.ch hc S2N) (o := s_rul d n A i) (c := i) (hh := hh) (fun r hr => s_rul_lt hr) hi
      refine Or.inl ⟨(_, μ2), ?_, rfl, hc.tr f2⟩
      show m_X0_fineOfAll_5 hh (mkA A n) (k + 1) _ (nI i) μ1 = _
      rw [m_X0_fineOfAll_5, if_neg (ge36 hi), c_rul (h.ch hc S2N) hi, ob_some, f1, bind2_some, na1])
    (fun k a hI => ⟨a, by
      show m_X0_fineOfAll_5 hh (mkA A n) (k + 1) a.1 (nI 36) a.2 = _
      rw [m_X0_fineOfAll_5, if_pos (by decide)], hI⟩)
    (0, μ) ⟨rfl, Ch.rf⟩
  refine ⟨b.2, ?_, hq.2⟩
  unfold m_X0_fineOfAll
  rw [← hq.1]
  exact hb
def s_fw (d : Dt) (n c : Nat) (h : Int32) : Int32 := s_fat d (s_rul d n (s_awk d h) c) c h
theorem c_fw {n : Nat} {d : Dt} {μ : ax_M} (h : RC n d μ) (hl : LC d μ) {c : Nat} (hc : c < 36) (hh : Int32) : ∃ μ2, m_X0_fineWere (nI c) hh μ = some (s_fw d n c hh, μ2) ∧ Ch S2 μ μ2 := by
  obtain ⟨μ1, e1, e2⟩ := c_awk h hl hh
  obtain ⟨μ2, f1, f2⟩ := c_fat (h.ch e2 S2N) (hl.ch e2 S2N) (o := s_rul d n (s_awk d hh) c) (c := c) (hh := hh) (fun r hr => s_rul_lt hr) hc
  refine ⟨μ2, ?_, e2.tr f2⟩
  unfold m_X0_fineWere
  rw [e1, bind2_some, c_rul (h.ch e2 S2N) hc, ob_some, f1, bind2_some]
  rfl
/-- the first place at which g is so -/
def s_ff (g : Nat → Bool) : Nat → Nat → Int32
  | 0, _ => -1
  | m + 1, i => if g i then nI i else s_ff g m (i + 1)
theorem s_ff_ext {g g2 : Nat → Bool} : ∀ {m i : Nat}, (∀ j, i ≤ j → j < i + m → g j = g2 j) → s_ff g m i = s_ff g2 m i
  | 0, _, _ => rfl
  | m + 1, i, h => by
    unfold s_ff
    rw [h i (by omega) (by omega), s_ff_ext (fun j a b => h j (by omega) (by omega))]
theorem q_n45 {s : Nat} (hs : s < 4) : q_n (45 + s) = some 40 := by
  match s, hs with
  | 0, _ => rfl
  | 1, _ => rfl
  | 2, _ => rfl
  | 3, _ => rfl
theorem q_ld45 {μ : ax_M} {s j : Nat} (hs : s < 4) (hj : j < 40) : q_ld μ (45 + s) (nI j) = some (μ (45 + s) j) := by
  unfold q_ld
  rw [q_n45 hs, ob_some, ix_nI hj (by decide), ob_some]
theorem q_st45 {μ : ax_M} {s j : Nat} {v : Int32} (hs : s < 4) (hj : j < 40) : q_st μ (45 + s) (nI j) v = some (ax_w μ (45 + s) j v) := by
  unfold q_st
  rw [q_n45 hs, ob_some, ix_nI hj (by decide), ob_some]
theorem c_fo {n : Nat} {d : Dt} {μ : ax_M} (h : RC n d μ) (hl : LC d μ) {s z c : Nat} (hs : s < 4) (hz : z ≤ 40) (hc : c < 36) : ∃ μ2, m_X0_firstOther (45 + s) (nI z) (nI c) μ = some (s_ff (fun i => decide (s_fw d n c (nI i) ≠ μ (45 + s) i)) z 0, μ2) ∧ Ch S2 μ μ2 := by
  have key : ∀ (m i k : Nat) (μ1 : ax_M), i + m = z → m < k → Ch S2 μ μ1 → ∃ μ2, m_X0_firstOther_3 (45 + s) (nI z) (nI c) k (nI i) μ1 = some (s_ff (fun i => decide (s_fw d n c (nI i) ≠ μ (45 + s) i)) m i, μ2) ∧ Ch S2 μ μ2 := by
    intro m
    induction m with
    | zero =>
      intro i k μ1 hi hk hch
      obtain ⟨k, rfl⟩ : ∃ k2, k = k2 + 1 := ⟨k - 1, by omega⟩
      refine ⟨μ1, ?_, hch⟩
      rw [m_X0_firstOther_3, if_pos (by rw [nleL (by omega) (by omega)]; omega)]
      rfl
    | succ m ih =>
      intro i k μ1 hi hk hch
      obtain ⟨k, rfl⟩ : ∃ k2, k = k2 + 1 := ⟨k - 1, by omega⟩
      obtain ⟨μ2, f1, f2⟩ := c_fw (h.ch hch S2N) (hl.ch hch S2N) hc (nI i)
      have f3 := hch.tr f2
      have hk45 : μ2 (45 + s) i = μ (45 + s) i := f3 (45 + s) i (by simp [S2]; omega)
      rw [m_X0_firstOther_3, if_neg (by rw [nleL (by omega) (by omega)]; omega)]
      unfold q_len
      rw [q_n45 hs, ob_some, ob_some, if_neg (by show ¬ nI 40 ≤ nI i; rw [nleL (by omega) (by omega)]; omega), f1, bind2_some, q_ld45 hs (by omega), ob_some, hk45, s_ff]
      by_cases e : s_fw d n c (nI i) = μ (45 + s) i
      · rw [if_pos e, na1]
        obtain ⟨μ3, g1, g2⟩ := ih (i + 1) k μ2 (by omega) (by omega) f3
        refine ⟨μ3, ?_, g2⟩
        rw [g1]
        simp [e]
      · rw [if_neg e]
        exact ⟨μ2, by simp [e], f3⟩
  exact key z 0 fu μ (by omega) (by have : 41 ≤ fu := by decide
                                    omega) Ch.rf
