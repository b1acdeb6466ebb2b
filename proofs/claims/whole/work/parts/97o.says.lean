/-! ===== texts: what a text says, on both sides ===== -/
theorem two_c {c : Nat} (h : k_bn c = true) (a b : Int32) (μ : ax_M) : m_X10_two (nI (k_mc c)) a b μ = some (e_two c a b) := by
  have hbc := bn_of h
  unfold m_X10_two
  rcases hbc with rfl | rfl | rfl | rfl | rfl | rfl | rfl
  · rw [if_pos (show nI (k_mc 6) = 11 from rfl)]
    simp only [e_two]
    by_cases b0 : a = 0
    · by_cases a0 : b = 0
      · simp [b0, a0]
      · simp [b0, a0]
    · simp [b0]
  · rw [if_neg (by decide), if_pos (show nI (k_mc 7) = 12 from rfl)]
    simp only [e_two]
    by_cases b0 : a = 0
    · simp [b0]
    · by_cases a0 : b = 0
      · simp [b0, a0]
      · simp [b0, a0]
  · rw [if_neg (by decide), if_neg (by decide), if_neg (by decide), if_pos (show nI (k_mc 12) = 14 from rfl)]
    simp only [e_two]
    by_cases b0 : b ≤ a
    · simp [b0]
    · simp [b0]
  · rw [if_neg (by decide), if_neg (by decide), if_neg (by decide), if_neg (by decide), if_pos (show nI (k_mc 13) = 15 from rfl)]
    simp only [e_two]
    by_cases b0 : a = b
    · simp [b0]
    · simp [b0]
  · rw [if_neg (by decide), if_neg (by decide), if_neg (by decide), if_neg (by decide), if_neg (by decide), if_pos (show nI (k_mc 14) = 16 from rfl)]
    rfl
  · rw [if_neg (by decide), if_neg (by decide), if_neg (by decide), if_neg (by decide), if_neg (by decide), if_neg (by decide), if_pos (show nI (k_mc 15) = 17 from rfl)]
    rfl
  · rw [if_neg (by decide), if_neg (by decide), if_neg (by decide), if_neg (by decide), if_neg (by decide), if_neg (by decide), if_neg (by decide)]
    rfl
theorem mc_big {c : Nat} (h : 23 ≤ c) : k_mc c = 100000 + (c - 23) := by
  unfold k_mc
  repeat' rw [if_neg (show ¬ _ by omega)]
theorem m_stp1 {t p i e c : Nat} {s s2 : List Int32} {μ μ0 : ax_M} (ht : t < 6) (hp : p < 3) (h10 : μ 51 10 = nI t) (he : μ 57 (4 * t + (p + 1)) = nI e) (hie : i < e) (he160 : e ≤ 180) (hc : μ 56 (200 * t + i) = nI (k_mc c)) (hcd : k_cd c) (hs : SL s (μ 66)) (hl : s.length < 180) (h67 : ∀ q, q < 6 → μ 67 q = μ0 67 q) (hst : e_st (fun q => μ0 67 q) c s = some s2) (k : Nat) :
    ∃ μ2, m_X10_says_16 (nI p) (k + 1) (nI s.length) (nI i) μ = m_X10_says_16 (nI p) k (nI s2.length) (nI (i + 1)) μ2 ∧ SL s2 (μ2 66) ∧ ∀ k, k ≠ 66 → μ2 k = μ k := by
  have hfr : ∀ (j : Nat) (v : Int32) (k : Nat), k ≠ 66 → (ax_w μ 66 j v) k = μ k := fun j v k hk => funext fun i => w_k hk
  have hc2 := cd_le hcd
  have ixl : ix 200 (nI s.length) = some s.length := ix_nI (by omega) (by decide)
  rw [m_X10_says_16, h10, show (4 : Int32) * nI t = nI (4 * t) from pk_mul 4 t, nI_add, na1, show 4 * t + p + 1 = 4 * t + (p + 1) by omega, ix_nI (show 4 * t + (p + 1) < 24 by omega) (by decide), ob_some, he, if_neg (by rw [nleL (by omega) (by omega)]; omega), show (200 : Int32) * nI t = nI (200 * t) from pk_mul 200 t, nI_add, ix_nI (show 200 * t + i < 1200 by omega) (by decide), ob_some, hc]
  unfold m_X10_says_66
  unfold e_st at hst
  by_cases c23 : 23 ≤ c
  · rw [if_neg (by omega), if_pos c23] at hst
    cases hst
    have hsub : nI (100000 + (c - 23)) - 100000 = nI (c - 23) := by
      have := pk_sub (a := 100000 + (c - 23)) (b := 100000) (by omega)
      rw [Nat.add_sub_cancel_left] at this
      exact this
    rw [mc_big c23, if_pos (by rw [show (100000 : Int32) = nI 100000 from rfl, nleL (by omega) (by omega)]; omega), if_pos (by rw [show (11 : Int32) = nI 11 from rfl, nleL (by omega) (by omega)]; omega), ixl, ob_some, na1, na1, show nI (100000 + (c - 23)) - 100000 = nI (c - 23) from hsub]
    exact ⟨_, rfl, hs.put w_ss fun i hi => w_i hi, fun k hk => hfr _ _ k hk⟩
  · by_cases c6 : c < 6
    · rw [if_pos c6] at hst
      cases hst
      have hmc : k_mc c = c := by unfold k_mc; rw [if_pos c6]
      rw [hmc, if_neg (by rw [show (100000 : Int32) = nI 100000 from rfl, nleL (by omega) (by omega)]; omega), if_neg (by rw [show (11 : Int32) = nI 11 from rfl, nleL (by omega) (by omega)]; omega), if_neg (by rw [show (11 : Int32) = nI 11 from rfl, nleL (by omega) (by omega)]; omega), ix_nI c6 (by decide), ob_some, ixl, ob_some, na1, na1, h67 c c6]
      exact ⟨_, rfl, hs.put w_ss fun i hi => w_i hi, fun k hk => hfr _ _ k hk⟩
    · rw [if_neg c6, if_neg c23] at hst
      have hsc : c = 8 ∨ c = 20 ∨ k_bn c = true := by
        rcases hcd with z | z | z | z | z
        · omega
        · exact Or.inr (Or.inr z)
        · exact Or.inl z
        · exact Or.inr (Or.inl z)
        · omega
      have hmb : ¬ (100000 : Int32) ≤ nI (k_mc c) ∧ (11 : Int32) ≤ nI (k_mc c) := by
        rcases hsc with z | z | z
        · subst z; decide
        · subst z; decide
        · rcases bn_of z with y | y | y | y | y | y | y <;> subst y <;> decide
      rw [if_neg hmb.1, if_pos hmb.2]
      cases s with
      | nil => cases hst
      | cons a s =>
        have hln : (a :: s).length = s.length + 1 := rfl
        have ix1 : ix 200 (nI s.length) = some s.length := ix_nI (by rw [hln] at hl; omega) (by decide)
        have ha : μ 66 s.length = a := hs.1
        rw [hln, nI_pred, ix1]
        simp only [ob_some, ha, na1]
        by_cases c8 : c = 8
        · have hst' : some ((if a = 0 then (1 : Int32) else 0) :: s) = some s2 := by
            rw [← hst]
            show _ = if c = 8 then some ((if a = 0 then (1 : Int32) else 0) :: s) else _
            rw [if_pos c8]
          cases hst'
          rw [if_pos (by rw [c8]; rfl)]
          by_cases a0 : a = 0
          · rw [if_pos a0, if_pos a0]
            exact ⟨_, rfl, hs.2.put w_ss fun i hi => w_i hi, fun k hk => hfr _ _ k hk⟩
          · rw [if_neg a0, if_neg a0]
            exact ⟨_, rfl, hs.2.put w_ss fun i hi => w_i hi, fun k hk => hfr _ _ k hk⟩
        · by_cases c20 : c = 20
          · have hst' : some ((-a) :: s) = some s2 := by
              rw [← hst]
              show _ = if c = 8 then _ else if c = 20 then some ((-a) :: s) else _
              rw [if_neg c8, if_pos c20]
            cases hst'
            rw [if_neg (by rw [c20]; decide), if_pos (by rw [c20]; rfl)]
            exact ⟨_, rfl, hs.2.put w_ss fun i hi => w_i hi, fun k hk => hfr _ _ k hk⟩
          · have hbn : k_bn c = true := by
              rcases hsc with z | z | z
              · exact absurd z c8
              · exact absurd z c20
              · exact z
            have hmc : ¬ nI (k_mc c) = 13 ∧ ¬ nI (k_mc c) = 19 := by
              rcases bn_of hbn with y | y | y | y | y | y | y <;> subst y <;> decide
            cases s with
            | nil =>
              exfalso
              have : (none : Option (List Int32)) = some s2 := by
                rw [← hst]
                show _ = if c = 8 then _ else if c = 20 then _ else none
                rw [if_neg c8, if_neg c20]
              cases this
            | cons b s =>
              have hst' : some (e_two c b a :: s) = some s2 := by
                rw [← hst]
                show _ = if c = 8 then _ else if c = 20 then _ else some (e_two c b a :: s)
                rw [if_neg c8, if_neg c20]
              cases hst'
              have hln2 : (b :: s).length = s.length + 1 := rfl
              have hb : μ 66 s.length = b := hs.2.1
              have hl' : s.length + 1 + 1 < 180 := hl
              have ha' : μ 66 (s.length + 1) = a := ha
              rw [if_neg hmc.1, if_neg hmc.2, hln2, pk_m1, nI_pred, ix_nI (show s.length < 200 by omega) (by decide), ix_nI (show s.length + 1 < 200 by omega) (by decide)]
              simp only [ob_some, hb, ha', two_c hbn]
              exact ⟨ax_w μ 66 s.length (e_two c b a), rfl, hs.2.2.put w_ss fun i hi => w_i hi, fun k hk => hfr _ _ k hk⟩
theorem est_ext {nm nm2 : Nat → Int32} (h : ∀ q, q < 6 → nm q = nm2 q) (c : Nat) (s : List Int32) : e_st nm c s = e_st nm2 c s := by
  unfold e_st
  by_cases e : c < 6
  · rw [if_pos e, if_pos e, h c e]
  · rw [if_neg e, if_neg e]
theorem efw_ext {nm nm2 : Nat → Int32} (h : ∀ q, q < 6 → nm q = nm2 q) : ∀ (w : List Nat) (s : List Int32), e_fw nm w s = e_fw nm2 w s
  | [], s => rfl
  | c :: w, s => by
    show (e_st nm c s).bind (e_fw nm w) = (e_st nm2 c s).bind (e_fw nm2 w)
    rw [est_ext h]
    cases e_st nm2 c s with
    | none => rfl
    | some x => exact efw_ext h w x
theorem c_vl {t p e : Nat} (ht : t < 6) (hp : p < 3) (he160 : e ≤ 160) (μ0 : ax_M) (he : μ0 (10 + t) p = nI e) : ∀ (w : List Nat) (i k : Nat) (s : List Int32) (μ : ax_M) (v : Int32), i + w.length = e → w.length < k → s.length ≤ i → FL (fun c => c) i w (μ0 (3 + t)) → (∀ c ∈ w, k_cd c) → SL s (μ 17) → (∀ k, k ≠ 17 → μ k = μ0 k) → e_fw (fun q => μ0 16 q) w s = some [v] → ∃ μ2, m_X7_value_26 (nI t) (nI p) k (nI s.length) (nI i) μ = some (v, μ2) ∧ ∀ k, k ≠ 17 → μ2 k = μ0 k
  | [], i, k, s, μ, v, hi, hk, hsl, hF, hcd, hs, hfr, hev => by
    obtain ⟨k, rfl⟩ : ∃ k2, k = k2 + 1 := ⟨k - 1, by omega⟩
    have hs1 : s = [v] := by
      have : some s = some [v] := hev
      cases this
      rfl
    subst hs1
    have q10 : q_n (10 + t) = some 3 := by
      have : t = 0 ∨ t = 1 ∨ t = 2 ∨ t = 3 ∨ t = 4 ∨ t = 5 := by omega
      rcases this with rfl | rfl | rfl | rfl | rfl | rfl <;> decide
    have l10 : q_ld μ (10 + t) (nI p) = some (nI e) := by
      unfold q_ld
      rw [q10, ob_some, ix_nI hp (by decide), ob_some, hfr (10 + t) (by omega), he]
    have hie : i = e := by simpa using hi
    rw [m_X7_value_26, ix_nI ht (by decide), ob_some, l10, ob_some, if_pos (by rw [nleL (by omega) (by omega)]; omega)]
    exact ⟨μ, by rw [show μ 17 0 = v from hs.1], hfr⟩
  | c :: w, i, k, s, μ, v, hi, hk, hsl, hF, hcd, hs, hfr, hev => by
    obtain ⟨k, rfl⟩ : ∃ k2, k = k2 + 1 := ⟨k - 1, by omega⟩
    have hi' : i + (w.length + 1) = e := hi
    have hk' : w.length + 1 < k + 1 := hk
    have hev' : (e_st (fun q => μ0 16 q) c s).bind (e_fw (fun q => μ0 16 q) w) = some [v] := hev
    cases hst : e_st (fun q => μ0 16 q) c s with
    | none => rw [hst] at hev'; cases hev'
    | some s2 =>
      rw [hst] at hev'
      have hsl2 := st_len hst
      obtain ⟨μ3, a1, a2, a3⟩ := c_stp1 (μ := μ) (μ0 := μ0) ht hp (by rw [hfr (10 + t) (by omega)]; exact he) (show i < e by omega) he160 (by rw [hfr (3 + t) (by omega)]; exact hF.1) (hcd c (List.mem_cons_self ..)) hs (by omega) (fun q _ => by rw [hfr 16 (by omega)]) hst k
      rw [a1]
      exact c_vl ht hp he160 μ0 he w (i + 1) k s2 μ3 v (by omega) (by omega) (by omega) hF.2 (fun q hq => hcd q (List.mem_cons_of_mem _ hq)) a2 (fun k hk => (a3 k hk).trans (hfr k hk)) hev'
theorem m_vl {t p e : Nat} (ht : t < 6) (hp : p < 3) (he160 : e ≤ 180) (μ0 : ax_M) (h10 : μ0 51 10 = nI t) (he : μ0 57 (4 * t + (p + 1)) = nI e) : ∀ (w : List Nat) (i k : Nat) (s : List Int32) (μ : ax_M) (v : Int32), i + w.length = e → w.length < k → s.length ≤ i → FL k_mc (200 * t + i) w (μ0 56) → (∀ c ∈ w, k_cd c) → SL s (μ 66) → (∀ k, k ≠ 66 → μ k = μ0 k) → e_fw (fun q => μ0 67 q) w s = some [v] → ∃ μ2, m_X10_says_16 (nI p) k (nI s.length) (nI i) μ = some (v, μ2) ∧ ∀ k, k ≠ 66 → μ2 k = μ0 k
  | [], i, k, s, μ, v, hi, hk, hsl, hF, hcd, hs, hfr, hev => by
    obtain ⟨k, rfl⟩ : ∃ k2, k = k2 + 1 := ⟨k - 1, by omega⟩
    have hs1 : s = [v] := by
      have : some s = some [v] := hev
      cases this
      rfl
    subst hs1
    have hie : i = e := by simpa using hi
    rw [m_X10_says_16, hfr 51 (by omega), h10, show (4 : Int32) * nI t = nI (4 * t) from pk_mul 4 t, nI_add, na1, show 4 * t + p + 1 = 4 * t + (p + 1) by omega, ix_nI (show 4 * t + (p + 1) < 24 by omega) (by decide), ob_some, hfr 57 (by omega), he, if_pos (by rw [nleL (by omega) (by omega)]; omega)]
    exact ⟨μ, by rw [show μ 66 0 = v from hs.1], hfr⟩
  | c :: w, i, k, s, μ, v, hi, hk, hsl, hF, hcd, hs, hfr, hev => by
    obtain ⟨k, rfl⟩ : ∃ k2, k = k2 + 1 := ⟨k - 1, by omega⟩
    have hi' : i + (w.length + 1) = e := hi
    have hk' : w.length + 1 < k + 1 := hk
    have hev' : (e_st (fun q => μ0 67 q) c s).bind (e_fw (fun q => μ0 67 q) w) = some [v] := hev
    cases hst : e_st (fun q => μ0 67 q) c s with
    | none => rw [hst] at hev'; cases hev'
    | some s2 =>
      rw [hst] at hev'
      have hsl2 := st_len hst
      obtain ⟨μ3, a1, a2, a3⟩ := m_stp1 (μ := μ) (μ0 := μ0) ht hp (by rw [hfr 51 (by omega)]; exact h10) (by rw [hfr 57 (by omega)]; exact he) (show i < e by omega) he160 (by rw [hfr 56 (by omega)]; exact hF.1) (hcd c (List.mem_cons_self ..)) hs (by omega) (fun q _ => by rw [hfr 67 (by omega)]) hst k
      rw [a1]
      exact m_vl ht hp he160 μ0 h10 he w (i + 1) k s2 μ3 v (by omega) (by omega) (by omega) (by rw [show 200 * t + (i + 1) = 200 * t + i + 1 by omega]; exact hF.2) (fun q hq => hcd q (List.mem_cons_of_mem _ hq)) a2 (fun k hk => (a3 k hk).trans (hfr k hk)) hev'
/-- what three rows of codes say -/
def k_nm (a b c d e g : Int32) (q : Nat) : Int32 := match q with
  | 0 => a
  | 1 => b
  | 2 => c
  | 3 => d
  | 4 => e
  | _ => g
def k_tv (W : Nat → List Nat) : Lw := fun p a b c d e g => match e_fw (k_nm a b c d e g) (W p) [] with
  | some (v :: _) => v
  | _ => 0
def k_E (W : Nat → List Nat) : Nat → Nat
  | 0 => 0
  | p + 1 => k_E W p + (W p).length
theorem nm_6 (μ : ax_M) (k : Nat) : ∀ q, q < 6 → k_nm (μ k 0) (μ k 1) (μ k 2) (μ k 3) (μ k 4) (μ k 5) q = μ k q := by
  intro q hq
  have : q = 0 ∨ q = 1 ∨ q = 2 ∨ q = 3 ∨ q = 4 ∨ q = 5 := by omega
  rcases this with rfl | rfl | rfl | rfl | rfl | rfl <;> rfl
theorem e_le {W : Nat → List Nat} {p : Nat} (hp : p < 3) : k_E W (p + 1) ≤ k_E W 3 := by
  have : p = 0 ∨ p = 1 ∨ p = 2 := by omega
  rcases this with rfl | rfl | rfl <;> simp only [k_E] <;> omega
theorem tc_of {t : Nat} {W : Nat → List Nat} {μ : ax_M} (ht : t < 6) (hW : ∀ p, p < 3 → (∀ nm, ∃ v, e_fw nm (W p) [] = some [v]) ∧ ∀ c ∈ W p, k_cd c) (hE : k_E W 3 ≤ 160) (he : ∀ p, p < 3 → μ (10 + t) p = nI (k_E W (p + 1))) (hF : ∀ p, p < 3 → FL (fun c => c) (k_E W p) (W p) (μ (3 + t))) : TC t (k_tv W) μ := by
  intro μ1 h1 h2 p hp
  have hfu : 1000 ≤ fu := by decide
  obtain ⟨v, hv⟩ := (hW p hp).1 (fun q => μ1 16 q)
  have hv2 : k_tv W p (μ1 16 0) (μ1 16 1) (μ1 16 2) (μ1 16 3) (μ1 16 4) (μ1 16 5) = v := by
    unfold k_tv
    rw [efw_ext (nm_6 μ1 16), hv]
  have hle := e_le (W := W) hp
  rw [hv2]
  have hlp : k_E W p + (W p).length ≤ 160 := by
    have : k_E W (p + 1) = k_E W p + (W p).length := rfl
    omega
  obtain ⟨μ2, a1, a2⟩ := c_vl (e := k_E W (p + 1)) ht hp (by omega) μ1 (by rw [h2]; exact he p hp) (W p) (k_E W p) fu [] μ1 v rfl (by omega) (Nat.zero_le _) (by rw [h1]; exact hF p hp) (hW p hp).2 trivial (fun _ _ => rfl) hv
  refine ⟨μ2, ?_, a2⟩
  unfold m_X7_value
  by_cases p0 : p = 0
  · subst p0
    rw [if_pos (show nI 0 = 0 from rfl)]
    exact a1
  · have q10 : q_n (10 + t) = some 3 := by
      have : t = 0 ∨ t = 1 ∨ t = 2 ∨ t = 3 ∨ t = 4 ∨ t = 5 := by omega
      rcases this with rfl | rfl | rfl | rfl | rfl | rfl <;> decide
    have hp1 : p - 1 + 1 = p := by omega
    have l10 : q_ld μ1 (10 + t) (nI p - 1) = some (nI (k_E W p)) := by
      unfold q_ld
      rw [q10, ob_some, show nI p - 1 = nI (p - 1) from pk_sub (b := 1) (by omega), ix_nI (show p - 1 < 3 by omega) (by decide), ob_some, h2, he (p - 1) (by omega), hp1]
    rw [if_neg (show ¬ nI p = 0 by rw [show (0 : Int32) = nI 0 from rfl, neqL (by omega) (by omega)]; exact p0), ix_nI ht (by decide), ob_some, l10, ob_some]
    exact a1
theorem tm_of {t : Nat} {W : Nat → List Nat} {μ : ax_M} (ht : t < 6) (hW : ∀ p, p < 3 → (∀ nm, ∃ v, e_fw nm (W p) [] = some [v]) ∧ ∀ c ∈ W p, k_cd c) (hE : k_E W 3 ≤ 180) (he : ∀ p, p ≤ 3 → μ 57 (4 * t + p) = nI (k_E W p)) (hF : ∀ p, p < 3 → FL k_mc (200 * t + k_E W p) (W p) (μ 56)) : TM t (k_tv W) μ := by
  intro μ1 h1 h2 h10 p hp
  have hfu : 1000 ≤ fu := by decide
  obtain ⟨v, hv⟩ := (hW p hp).1 (fun q => μ1 67 q)
  have hv2 : k_tv W p (μ1 67 0) (μ1 67 1) (μ1 67 2) (μ1 67 3) (μ1 67 4) (μ1 67 5) = v := by
    unfold k_tv
    rw [efw_ext (nm_6 μ1 67), hv]
  have hle := e_le (W := W) hp
  have hlp : k_E W p + (W p).length ≤ 180 := by
    have : k_E W (p + 1) = k_E W p + (W p).length := rfl
    omega
  rw [hv2]
  obtain ⟨μ2, a1, a2⟩ := m_vl (e := k_E W (p + 1)) ht hp (by omega) μ1 h10 (by rw [h2 _ (by omega)]; exact he (p + 1) (by omega)) (W p) (k_E W p) fu [] μ1 v rfl (by omega) (Nat.zero_le _) ((hF p hp).fr fun i a b => by
    have := h1 (i - 200 * t) (by omega)
    rw [show 200 * t + (i - 200 * t) = i by omega] at this
    exact this) (hW p hp).2 trivial (fun _ _ => rfl) hv
  refine ⟨μ2, ?_, a2⟩
  unfold m_X10_says
  rw [h10, show (4 : Int32) * nI t = nI (4 * t) from pk_mul 4 t, nI_add, ix_nI (show 4 * t + p < 24 by omega) (by decide), ob_some, h2 p (by omega), he p (by omega)]
  exact a1
