/-! ===== texts: the class' split; the model's next token ===== -/
section
variable {ts : Nat} {tb : Nat → Nat} {μ μ2 : ax_M}
def Ssp (k i : Nat) : Bool := (k == 18 && i == 4) || k == 20 || k == 21
theorem TB.fr (h : TB ts tb μ) (h1 : μ2 18 1 = μ 18 1) (h2 : ∀ i, μ2 19 i = μ 19 i) : TB ts tb μ2 := ⟨h1.trans h.1, h.2.1, fun i hi => (h2 i).trans (h.2.2.1 i hi), h.2.2.2⟩
theorem c_note {j t p : Nat} (hj : j ≤ 160) (h4 : μ 18 4 = nI j) : ∃ μ2, m_X6_note (nI t) (nI p) μ = some μ2 ∧ μ2 18 4 = nI (j + 1) ∧ μ2 20 j = nI t ∧ μ2 21 j = nI p ∧ (∀ q, q ≠ j → μ2 20 q = μ 20 q ∧ μ2 21 q = μ 21 q) ∧ Ch Ssp μ μ2 := by
  refine ⟨ax_w (ax_w (ax_w μ 20 j (nI t)) 21 j (nI p)) 18 4 (nI (j + 1)), ?_, w_ss, ?_, ?_, fun q hq => ⟨?_, ?_⟩, ((Ch.rf.w rfl).w rfl).w rfl⟩
  · unfold m_X6_note
    have e1 : (ax_w μ 20 j (nI t)) 18 4 = nI j := by rw [w_k (by decide)]; exact h4
    have e2 : (ax_w (ax_w μ 20 j (nI t)) 21 j (nI p)) 18 4 = nI j := by rw [w_k (by decide)]; exact e1
    rw [h4, if_neg (by rw [show (160 : Int32) = nI 160 from rfl, nltL (by omega) (by omega)]; omega), ix_nI (show j < 161 by omega) (by decide), ob_some, e1, ix_nI (show j < 161 by omega) (by decide), ob_some, e2, na1]
  · rw [w_k (by decide), w_k (by decide), w_ss]
  · rw [w_k (by decide), w_ss]
  · rw [w_k (by decide), w_k (by decide), w_i hq]
  · rw [w_k (by decide), w_i hq, w_k (by decide)]
/-- the tokens, noted: the last is the end -/
def TK (ts : Nat) (tb : Nat → Nat) (K : Nat) (μ : ax_M) : Prop := μ 18 4 = nI (K + 1) ∧ K ≤ ts ∧ (∀ q, q ≤ K → μ 20 q = nI (kT tb ts q) ∧ μ 21 q = nI (kP tb ts q)) ∧ kT tb ts K = 21 ∧ ∀ q, q < K → kT tb ts q ≠ 21
theorem c_split (h : TB ts tb μ) : ∃ μ2 K, m_X6_split μ = some μ2 ∧ TK ts tb K μ2 ∧ Ch Ssp μ μ2 := by
  have h0 := h
  have key : ∀ (m p i j k : Nat) (μ1 : ax_M), p + m = ts → i ≤ p → j ≤ p → m < k → TB ts tb μ1 → Ch Ssp μ μ1 → μ1 18 4 = nI j → (∀ q, q < j → μ1 20 q = nI (kT tb ts q) ∧ μ1 21 q = nI (kP tb ts q) ∧ kT tb ts q ≠ 21) → kP tb ts j = k_pl tb ts p → ∃ μ2 K, m_X6_split_9 k (nI p) (nI i) μ1 = some μ2 ∧ TK ts tb K μ2 ∧ Ch Ssp μ μ2 := by
    intro m
    induction m using Nat.strongRecOn with
    | _ m ih =>
      intro p i j k μ1 hp hi hj hk hB hch h4 hq hpl
      obtain ⟨k, rfl⟩ : ∃ k2, k = k2 + 1 := ⟨k - 1, by omega⟩
      obtain ⟨h1, h2, h3, h5⟩ := hB
      by_cases e : p = ts
      · subst e
        have hP : kP tb p j = p := by
          rw [hpl]
          unfold k_pl
          rw [Nat.sub_self]
          rfl
        have hT : kT tb p j = 21 := by
          show k_tk tb p (k_ps tb p j) = 21
          unfold k_tk
          rw [if_pos hP]
        obtain ⟨μ2, e1, e2, e3, e4, e5, e6⟩ := c_note (μ := μ1) (t := 21) (p := p) (show j ≤ 160 by omega) h4
        have hfin : m_X6_split_9 (k + 1) (nI p) (nI i) μ1 = some μ2 := by
          rw [m_X6_split_9, h1, show (21 : Int32) = nI 21 from rfl, e1, ob_some]
          by_cases z : (160 : Int32) ≤ nI i
          · rw [if_pos z]
          · rw [if_neg z, if_pos (Int32.le_refl _)]
        refine ⟨μ2, j, hfin, ⟨e2, hj, fun q hq2 => ?_, hT, fun q hq2 => (hq q hq2).2.2⟩, hch.tr e6⟩
        by_cases z : q = j
        · rw [z, e3, e4, hT, hP]
          exact ⟨rfl, rfl⟩
        · rw [(e5 q z).1, (e5 q z).2]
          exact ⟨(hq q (by omega)).1, (hq q (by omega)).2.1⟩
      · have hlt : p < ts := by omega
        have t32 : (nI (tb p) = 32) = (tb p = 32) := neqL (k := 32) (by have := h5 p hlt; omega) (by decide)
        have t10 : (nI (tb p) = 10) = (tb p = 10) := neqL (k := 10) (by have := h5 p hlt; omega) (by decide)
        rw [m_X6_split_9, h1, if_neg (by rw [show (160 : Int32) = nI 160 from rfl, nleL (by omega) (by omega)]; omega), if_neg (by rw [nleL (by omega) (by omega)]; omega), ix_nI (show p < 160 by omega) (by decide), ob_some, ob_some, h3 p hlt]
        simp only [t32, t10, na1]
        have hsk : k_pl tb ts p = if tb p = 32 ∨ tb p = 10 then k_pl tb ts (p + 1) else p := by
          unfold k_pl
          rw [show ts - p = (ts - (p + 1)) + 1 by omega, k_skp]
        by_cases z : tb p = 32 ∨ tb p = 10
        · have hrec := ih (m - 1) (by omega) (p + 1) (i + 1) j k μ1 (by omega) (by omega) (by omega) (by omega) ⟨h1, h2, h3, h5⟩ hch h4 hq (by rw [hpl, hsk, if_pos z])
          rcases z with z | z
          · rw [if_pos z]
            exact hrec
          · by_cases z2 : tb p = 32
            · rw [if_pos z2]
              exact hrec
            · rw [if_neg z2, if_pos z]
              exact hrec
        · have z1 : ¬ tb p = 32 := fun w => z (Or.inl w)
          have z2 : ¬ tb p = 10 := fun w => z (Or.inr w)
          have hPp : kP tb ts j = p := by rw [hpl, hsk, if_neg z]
          have hPq : k_pl tb ts (k_ps tb ts j) = p := hPp
          obtain ⟨b1, b2, -⟩ := end_b (tb := tb) hlt
          have hT : kT tb ts j = k_tok tb p (k_end tb ts p) := by
            show k_tk tb ts (k_ps tb ts j) = _
            unfold k_tk
            rw [hPq, if_neg e]
          have hN : k_ps tb ts (j + 1) = k_end tb ts p := by
            show k_nx tb ts (k_ps tb ts j) = _
            unfold k_nx
            rw [hPq, if_neg e]
          rw [if_neg z1, if_neg z2, c_end ⟨h1, h2, h3, h5⟩ hlt, ob_some, c_tok ⟨h1, h2, h3, h5⟩ hlt, ob_some, ← hT]
          obtain ⟨μ2, e1, e2, e3, e4, e5, e6⟩ := c_note (μ := μ1) (t := kT tb ts j) (p := p) (show j ≤ 160 by omega) h4
          rw [e1, ob_some]
          refine ih (ts - k_end tb ts p) (by omega) (k_end tb ts p) (i + 1) (j + 1) k μ2 (by omega) (by omega) (by omega) (by omega) (TB.fr ⟨h1, h2, h3, h5⟩ (e6 18 1 rfl) fun i => e6 19 i rfl) (hch.tr e6) e2 (fun q hq2 => ?_) (by rw [← hN])
          by_cases w : q = j
          · rw [w, e3, e4, hPp]
            exact ⟨rfl, rfl, by rw [hT]; exact tok_ne _ _ _⟩
          · rw [(e5 q w).1, (e5 q w).2]
            exact hq q (by omega)
  have hfu : 1000 ≤ fu := by decide
  unfold m_X6_split
  exact key ts 0 0 0 fu (ax_w μ 18 4 0) (by omega) (by omega) (by omega) (by have := h.2.1; omega) (h.fr (w_i (by decide)) fun i => w_k (by decide)) (Ch.rf.w rfl) w_ss (fun q hq => by omega) rfl
/-- the model's tape -/
def MB (ts : Nat) (tb : Nat → Nat) (μ : ax_M) : Prop := μ 51 6 = nI ts ∧ ts ≤ 160 ∧ (∀ i, i < ts → μ 55 i = nI (tb i)) ∧ (∀ i, i < ts → tb i ≤ 255) ∧ ∀ i, i < 96 → μ 64 i = nI (wd i)
theorem MB.fr (h : MB ts tb μ) (h1 : μ2 51 6 = μ 51 6) (h2 : ∀ i, μ2 55 i = μ 55 i) (h3 : ∀ i, μ2 64 i = μ 64 i) : MB ts tb μ2 := ⟨h1.trans h.1, h.2.1, fun i hi => (h2 i).trans (h.2.2.1 i hi), h.2.2.2.1, fun i hi => (h3 i).trans (h.2.2.2.2 i hi)⟩
theorem in_so1 {b : Nat} (hb : b ≤ 255) : s_in (nI b) 97 122 = decide (k_so b = 1) := by
  unfold s_in k_so
  simp only [show (nI b < 97) = (b < 97) from nltL (k := 97) (by omega) (by decide), show ((122 : Int32) < nI b) = (122 < b) from nltL (a := 122) (by decide) (by omega)]
  by_cases h1 : 97 ≤ b ∧ b ≤ 122
  · have a1 : ¬ b < 97 := by omega
    have a2 : ¬ 122 < b := by omega
    rw [if_pos h1]
    simp [a1, a2]
  · rw [if_neg h1]
    have : (if 48 ≤ b ∧ b ≤ 57 then 2 else 0) ≠ 1 := by split <;> omega
    simp only [this, decide_false]
    by_cases a1 : b < 97
    · simp [a1]
    · have a2 : 122 < b := by omega
      simp [a2]
theorem in_so2 {b : Nat} (hb : b ≤ 255) : s_in (nI b) 48 57 = decide (k_so b = 2) := by
  unfold s_in k_so
  simp only [show (nI b < 48) = (b < 48) from nltL (k := 48) (by omega) (by decide), show ((57 : Int32) < nI b) = (57 < b) from nltL (a := 57) (by decide) (by omega)]
  by_cases h1 : 97 ≤ b ∧ b ≤ 122
  · rw [if_pos h1]
    have a2 : 57 < b := by omega
    simp [a2]
  · rw [if_neg h1]
    by_cases h2 : 48 ≤ b ∧ b ≤ 57
    · have a1 : ¬ b < 48 := by omega
      have a2 : ¬ 57 < b := by omega
      rw [if_pos h2]
      simp [a1, a2]
    · rw [if_neg h2]
      by_cases a1 : b < 48
      · simp [a1]
      · have a2 : 57 < b := by omega
        simp [a2]
/-- which of the model's words a token of the class is -/
def k_mk (t : Nat) : Nat := if t < 9 then t + 3 else t - 9
def k_mm (tb : Nat → Nat) (k st en : Nat) : Bool := decide (en - st ≤ 8) && k_al (fun c => decide (wd (8 * k + c) = if st + c < en then tb (st + c) else 32)) 8 0
theorem wd_c : ∀ (t : Fin 12) (c : Fin 8), wd (8 * k_mk t.val + c.val) = if c.val < k_wn t.val then k_wc t.val c.val else 32 := by decide +kernel
theorem wd_b : ∀ i : Fin 96, wd i.val ≤ 122 := by decide +kernel
theorem al_c {f : Nat → Bool} : ∀ (m c : Nat), k_al f m c = true ↔ ∀ q, c ≤ q → q < c + m → f q = true
  | 0, c => ⟨fun _ q h1 h2 => by omega, fun _ => rfl⟩
  | m + 1, c => by
    rw [k_al, Bool.and_eq_true, al_c m (c + 1)]
    constructor
    · intro ⟨h1, h2⟩ q a b
      by_cases e : q = c
      · rw [e]; exact h1
      · exact h2 q (by omega) (by omega)
    · intro h
      exact ⟨h c (Nat.le_refl c) (by omega), fun q a b => h q (by omega) (by omega)⟩
theorem mm_sp {t st en : Nat} (ht : t < 12) (hst : st < en) (hl : ∀ q, st ≤ q → q < en → k_so (tb q) = 1) : k_mm tb (k_mk t) st en = k_sp tb t st en := by
  have hlb : ∀ q, st ≤ q → q < en → tb q ≠ 32 := fun q a b z => by
    have := hl q a b
    rw [z] at this
    exact absurd this (by decide)
  have hw := jw_len ⟨t, ht⟩
  have hw2 : k_wn t ≤ 6 := hw.2.1
  have hwd : ∀ c, c < 8 → wd (8 * k_mk t + c) = if c < k_wn t then k_wc t c else 32 := fun c hc => wd_c ⟨t, ht⟩ ⟨c, hc⟩
  have hch : ∀ c, c < k_wn t → k_wc t c ≠ 32 := fun c hc => by
    have h1 : 97 ≤ k_wc t c := (jw_chr ⟨t, ht⟩ ⟨c, by omega⟩ hc).2.1
    omega
  rw [Bool.eq_iff_iff]
  unfold k_mm k_sp
  rw [Bool.and_eq_true, Bool.and_eq_true, decide_eq_true_eq, decide_eq_true_eq, al_c, al_c]
  constructor
  · intro ⟨h1, h2⟩
    have h3 : ∀ c, c < 8 → (if c < k_wn t then k_wc t c else 32) = if st + c < en then tb (st + c) else 32 := fun c hc => by
      have := h2 c (Nat.zero_le c) (by omega)
      simp only [decide_eq_true_eq] at this
      rw [← hwd c hc]
      exact this
    have h4 : k_wn t = en - st := by
      by_cases a : k_wn t < en - st
      · have := h3 (k_wn t) (by omega)
        rw [if_neg (by omega), if_pos (by omega)] at this
        exact absurd this.symm (hlb _ (by omega) (by omega))
      · by_cases b : en - st < k_wn t
        · have := h3 (en - st) (by omega)
          rw [if_pos b, if_neg (by omega)] at this
          exact absurd this (hch _ b)
        · omega
    refine ⟨h4, fun q a b => ?_⟩
    have := h3 q (by omega)
    rw [if_pos (by omega), if_pos (by omega)] at this
    simp [this]
  · intro ⟨h1, h2⟩
    refine ⟨by omega, fun q a b => ?_⟩
    simp only [decide_eq_true_eq]
    rw [hwd q (by omega)]
    by_cases c : q < k_wn t
    · have := h2 q a (by omega)
      simp only [decide_eq_true_eq] at this
      rw [if_pos c, if_pos (by omega)]
      exact this
    · rw [if_neg c, if_neg (by omega)]
theorem wn_one : ∀ t u : Fin 12, k_wn t.val = k_wn u.val → (∀ c : Fin 6, c.val < k_wn t.val → k_wc t.val c.val = k_wc u.val c.val) → t = u := by decide +kernel
theorem sp_one {t u st en : Nat} (ht : t < 12) (hu : u < 12) (h1 : k_sp tb t st en = true) (h2 : k_sp tb u st en = true) : t = u := by
  unfold k_sp at h1 h2
  rw [Bool.and_eq_true, decide_eq_true_eq, al_c] at h1 h2
  have := wn_one ⟨t, ht⟩ ⟨u, hu⟩ (h1.1.trans h2.1.symm) (fun c hc => by
    have a := h1.2 c.val (Nat.zero_le _) (by have : c.val < k_wn t := hc; omega)
    have b := h2.2 c.val (Nat.zero_le _) (by have : c.val < k_wn t := hc; omega)
    simp only [decide_eq_true_eq] at a b
    show k_wc t c.val = k_wc u c.val
    rw [a, b])
  exact congrArg Fin.val this
def k_km (k : Nat) : Nat := if k < 3 then k + 9 else k - 3
theorem mk_km {k : Nat} (hk : k < 12) : k_mk (k_km k) = k ∧ k_km k < 12 := by
  unfold k_mk k_km
  by_cases e : k < 3
  · rw [if_pos e, if_neg (by omega)]; omega
  · rw [if_neg e, if_pos (by omega)]; omega
theorem mw_word {st en : Nat} (hst : st < en) (hl : ∀ q, st ≤ q → q < en → k_so (tb q) = 1) : k_fst (fun k => k_mm tb k st en) 12 12 0 = if k_word tb st en = 22 then 12 else k_mk (k_word tb st en) := by
  have hmk : ∀ k, k < 12 → k_mm tb k st en = k_sp tb (k_km k) st en := fun k hk => by
    obtain ⟨a, b⟩ := mk_km hk
    have := mm_sp (tb := tb) b hst hl
    rw [a] at this
    exact this
  rcases fst_c (f := fun k => k_mm tb k st en) (z := 12) 12 0 with ⟨h1, h2⟩ | ⟨h1, h2, h3⟩
  · rcases word_c tb st en with ⟨g1, g2⟩ | ⟨g1, g2⟩
    · rw [h1, if_pos g1]
    · exfalso
      have hk : k_mk (k_word tb st en) < 12 := by unfold k_mk; split <;> omega
      have a := h2 (k_mk (k_word tb st en)) (Nat.zero_le _) (by omega)
      have b := mm_sp (tb := tb) g1 hst hl
      have a' : k_mm tb (k_mk (k_word tb st en)) st en = false := a
      rw [b, g2] at a'
      cases a'
  · have hk : k_fst (fun k => k_mm tb k st en) 12 12 0 < 12 := by omega
    have h3' : k_mm tb (k_fst (fun k => k_mm tb k st en) 12 12 0) st en = true := h3
    rw [hmk _ hk] at h3'
    obtain ⟨a, b⟩ := mk_km hk
    rcases word_c tb st en with ⟨g1, g2⟩ | ⟨g1, g2⟩
    · rw [g2 _ b] at h3'
      cases h3'
    · have := sp_one g1 b g2 h3'
      rw [if_neg (by omega), this, a]
end
