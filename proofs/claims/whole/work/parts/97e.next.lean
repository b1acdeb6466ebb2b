/-! ===== texts: the model's next token ===== -/
section
variable {ts : Nat} {tb : Nat → Nat} {μ μ2 : ax_M}
def k_mt (t : Nat) : Int32 := if t < 6 then 2 else if t = 6 then 4 else if t = 7 then 5 else if t = 8 then 6 else if t < 12 then 3 else if t = 12 then 60 else if t = 13 then 61 else if t = 14 then 43 else if t = 15 then 45 else if t = 16 then 42 else if t = 17 then 40 else if t = 18 then 41 else if t = 19 then 59 else if t = 21 then 0 else if t = 22 then -1 else 1
def VT (t : Nat) (v : Int32) : Prop := (t < 6 → v = nI t) ∧ (9 ≤ t ∧ t ≤ 11 → v = nI (t - 9)) ∧ (23 ≤ t → v = nI (t - 23))
def TN (k i : Nat) : Bool := k == 51 && (i == 18 || i == 19 || i == 20 || i == 21)
theorem MB.tn (h : MB ts tb μ) (hc : Ch TN μ μ2) : MB ts tb μ2 := h.fr (hc 51 6 rfl) (fun i => hc 55 i rfl) (fun i => hc 64 i rfl)
theorem mw_26 (h : MB ts tb μ) {st en k : Nat} (hst : st < en) (hen : en ≤ ts) (hk : k < 12) (k2 : Int32 → Option Int32) (fl : Nat) (hfl : 8 < fl) : m_X10_wordFrom_26 (nI st) (nI en) (nI k) k2 μ fl 1 0 = if k_al (fun c => decide (wd (8 * k + c) = if st + c < en then tb (st + c) else 32)) 8 0 then some (nI k) else k2 (nI (k + 1)) := by
  obtain ⟨h1, h2, h3, h4, h5⟩ := h
  have key : ∀ (m c fl : Nat), c + m = 8 → m < fl → m_X10_wordFrom_26 (nI st) (nI en) (nI k) k2 μ fl 1 (nI c) = if k_al (fun c => decide (wd (8 * k + c) = if st + c < en then tb (st + c) else 32)) m c then some (nI k) else k2 (nI (k + 1)) := by
    intro m
    induction m with
    | zero =>
      intro c fl hc hfl
      obtain ⟨fl, rfl⟩ : ∃ k2, fl = k2 + 1 := ⟨fl - 1, by omega⟩
      rw [m_X10_wordFrom_26, if_pos (by rw [show (8 : Int32) = nI 8 from rfl, nleL (by omega) (by omega)]; omega)]
      unfold m_X10_wordFrom_88
      rw [if_neg (by decide), k_al, if_pos rfl]
    | succ m ih =>
      intro c fl hc hfl
      obtain ⟨fl, rfl⟩ : ∃ k2, fl = k2 + 1 := ⟨fl - 1, by omega⟩
      have hz : ∀ x5, m_X10_wordFrom_26 (nI st) (nI en) (nI k) k2 μ fl 0 x5 = k2 (nI (k + 1)) := fun x5 => by
        obtain ⟨fl2, rfl⟩ : ∃ k2, fl = k2 + 1 := ⟨fl - 1, by omega⟩
        rw [m_X10_wordFrom_26]
        unfold m_X10_wordFrom_88
        rw [na1]
        by_cases z : (8 : Int32) ≤ x5
        · rw [if_pos z, if_pos rfl]
        · rw [if_neg z, if_pos rfl, if_pos rfl]
      have hwb : wd (8 * k + c) ≤ 122 := wd_b ⟨8 * k + c, by omega⟩
      rw [m_X10_wordFrom_26, if_neg (by rw [show (8 : Int32) = nI 8 from rfl, nleL (by omega) (by omega)]; omega), if_neg (by decide), show (8 : Int32) * nI k = nI (8 * k) from pk_mul 8 k, nI_add, ix_nI (show 8 * k + c < 96 by omega) (by decide), ob_some, nI_add, k_al]
      unfold m_X10_wordFrom_72
      rw [na1, h5 (8 * k + c) (by omega), hz, ih (c + 1) fl (by omega) (by omega)]
      simp only [show (nI en ≤ nI (st + c)) = (en ≤ st + c) from nleL (by omega) (by omega)]
      by_cases e : en ≤ st + c
      · rw [if_pos e, if_neg (show ¬ st + c < en by omega)]
        simp only [show (nI (wd (8 * k + c)) = 32) = (wd (8 * k + c) = 32) from neqL (k := 32) (by omega) (by decide)]
        by_cases e2 : wd (8 * k + c) = 32
        · rw [if_pos e2]
          simp [e2]
        · rw [if_neg e2]
          simp [e2]
      · have hb := h4 (st + c) (by omega)
        rw [if_neg e, if_pos (show st + c < en by omega), ix_nI (show st + c < 160 by omega) (by decide), ob_some, h3 (st + c) (by omega)]
        simp only [show (nI (wd (8 * k + c)) = nI (tb (st + c))) = (wd (8 * k + c) = tb (st + c)) from neqL (by omega) (by omega)]
        by_cases e2 : wd (8 * k + c) = tb (st + c)
        · rw [if_pos e2]
          simp [e2]
        · rw [if_neg e2]
          simp [e2]
  exact key 8 0 fl rfl hfl
theorem mw_from (h : MB ts tb μ) {st en : Nat} (hst : st < en) (hen : en ≤ ts) : m_X10_wordFrom (nI st) (nI en) μ = some (nI (k_fst (fun k => k_mm tb k st en) 12 12 0)) := by
  have hfu : 1000 ≤ fu := by decide
  have h2 := h.2.1
  have key : ∀ (m k fl : Nat), k + m = 12 → m < fl → m_X10_wordFrom_2 (nI st) (nI en) μ fl (nI k) = some (nI (k_fst (fun k => k_mm tb k st en) 12 m k)) := by
    intro m
    induction m with
    | zero =>
      intro k fl hk hfl
      obtain ⟨fl, rfl⟩ : ∃ k2, fl = k2 + 1 := ⟨fl - 1, by omega⟩
      rw [m_X10_wordFrom_2, if_pos (by rw [show (12 : Int32) = nI 12 from rfl, nleL (by omega) (by omega)]; omega)]
      rfl
    | succ m ih =>
      intro k fl hk hfl
      obtain ⟨fl, rfl⟩ : ∃ k2, fl = k2 + 1 := ⟨fl - 1, by omega⟩
      rw [m_X10_wordFrom_2, if_neg (by rw [show (12 : Int32) = nI 12 from rfl, nleL (by omega) (by omega)]; omega), pk_sub (show st ≤ en by omega), k_fst]
      simp only [show ((8 : Int32) < nI (en - st)) = (8 < en - st) from nltL (a := 8) (by decide) (by omega)]
      by_cases e : 8 < en - st
      · have hm : k_mm tb k st en = false := by
          unfold k_mm
          simp
          intro z
          omega
        have hz : m_X10_wordFrom_26 (nI st) (nI en) (nI k) (m_X10_wordFrom_2 (nI st) (nI en) μ fl) μ fu 0 0 = m_X10_wordFrom_2 (nI st) (nI en) μ fl (nI (k + 1)) := by
          rw [show fu = 999999 + 1 from rfl, m_X10_wordFrom_26, if_neg (by decide), if_pos rfl]
          unfold m_X10_wordFrom_88
          rw [if_pos rfl, na1]
        rw [if_pos e, hm, if_neg (by simp), hz]
        exact ih (k + 1) fl (by omega) (by omega)
      · rw [if_neg e, mw_26 h hst hen (show k < 12 by omega) _ fu (by omega), ih (k + 1) fl (by omega) (by omega)]
        unfold k_mm
        have : en - st ≤ 8 := by omega
        by_cases e2 : k_al (fun c => decide (wd (8 * k + c) = if st + c < en then tb (st + c) else 32)) 8 0 = true
        · simp [this, e2]
        · simp [this, e2]
  exact key 12 0 fu rfl (by omega)
theorem mn_103 (h : MB ts tb μ) : ∀ (m p fl : Nat) (μ1 : ax_M), p + m = ts → m < fl → μ1 51 18 = nI p → (∀ k i, ¬ (k = 51 ∧ i = 18) → μ1 k i = μ k i) → ∃ μ2, m_X10_next_103 fl μ1 = m_X10_next_146 μ2 ∧ μ2 51 18 = nI (k_run tb 1 m p) ∧ ∀ k i, ¬ (k = 51 ∧ i = 18) → μ2 k i = μ k i := by
  obtain ⟨h1, h2, h3, h4, -⟩ := h
  intro m
  induction m with
  | zero =>
    intro p fl μ1 hp hfl h18 hfr
    obtain ⟨fl, rfl⟩ : ∃ k2, fl = k2 + 1 := ⟨fl - 1, by omega⟩
    refine ⟨μ1, ?_, h18, hfr⟩
    rw [m_X10_next_103, h18, hfr 51 6 (by decide), h1, if_pos (by rw [nleL (by omega) (by omega)]; omega)]
  | succ m ih =>
    intro p fl μ1 hp hfl h18 hfr
    obtain ⟨fl, rfl⟩ : ∃ k2, fl = k2 + 1 := ⟨fl - 1, by omega⟩
    rw [m_X10_next_103, h18, hfr 51 6 (by decide), h1, if_neg (by rw [nleL (by omega) (by omega)]; omega), ix_nI (show p < 160 by omega) (by decide), ob_some, hfr 55 p (by omega), h3 p (by omega), m_in, ob_some, in_so1 (h4 p (by omega)), k_run]
    by_cases e : k_so (tb p) = 1
    · rw [if_neg (by simp [e, bI]), if_pos e, na1]
      exact ih (p + 1) fl _ (by omega) (by omega) w_ss fun k i hk => by rw [w_e hk]; exact hfr k i hk
    · rw [if_pos (by simp [e, bI]), if_neg e]
      exact ⟨μ1, rfl, h18, hfr⟩
theorem mn_230 (h : MB ts tb μ) {st : Nat} : ∀ (m q fl : Nat) (μ1 : ax_M), st + q + m = ts → m < fl → μ1 51 18 = nI (st + q) → μ1 51 21 = nI (if q ≤ 4 then k_dig tb st q else 0) → (∀ r, st ≤ r → r < st + q → k_so (tb r) = 2) → (∀ k i, ¬ (k = 51 ∧ (i = 18 ∨ i = 21)) → μ1 k i = μ k i) → ∃ μ2 q2, m_X10_next_230 fl (nI q) μ1 = m_X10_next_309 (nI q2) μ2 ∧ st + q2 = k_run tb 2 m (st + q) ∧ μ2 51 18 = nI (st + q2) ∧ μ2 51 21 = nI (if q2 ≤ 4 then k_dig tb st q2 else 0) ∧ ∀ k i, ¬ (k = 51 ∧ (i = 18 ∨ i = 21)) → μ2 k i = μ k i := by
  obtain ⟨h1, h2, h3, h4, -⟩ := h
  intro m
  induction m with
  | zero =>
    intro q fl μ1 hp hfl h18 h21 hd hfr
    obtain ⟨fl, rfl⟩ : ∃ k2, fl = k2 + 1 := ⟨fl - 1, by omega⟩
    refine ⟨μ1, q, ?_, rfl, h18, h21, hfr⟩
    rw [m_X10_next_230, h18, hfr 51 6 (by omega), h1, if_pos (by rw [nleL (by omega) (by omega)]; omega)]
  | succ m ih =>
    intro q fl μ1 hp hfl h18 h21 hd hfr
    obtain ⟨fl, rfl⟩ : ∃ k2, fl = k2 + 1 := ⟨fl - 1, by omega⟩
    rw [m_X10_next_230, h18, hfr 51 6 (by omega), h1, if_neg (by rw [nleL (by omega) (by omega)]; omega), ix_nI (show st + q < 160 by omega) (by decide), ob_some, hfr 55 _ (by omega), h3 (st + q) (by omega), m_in, ob_some, in_so2 (h4 (st + q) (by omega)), k_run]
    by_cases e : k_so (tb (st + q)) = 2
    · obtain ⟨b1, b2⟩ := dig_b2 e
      rw [if_neg (by simp [e, bI]), if_pos e]
      simp only [show ((4 : Int32) ≤ nI q) = (4 ≤ q) from nleL (a := 4) (by decide) (by omega)]
      unfold m_X10_next_290
      have hd' : ∀ r, st ≤ r → r < st + (q + 1) → k_so (tb r) = 2 := fun r a b => by
        by_cases z : r = st + q
        · rw [z]; exact e
        · exact hd r a (by omega)
      have w18 : ∀ v, (ax_w μ1 51 21 v) 51 18 = nI (st + q) := fun v => by rw [w_i (by decide)]; exact h18
      by_cases e4 : 4 ≤ q
      · rw [if_pos e4, w18, na1, na1]
        exact ih (q + 1) fl _ (by omega) (by omega) w_ss (by rw [w_i (by decide), w_ss, if_neg (by omega)]; rfl) hd' fun k i hk => by rw [w_e (by omega), w_e (by omega)]; exact hfr k i hk
      · have h21' : μ1 51 21 = nI (k_dig tb st q) := by rw [h21, if_pos (by omega)]
        rw [if_neg e4, ob_some, h21', hfr 55 _ (by omega), h3 (st + q) (by omega), show (10 : Int32) * nI (k_dig tb st q) = nI (10 * k_dig tb st q) from pk_mul 10 _, nI_add, show nI (10 * k_dig tb st q + tb (st + q)) - 48 = nI (10 * k_dig tb st q + tb (st + q) - 48) from pk_sub (b := 48) (by omega), w18, na1, na1]
        exact ih (q + 1) fl _ (by omega) (by omega) w_ss (by rw [w_i (by decide), w_ss, if_pos (by omega)]; rfl) hd' fun k i hk => by rw [w_e (by omega), w_e (by omega)]; exact hfr k i hk
    · rw [if_pos (by simp [e, bI]), if_neg e]
      exact ⟨μ1, q, rfl, rfl, h18, h21, hfr⟩
theorem mt_word {t : Nat} (ht : t < 12 ∨ t = 22) : ∀ (kk : Nat), kk = (if t = 22 then 12 else k_mk t) → ∀ μ : ax_M, ∃ v, VT t v ∧ (if (3 : Int32) ≤ nI kk then if (9 : Int32) ≤ nI kk then if nI kk = 12 then m_X10_next_195 (nI kk) (-1) μ else m_X10_next_195 (nI kk) (((4 : Int32) + nI kk) - 9) μ else m_X10_next_195 (nI kk) 2 μ else m_X10_next_195 (nI kk) 3 μ) = some (ax_w (ax_w μ 51 20 (k_mt t)) 51 21 v) := by
  intro kk hkk μ
  have hc : t = 0 ∨ t = 1 ∨ t = 2 ∨ t = 3 ∨ t = 4 ∨ t = 5 ∨ t = 6 ∨ t = 7 ∨ t = 8 ∨ t = 9 ∨ t = 10 ∨ t = 11 ∨ t = 22 := by omega
  subst hkk
  rcases hc with rfl | rfl | rfl | rfl | rfl | rfl | rfl | rfl | rfl | rfl | rfl | rfl | rfl
  · exact ⟨0, ⟨fun _ => rfl, fun h => by omega, fun h => by omega⟩, rfl⟩
  · exact ⟨1, ⟨fun _ => rfl, fun h => by omega, fun h => by omega⟩, rfl⟩
  · exact ⟨2, ⟨fun _ => rfl, fun h => by omega, fun h => by omega⟩, rfl⟩
  · exact ⟨3, ⟨fun _ => rfl, fun h => by omega, fun h => by omega⟩, rfl⟩
  · exact ⟨4, ⟨fun _ => rfl, fun h => by omega, fun h => by omega⟩, rfl⟩
  · exact ⟨5, ⟨fun _ => rfl, fun h => by omega, fun h => by omega⟩, rfl⟩
  · exact ⟨6, ⟨fun h => by omega, fun h => by omega, fun h => by omega⟩, rfl⟩
  · exact ⟨7, ⟨fun h => by omega, fun h => by omega, fun h => by omega⟩, rfl⟩
  · exact ⟨8, ⟨fun h => by omega, fun h => by omega, fun h => by omega⟩, rfl⟩
  · exact ⟨0, ⟨fun h => by omega, fun h => rfl, fun h => by omega⟩, rfl⟩
  · exact ⟨1, ⟨fun h => by omega, fun h => rfl, fun h => by omega⟩, rfl⟩
  · exact ⟨2, ⟨fun h => by omega, fun h => rfl, fun h => by omega⟩, rfl⟩
  · exact ⟨9, ⟨fun h => by omega, fun h => by omega, fun h => by omega⟩, rfl⟩
end
