/-! ===== texts: the model's reading as a machine over tokens ===== -/
def k_rk (s : Nat) : Nat := if s = 17 then 0 else if s = 6 then 1 else if s = 7 then 2 else if s = 8 then 3 else if s = 12 ∨ s = 13 then 4 else if s = 14 ∨ s = 15 then 5 else if s = 16 then 6 else 7
/-- a code of the class, in the model -/
def k_mc (s : Nat) : Nat := if s < 6 then s else if s = 6 then 11 else if s = 7 then 12 else if s = 8 then 13 else if s = 12 then 14 else if s = 13 then 15 else if s = 14 then 16 else if s = 15 then 17 else if s = 16 then 18 else if s = 17 then 0 else if s = 20 then 19 else 100000 + (s - 23)
def k_sg (s : Nat) : Prop := s = 6 ∨ s = 7 ∨ s = 8 ∨ s = 12 ∨ s = 13 ∨ s = 14 ∨ s = 15 ∨ s = 16 ∨ s = 17 ∨ s = 20
def k_cn : List Nat → Nat
  | [] => 0
  | s :: H => k_cn H + (if s = 8 ∨ s = 17 ∨ s = 20 then 1 else 0)
def k_un (r : Nat) : List Nat → List Nat → List Nat × List Nat
  | [], X => ([], X)
  | s :: H, X => if r ≤ k_rk s then k_un r H (s :: X) else (s :: H, X)
def k_bn (t : Nat) : Bool := t == 6 || t == 7 || t == 12 || t == 13 || t == 14 || t == 15 || t == 16
def k_h4 (H : List Nat) : Bool := match H with
  | [] => false
  | s :: _ => k_rk s == 4
def k_mach (T : Nat → Nat) : Nat → Nat → Bool → Bool → List Nat → List Nat → Option (Option (List Nat) × Nat)
  | 0, _, _, _, _, _ => none
  | n + 1, j, true, mn, H, X =>
    if T j < 6 ∨ 23 ≤ T j then k_mach T n (j + 1) false mn (k_un 7 H (T j :: X)).1 (k_un 7 H (T j :: X)).2
    else if T j = 8 ∧ mn = true then (if k_cn H = 5 then some (none, j) else k_mach T n (j + 1) true mn (8 :: H) X)
    else if T j = 15 then (if k_cn H = 5 then some (none, j) else k_mach T n (j + 1) true false (20 :: H) X)
    else if T j = 17 then (if k_cn H = 5 then some (none, j) else k_mach T n (j + 1) true true (17 :: H) X)
    else some (none, j)
  | n + 1, j, false, mn, H, X =>
    if T j = 19 then (match k_un 1 H X with
      | ([], X2) => some (some X2, j + 1)
      | (_ :: _, _) => some (none, j))
    else if T j = 18 then (match k_un 1 H X with
      | ([], _) => some (none, j)
      | (_ :: H2, X2) => k_mach T n (j + 1) false mn (k_un 7 H2 X2).1 (k_un 7 H2 X2).2)
    else if k_bn (T j) then (if k_rk (T j) = 4 ∧ k_h4 (k_un (if k_rk (T j) = 4 then 5 else k_rk (T j)) H X).1 = true then some (none, j) else k_mach T n (j + 1) true (decide (T j = 6 ∨ T j = 7)) (T j :: (k_un (if k_rk (T j) = 4 then 5 else k_rk (T j)) H X).1) (k_un (if k_rk (T j) = 4 then 5 else k_rk (T j)) H X).2)
    else some (none, j)
def HL : List Nat → (Nat → Int32) → Prop
  | [], _ => True
  | s :: H, g => g H.length = nI (k_mc s) ∧ HL H g
def OL (b : Nat) : List Nat → (Nat → Int32) → Prop
  | [], _ => True
  | c :: O, g => g (b + O.length) = nI (k_mc c) ∧ OL b O g
theorem HL.fr {H : List Nat} {g g2 : Nat → Int32} (h : HL H g) (e : ∀ i, i < H.length → g2 i = g i) : HL H g2 := by
  induction H with
  | nil => trivial
  | cons s H ih => exact ⟨(e _ (by simp)).trans h.1, ih h.2 fun i hi => e i (by simp; omega)⟩
theorem OL.fr {b : Nat} {O : List Nat} {g g2 : Nat → Int32} (h : OL b O g) (e : ∀ i, b ≤ i → i < b + O.length → g2 i = g i) : OL b O g2 := by
  induction O with
  | nil => trivial
  | cons s O ih => exact ⟨(e _ (by omega) (by simp)).trans h.1, ih h.2 fun i h1 h2 => e i h1 (by simp; omega)⟩
theorem un_b {r : Nat} : ∀ (H X : List Nat), (k_un r H X).1.length + (k_un r H X).2.length = H.length + X.length ∧ (∀ s ∈ (k_un r H X).1, s ∈ H) ∧ (k_un r H X).1.length ≤ H.length
  | [], X => ⟨rfl, fun s h => h, Nat.le_refl _⟩
  | s :: H, X => by
    obtain ⟨a, b, c⟩ := un_b (r := r) H (s :: X)
    rw [k_un]
    by_cases e : r ≤ k_rk s
    · rw [if_pos e]
      refine ⟨by simp at a ⊢; omega, fun q hq => List.mem_cons_of_mem _ (b q hq), by simp; omega⟩
    · rw [if_neg e]
      exact ⟨by simp, fun q hq => hq, Nat.le_refl _⟩
theorem rk0 {s : Nat} (h : k_sg s) (h0 : k_rk s = 0) : s = 17 := by
  unfold k_sg at h
  rcases h with rfl | rfl | rfl | rfl | rfl | rfl | rfl | rfl | rfl | rfl <;> first | rfl | (exact absurd h0 (by decide))
theorem un1_hd {H X : List Nat} (h : ∀ s ∈ H, k_sg s) {s : Nat} {H2 X2 : List Nat} (e : k_un 1 H X = (s :: H2, X2)) : s = 17 := by
  induction H generalizing X with
  | nil => cases e
  | cons q H ih =>
    rw [k_un] at e
    by_cases z : 1 ≤ k_rk q
    · rw [if_pos z] at e
      exact ih (fun s hs => h s (List.mem_cons_of_mem _ hs)) e
    · rw [if_neg z] at e
      cases e
      exact rk0 (h _ (List.mem_cons_self ..)) (by omega)
section
variable {ts t : Nat} {tb : Nat → Nat} {μ μ2 : ax_M}
/-- the model while it reads -/
def MS (t : Nat) (H X : List Nat) (μ : ax_M) : Prop := t < 6 ∧ μ 51 9 = nI t ∧ μ 51 24 = nI H.length ∧ HL H (μ 65) ∧ μ 51 25 = nI (k_cn H) ∧ μ 51 26 = nI X.length ∧ OL (200 * t) X (μ 56) ∧ H.length + X.length ≤ 180 ∧ ∀ s ∈ H, k_sg s
/-- where it may write -/
def TR (t k i : Nat) : Bool := (k == 51 && (i == 18 || i == 19 || i == 20 || i == 21 || i == 24 || i == 25 || i == 26)) || k == 65 || (k == 56 && (decide (200 * t ≤ i) && decide (i < 200 * t + 200)))
theorem MB.tr (h : MB ts tb μ) (hc : Ch (TR t) μ μ2) : MB ts tb μ2 := h.fr (hc 51 6 (by simp [TR])) (fun i => hc 55 i (by simp [TR])) (fun i => hc 64 i (by simp [TR]))
theorem tnR (h : Ch TN μ μ2) : Ch (TR t) μ μ2 := h.mono fun k i e => by simp [TR, TN] at *; omega
theorem MS.tn {H X : List Nat} (h : MS t H X μ) (hc : Ch TN μ μ2) : MS t H X μ2 := by
  obtain ⟨h1, h2, h3, h4, h5, h6, h7, h8, h9⟩ := h
  exact ⟨h1, (hc 51 9 rfl).trans h2, (hc 51 24 rfl).trans h3, h4.fr fun i _ => hc 65 i rfl, (hc 51 25 rfl).trans h5, (hc 51 26 rfl).trans h6, h7.fr fun i _ _ => hc 56 i rfl, h8, h9⟩
def TU (t k i : Nat) : Bool := (k == 51 && (i == 24 || i == 25 || i == 26)) || k == 65 || (k == 56 && (decide (200 * t ≤ i) && decide (i < 200 * t + 200)))
theorem tuR (h : Ch (TU t) μ μ2) : Ch (TR t) μ μ2 := h.mono fun k i e => by simp [TR, TU] at *; omega
theorem m_put {c : Nat} {H X : List Nat} (h : MS t H X μ) (hl : H.length + X.length < 180) : ∃ μ2, m_X10_puts (nI (k_mc c)) μ = some μ2 ∧ MS t H (c :: X) μ2 ∧ Ch (TU t) μ μ2 := by
  obtain ⟨h1, h2, h3, h4, h5, h6, h7, h8, h9⟩ := h
  refine ⟨ax_w (ax_w μ 56 (200 * t + X.length) (nI (k_mc c))) 51 26 (nI (X.length + 1)), ?_, ⟨h1, ?_, ?_, ?_, ?_, ?_, ⟨?_, ?_⟩, by simp; omega, h9⟩, (Ch.rf.w (by simp [TU]; omega)).w rfl⟩
  · unfold m_X10_puts
    have w26 : ∀ i v, (ax_w μ 56 i v) 51 26 = nI X.length := fun i v => by rw [w_k (by decide)]; exact h6
    rw [h2, h6, show (200 : Int32) * nI t = nI (200 * t) from pk_mul 200 t, nI_add, ix_nI (show 200 * t + X.length < 1200 by omega) (by decide), ob_some, w26, na1]
  · rw [w_i (by decide), w_k (by decide)]; exact h2
  · rw [w_i (by decide), w_k (by decide)]; exact h3
  · exact h4.fr fun i _ => by rw [w_k (by decide), w_k (by decide)]
  · rw [w_i (by decide), w_k (by decide)]; exact h5
  · rw [w_ss]; rfl
  · rw [w_k (by decide), w_ss]
  · exact h7.fr fun i a b => by rw [w_k (by decide), w_i (by omega)]
theorem m_hld {s : Nat} {H X : List Nat} (h : MS t H X μ) (hs : k_sg s) (hl : H.length + X.length < 180) (h25 : μ2 51 25 = nI (k_cn (s :: H))) (hfr : ∀ k i, ¬ (k = 51 ∧ i = 25) → μ2 k i = μ k i) : ∃ μ3, m_X10_holds (nI (k_mc s)) μ2 = some μ3 ∧ MS t (s :: H) X μ3 ∧ Ch (TU t) μ μ3 := by
  obtain ⟨h1, h2, h3, h4, h5, h6, h7, h8, h9⟩ := h
  have f24 : μ2 51 24 = nI H.length := (hfr 51 24 (by omega)).trans h3
  refine ⟨ax_w (ax_w μ2 65 H.length (nI (k_mc s))) 51 24 (nI (H.length + 1)), ?_, ⟨h1, ?_, ?_, ⟨?_, ?_⟩, ?_, ?_, ?_, by simp; omega, ?_⟩, ?_⟩
  · unfold m_X10_holds
    have w24 : ∀ i v, (ax_w μ2 65 i v) 51 24 = nI H.length := fun i v => by rw [w_k (by decide)]; exact f24
    rw [f24, ix_nI (show H.length < 200 by omega) (by decide), ob_some, w24, na1]
  · rw [w_i (by decide), w_k (by decide), hfr 51 9 (by omega)]; exact h2
  · rw [w_ss]; rfl
  · rw [w_k (by decide), w_ss]
  · exact h4.fr fun i hi => by rw [w_k (by decide), w_i (by omega), hfr 65 i (by omega)]
  · rw [w_i (by decide), w_k (by decide)]; exact h25
  · rw [w_i (by decide), w_k (by decide), hfr 51 26 (by omega)]; exact h6
  · exact h7.fr fun i a b => by rw [w_k (by decide), w_k (by decide), hfr 56 i (by omega)]
  · intro q hq
    rcases List.mem_cons.mp hq with e | e
    · rw [e]; exact hs
    · exact h9 q e
  · intro k i hk
    simp [TU] at hk
    rw [w_e (by omega), w_e (by omega)]
    exact hfr k i (by omega)
theorem m_rnk {s : Nat} (h : k_sg s) (μ : ax_M) : m_X10_rank (nI (k_mc s)) μ = some (nI (k_rk s)) := by
  unfold k_sg at h
  rcases h with rfl | rfl | rfl | rfl | rfl | rfl | rfl | rfl | rfl | rfl <;> rfl
theorem rk_le (s : Nat) : k_rk s ≤ 7 := by
  unfold k_rk
  repeat' split
  all_goals omega
theorem mc13 {s : Nat} (h : k_sg s) : (nI (k_mc s) = 13) = (s = 8) ∧ (nI (k_mc s) = 19) = (s = 20) := by
  unfold k_sg at h
  rcases h with rfl | rfl | rfl | rfl | rfl | rfl | rfl | rfl | rfl | rfl <;> exact ⟨by decide, by decide⟩
theorem m_unw {r : Nat} (hr : 1 ≤ r) (hr7 : r ≤ 7) {X : List Nat} : ∀ (H X : List Nat) (fl : Nat) (μ : ax_M), H.length < fl → MS t H X μ → ∃ μ2, m_X10_unwinds_0 (nI r) fl μ = some μ2 ∧ MS t (k_un r H X).1 (k_un r H X).2 μ2 ∧ Ch (TU t) μ μ2
  | [], X, fl, μ, hfl, h => by
    obtain ⟨fl, rfl⟩ : ∃ k2, fl = k2 + 1 := ⟨fl - 1, by omega⟩
    refine ⟨μ, ?_, h, Ch.rf⟩
    rw [m_X10_unwinds_0, h.2.2.1, if_pos (by decide)]
  | s :: H, X, fl, μ, hfl, h => by
    obtain ⟨fl, rfl⟩ : ∃ k2, fl = k2 + 1 := ⟨fl - 1, by omega⟩
    have h' := h
    obtain ⟨h1, h2, h3, h4, h5, h6, h7, h8, h9⟩ := h'
    have hlen : (s :: H).length = H.length + 1 := rfl
    have hln : H.length + 1 ≤ 180 := by rw [hlen] at h8; omega
    have hsg := h9 s (List.mem_cons_self ..)
    have e24 : μ 51 24 - 1 = nI H.length := by rw [h3, hlen, nI_pred]
    have i200 : ix 200 (nI H.length) = some H.length := ix_nI (by omega) (by decide)
    have e65 : μ 65 H.length = nI (k_mc s) := h4.1
    have hk := rk_le s
    rw [m_X10_unwinds_0, h3, hlen, if_neg (by rw [show (0 : Int32) = nI 0 from rfl, nleL (by omega) (by omega)]; omega), nI_pred, i200, ob_some, e65, m_rnk hsg, ob_some]
    simp only [show (nI (k_rk s) < nI r) = (k_rk s < r) from nltL (by omega) (by omega)]
    rw [k_un]
    by_cases e : k_rk s < r
    · rw [if_pos e, if_neg (by omega)]
      exact ⟨μ, rfl, h, Ch.rf⟩
    · rw [if_neg e, if_pos (by omega)]
      have g24 : (ax_w μ 51 24 (nI H.length)) 51 24 = nI H.length := w_ss
      have g65 : (ax_w μ 51 24 (nI H.length)) 65 H.length = nI (k_mc s) := by rw [w_k (by decide)]; exact e65
      have g25 : (ax_w μ 51 24 (nI H.length)) 51 25 = nI (k_cn (s :: H)) := by rw [w_i (by decide)]; exact h5
      have hne : (k_rk s = 0) = False := by
        apply propext
        constructor
        · intro z; omega
        · intro z; cases z
      have hs17 : ¬ s = 17 := fun z => by rw [z] at e; exact e (by show 0 < r; omega)
      -- one sign is popped
      have hmid : ∀ w : Int32, nI (k_cn (s :: H)) - w = nI (k_cn H) → ∃ μ2, m_X10_unwinds_67 (nI r) (nI (k_mc s)) (nI (k_cn (s :: H))) w (m_X10_unwinds_0 (nI r) fl) (ax_w μ 51 24 (nI H.length)) = some μ2 ∧ MS t (k_un r H (s :: X)).1 (k_un r H (s :: X)).2 μ2 ∧ Ch (TU t) μ μ2 := fun w hw => by
        have hS : MS t H X (ax_w (ax_w μ 51 24 (nI H.length)) 51 25 (nI (k_cn H))) := ⟨h1, by rw [w_i (by decide), w_i (by decide)]; exact h2, by rw [w_i (by decide), w_ss], h4.2.fr fun i _ => by rw [w_k (by decide), w_k (by decide)], w_ss, by rw [w_i (by decide), w_i (by decide)]; exact h6, h7.fr fun i _ _ => by rw [w_k (by decide), w_k (by decide)], by rw [hlen] at h8; omega, fun q hq => h9 q (List.mem_cons_of_mem _ hq)⟩
        obtain ⟨μ3, a1, a2, a3⟩ := m_put (c := s) hS (by rw [hlen] at h8; omega)
        obtain ⟨μ4, b1, b2, b3⟩ := m_unw hr hr7 (X := X) H (s :: X) fl μ3 (by rw [hlen] at hfl; omega) a2
        refine ⟨μ4, ?_, b2, (((Ch.rf.w rfl).w rfl).tr a3).tr b3⟩
        unfold m_X10_unwinds_67
        rw [hw, a1, ob_some, b1]
      rw [g24, i200, ob_some, g65, g25]
      obtain ⟨z1, z2⟩ := mc13 hsg
      simp only [z1, z2]
      by_cases c8 : s = 8
      · rw [if_pos c8]
        refine hmid 1 ?_
        rw [k_cn, if_pos (Or.inl c8), nI_pred]
      · rw [if_neg c8]
        by_cases c20 : s = 20
        · rw [if_pos c20]
          refine hmid 1 ?_
          rw [k_cn, if_pos (Or.inr (Or.inr c20)), nI_pred]
        · rw [if_neg c20]
          refine hmid 0 ?_
          rw [k_cn, if_neg (by omega), Int32.sub_zero]
          rfl
end
