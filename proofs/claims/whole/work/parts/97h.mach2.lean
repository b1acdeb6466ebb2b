/-! ===== texts: the model's reading is the machine ===== -/
theorem cn_le : ∀ H : List Nat, k_cn H ≤ H.length
  | [] => Nat.le_refl 0
  | s :: H => by
    have := cn_le H
    rw [k_cn]
    simp
    split <;> omega
theorem mt_big {t : Nat} (h : 23 ≤ t) : k_mt t = 1 := by
  unfold k_mt
  repeat' rw [if_neg (by omega)]
theorem mt_small : ∀ t : Fin 23, t.val ≠ 20 → (¬ k_mt t.val = 1) ∧ ((k_mt t.val = 2) ↔ t.val < 6) ∧ ((k_mt t.val = 6) ↔ t.val = 8) ∧ ((k_mt t.val = 45) ↔ t.val = 15) ∧ ((k_mt t.val = 40) ↔ t.val = 17) ∧ ((k_mt t.val = 59) ↔ t.val = 19) ∧ ((k_mt t.val = 41) ↔ t.val = 18) ∧ ((k_mt t.val = 3) ↔ (9 ≤ t.val ∧ t.val ≤ 11)) ∧ ((k_mt t.val = 0) ↔ t.val = 21) := by decide +kernel
theorem mt_sg : ∀ t : Fin 23, t.val ≠ 20 → (if k_mt t.val = 4 then some (11 : Int32) else if k_mt t.val = 5 then some 12 else if k_mt t.val = 60 then some 14 else if k_mt t.val = 61 then some 15 else if k_mt t.val = 43 then some 16 else if k_mt t.val = 45 then some 17 else if k_mt t.val = 42 then some 18 else some (-1)) = some (if k_bn t.val then nI (k_mc t.val) else -1) := by decide +kernel
theorem mt_eq {t : Nat} (h : t ≠ 20) : (k_mt t = 1) = (23 ≤ t) ∧ (k_mt t = 2) = (t < 6) ∧ (k_mt t = 6) = (t = 8) ∧ (k_mt t = 45) = (t = 15) ∧ (k_mt t = 40) = (t = 17) ∧ (k_mt t = 59) = (t = 19) ∧ (k_mt t = 41) = (t = 18) ∧ (k_mt t = 3) = (9 ≤ t ∧ t ≤ 11) ∧ (k_mt t = 0) = (t = 21) := by
  by_cases hb : 23 ≤ t
  · rw [mt_big hb]
    refine ⟨?_, ?_, ?_, ?_, ?_, ?_, ?_, ?_, ?_⟩
    · simp [hb]
    · have : ¬ t < 6 := by omega
      simp [this]
    · have : ¬ t = 8 := by omega
      simp [this]
    · have : ¬ t = 15 := by omega
      simp [this]
    · have : ¬ t = 17 := by omega
      simp [this]
    · have : ¬ t = 19 := by omega
      simp [this]
    · have : ¬ t = 18 := by omega
      simp [this]
    · have : ¬ (9 ≤ t ∧ t ≤ 11) := by omega
      simp [this]
    · have : ¬ t = 21 := by omega
      simp [this]
  · obtain ⟨a1, a2, a3, a4, a5, a6, a7, a8, a9⟩ := mt_small ⟨t, by omega⟩ h
    refine ⟨?_, propext a2, propext a3, propext a4, propext a5, propext a6, propext a7, propext a8, propext a9⟩
    apply propext
    exact ⟨fun z => absurd z a1, fun z => absurd z hb⟩
theorem bn_big {t : Nat} (h : 23 ≤ t) : k_bn t = false := by
  unfold k_bn
  simp
  omega
theorem m_sof {t : Nat} (h : t ≠ 20) {μ : ax_M} (h20 : μ 51 20 = k_mt t) : m_X10_signOf μ = some (if k_bn t then nI (k_mc t) else -1) := by
  unfold m_X10_signOf
  rw [h20]
  by_cases hb : 23 ≤ t
  · rw [mt_big hb, bn_big hb]
    rfl
  · exact mt_sg ⟨t, by omega⟩ h
theorem bn_sg {t : Nat} (h : k_bn t = true) : k_sg t := by
  unfold k_bn at h
  simp at h
  unfold k_sg
  omega
theorem tk_v (tb : Nat → Nat) (ts j : Nat) : kT tb ts j ≠ 20 := by
  show k_tk tb ts (k_ps tb ts j) ≠ 20
  unfold k_tk
  split
  · omega
  · unfold k_tok
    have h := word_c tb (k_pl tb ts (k_ps tb ts j)) (k_end tb ts (k_pl tb ts (k_ps tb ts j)))
    have h2 := sig_c (tb (k_pl tb ts (k_ps tb ts j)))
    split
    · omega
    · split
      · split <;> omega
      · omega
section
variable {ts t : Nat} {tb : Nat → Nat} {μ μ2 : ax_M}
theorem m_opn {s : Nat} {H X : List Nat} (h : MS t H X μ) (hs : s = 8 ∨ s = 17 ∨ s = 20) (hl : H.length + X.length < 180) : (k_cn H = 5 → m_X10_opensOne (nI (k_mc s)) μ = some (0, μ)) ∧ (¬ k_cn H = 5 → ∃ μ2, m_X10_opensOne (nI (k_mc s)) μ = some (1, μ2) ∧ MS t (s :: H) X μ2 ∧ Ch (TU t) μ μ2) := by
  have hc := cn_le H
  have h5 : μ 51 25 = nI (k_cn H) := h.2.2.2.2.1
  have e5 : (nI (k_cn H) = 5) = (k_cn H = 5) := neqL (k := 5) (by omega) (by decide)
  constructor
  · intro z
    unfold m_X10_opensOne
    rw [h5, if_pos (by rw [e5]; exact z)]
  · intro z
    have hsg : k_sg s := by unfold k_sg; omega
    have hcn : k_cn (s :: H) = k_cn H + 1 := by rw [k_cn, if_pos hs]
    obtain ⟨μ3, a1, a2, a3⟩ := m_hld (μ2 := ax_w μ 51 25 (nI (k_cn H + 1))) h hsg hl (by rw [w_ss, hcn]) (fun k i hk => w_e hk)
    refine ⟨μ3, ?_, a2, a3⟩
    unfold m_X10_opensOne
    rw [h5, if_neg (by rw [e5]; exact z), na1, a1, ob_some]
theorem m_btw {s : Nat} {H X : List Nat} (h : MS t H X μ) (hs : k_bn s = true) (hl : H.length + X.length < 180) : (k_rk s = 4 ∧ k_h4 (k_un (if k_rk s = 4 then 5 else k_rk s) H X).1 = true → ∃ μ2, m_X10_between (nI (k_mc s)) μ = some (0, μ2) ∧ Ch (TU t) μ μ2) ∧ (¬ (k_rk s = 4 ∧ k_h4 (k_un (if k_rk s = 4 then 5 else k_rk s) H X).1 = true) → ∃ μ2, m_X10_between (nI (k_mc s)) μ = some (1, μ2) ∧ MS t (s :: (k_un (if k_rk s = 4 then 5 else k_rk s) H X).1) (k_un (if k_rk s = 4 then 5 else k_rk s) H X).2 μ2 ∧ Ch (TU t) μ μ2) := by
  have hsg := bn_sg hs
  have hr7 := rk_le s
  have hr1 : 1 ≤ k_rk s := by
    unfold k_bn at hs
    simp at hs
    rcases hs with ((((((rfl | rfl) | rfl) | rfl) | rfl) | rfl) | rfl) <;> decide
  have e4 : (nI (k_rk s) = 4) = (k_rk s = 4) := neqL (k := 4) (by omega) (by decide)
  have hfu : 1000 ≤ fu := by decide
  obtain ⟨μ3, a1, a2, a3⟩ := m_unw (t := t) (r := if k_rk s = 4 then 5 else k_rk s) (by split <;> omega) (by split <;> omega) (X := X) H X fu μ (by have := h.2.2.2.2.2.2.2.1; omega) h
  have hb : m_X10_between (nI (k_mc s)) μ = if k_rk s = 4 then (if (μ3 51 24) ≤ 0 then (m_X10_holds (nI (k_mc s)) μ3).bind fun μ10 => some (1, μ10) else (ix 200 ((μ3 51 24) - 1)).bind fun j11 => (m_X10_rank (μ3 65 j11) μ3).bind fun v13 => if v13 = 4 then some (0, μ3) else (m_X10_holds (nI (k_mc s)) μ3).bind fun μ18 => some (1, μ18)) else (m_X10_holds (nI (k_mc s)) μ3).bind fun μ21 => some (1, μ21) := by
    unfold m_X10_between m_X10_between_17 m_X10_unwinds
    rw [m_rnk hsg, ob_some, ob_some]
    simp only [e4, m_rnk hsg]
    by_cases z : k_rk s = 4
    · rw [if_pos z] at a1
      rw [if_pos z, show (5 : Int32) = nI 5 from rfl, a1, ob_some, if_pos z, ob_some]
      rw [if_pos (by rw [e4]; exact z)]
    · rw [if_neg z] at a1
      rw [if_neg z, a1, ob_some, if_neg z, ob_some, if_neg (by rw [e4]; exact z)]
  generalize hp : k_un (if k_rk s = 4 then 5 else k_rk s) H X = p at *
  obtain ⟨P, X2⟩ := p
  have hlen := (un_b (r := if k_rk s = 4 then 5 else k_rk s) H X).1
  rw [hp] at hlen
  have hl2 : P.length + X2.length < 180 := by
    have : P.length + X2.length = H.length + X.length := hlen
    omega
  have a2' : MS t P X2 μ3 := a2
  have hcs : k_cn (s :: P) = k_cn P := by
    rw [k_cn, if_neg (by
      unfold k_bn at hs
      simp at hs
      omega)]
    rfl
  obtain ⟨μ4, b1, b2, b3⟩ := m_hld (μ2 := μ3) a2' hsg hl2 (by rw [hcs]; exact a2'.2.2.2.2.1) (fun k i _ => rfl)
  have h24 : μ3 51 24 = nI P.length := a2'.2.2.1
  have hP180 : P.length < 180 := by omega
  constructor
  · intro ⟨z1, z2⟩
    have z2' : k_h4 P = true := z2
    cases P with
    | nil => cases z2'
    | cons q P =>
      have z3 : k_rk q = 4 := by simpa [k_h4] using z2'
      have hq := a2'.2.2.2.2.2.2.2.2 q (List.mem_cons_self ..)
      have hl3 : (q :: P).length = P.length + 1 := rfl
      refine ⟨μ3, ?_, a3⟩
      rw [hb, if_pos z1, h24, hl3, if_neg (by rw [show (0 : Int32) = nI 0 from rfl, nleL (by omega) (by omega)]; omega), nI_pred, ix_nI (show P.length < 200 by omega) (by decide), ob_some, a2'.2.2.2.1.1, m_rnk hq, ob_some, if_pos (by rw [z3]; rfl)]
  · intro z
    refine ⟨μ4, ?_, b2, a3.tr b3⟩
    rw [hb]
    by_cases z1 : k_rk s = 4
    · rw [if_pos z1]
      cases P with
      | nil => rw [h24, if_pos (by decide), b1, ob_some]
      | cons q P =>
        have z3 : ¬ k_rk q = 4 := fun w => z ⟨z1, by simp [k_h4, w]⟩
        have hq := a2'.2.2.2.2.2.2.2.2 q (List.mem_cons_self ..)
        have hl3 : (q :: P).length = P.length + 1 := rfl
        have hq7 := rk_le q
        rw [h24, hl3, if_neg (by rw [show (0 : Int32) = nI 0 from rfl, nleL (by omega) (by omega)]; omega), nI_pred, ix_nI (show P.length < 200 by omega) (by decide), ob_some, a2'.2.2.2.1.1, m_rnk hq, ob_some, if_neg (by rw [show (4 : Int32) = nI 4 from rfl, neqL (by omega) (by omega)]; exact z3), b1, ob_some]
    · rw [if_neg z1, b1, ob_some]
end
