/-! ===== told fines, both sides ===== -/
section
variable {n hr lw tx ts : Nat} {d : Dt} {F : Nat → Lw} {tb : Nat → Nat} {im : Im} {sh : Sh4} {μ μ2 : ax_M}
theorem K.refuses (h : K n d hr lw tx F ts tb im sh μ) {s : Nat} (hs : s < 4) : m_X4_refuses (nI s) μ = some (if sh_o sh s = -1 then -11 else 0) := by
  unfold m_X4_refuses
  rw [if_neg (nneg (by omega)), if_pos (show nI s < 4 from by rw [show (4 : Int32) = nI 4 from rfl, nltL (by omega) (by omega)]; exact hs), ix_nI hs (by decide), ob_some, (h.2.1.2.2.2.2 s hs).1]
  by_cases e : sh_o sh s = -1 <;> simp [e]
/-- what a sheet of told fines must be -/
theorem K.swr (h : K n d hr lw tx F ts tb im sh μ) (x1 : Int32) : (∃ s, s < 4 ∧ x1 = nI s ∧ sh_z sh s ≤ 24 ∧ ∀ μ', K n d hr lw tx F ts tb im sh μ' → m_X10_sheetWrong x1 μ' = some 0 ∧ ∀ x2, m_X9_refusesFines x1 x2 μ' = some (if s_cell x2 then 0 else -5)) ∨ ∃ v : Int32, v ≠ 0 ∧ ∀ μ', K n d hr lw tx F ts tb im sh μ' → m_X10_sheetWrong x1 μ' = some v ∧ ∀ x2, m_X9_refusesFines x1 x2 μ' = some v := by
  rcases argb x1 3 3 4 rfl rfl (by decide) with ⟨s, hs, rfl, g1, g2, g3, g4, g5, g6⟩ | ⟨b0, b1⟩
  · have hs4 : s < 4 := by omega
    have i4 : ix 4 (nI s) = some s := ix_nI hs4 (by decide)
    have hz40 := (h.1.2.2.2.2.2.2.2.2 s hs4).2
    by_cases e : sh_o sh s = -1
    · refine Or.inr ⟨-11, by decide, fun μ' h' => ⟨?_, fun x2 => ?_⟩⟩
      · unfold m_X10_sheetWrong
        rw [m_in, ob_some, g1, if_neg (by decide), i4, ob_some, (h'.2.2.2.2.2.2 s hs4).1, if_pos e]
      · unfold m_X9_refusesFines
        rw [h'.refuses hs4, ob_some, if_pos e, if_neg (by decide)]
    · by_cases e2 : sh_z sh s ≤ 24
      · refine Or.inl ⟨s, hs4, rfl, e2, fun μ' h' => ⟨?_, fun x2 => ?_⟩⟩
        · unfold m_X10_sheetWrong
          rw [m_in, ob_some, g1, if_neg (by decide), i4, ob_some, (h'.2.2.2.2.2.2 s hs4).1, if_neg e, ob_some, (h'.2.2.2.2.2.2 s hs4).2.1, if_pos (by rw [show (24 : Int32) = nI 24 from rfl, nleL (by omega) (by omega)]; exact e2)]
        · unfold m_X9_refusesFines
          rw [h'.refuses hs4, ob_some, if_neg e, if_pos rfl, i4, ob_some, (h'.2.1.2.2.2.2 s hs4).2.1, if_pos (by rw [show (24 : Int32) = nI 24 from rfl, nleL (by omega) (by omega)]; exact e2), c_cel, ob_some]
          cases s_cell x2 <;> simp [bI]
      · refine Or.inr ⟨-2, by decide, fun μ' h' => ⟨?_, fun x2 => ?_⟩⟩
        · unfold m_X10_sheetWrong
          rw [m_in, ob_some, g1, if_neg (by decide), i4, ob_some, (h'.2.2.2.2.2.2 s hs4).1, if_neg e, ob_some, (h'.2.2.2.2.2.2 s hs4).2.1, if_neg (by rw [show (24 : Int32) = nI 24 from rfl, nleL (by omega) (by omega)]; exact e2)]
        · unfold m_X9_refusesFines
          rw [h'.refuses hs4, ob_some, if_neg e, if_pos rfl, i4, ob_some, (h'.2.1.2.2.2.2 s hs4).2.1, if_neg (by rw [show (24 : Int32) = nI 24 from rfl, nleL (by omega) (by omega)]; exact e2)]
  · refine Or.inr ⟨-2, by decide, fun μ' h' => ⟨?_, fun x2 => ?_⟩⟩
    · unfold m_X10_sheetWrong
      rw [m_in, ob_some, b0, if_pos (by decide)]
    · unfold m_X9_refusesFines m_X4_refuses
      rcases b1 with b | ⟨b2, b3, b4, b5, b6⟩ <;> simp [*]
theorem K.told (h : K n d hr lw tx F ts tb im sh μ) (x1 x2 : Int32) : (∃ s c, s < 4 ∧ c < 36 ∧ x1 = nI s ∧ x2 = nI c ∧ sh_z sh s ≤ 24 ∧ ∀ μ', K n d hr lw tx F ts tb im sh μ' → m_X10_toldWrong x1 x2 μ' = some 0 ∧ m_X9_refusesFines x1 x2 μ' = some 0) ∨ ∃ v : Int32, v ≠ 0 ∧ ∀ μ', K n d hr lw tx F ts tb im sh μ' → m_X10_toldWrong x1 x2 μ' = some v ∧ m_X9_refusesFines x1 x2 μ' = some v := by
  rcases h.swr x1 with ⟨s, hs, rfl, hz, hk⟩ | ⟨v, hv, hk⟩
  · rcases argc x2 with ⟨c, hc, rfl, l1⟩ | l0
    · refine Or.inl ⟨s, c, hs, hc, rfl, rfl, hz, fun μ' h' => ⟨?_, ?_⟩⟩
      · unfold m_X10_toldWrong
        rw [(hk μ' h').1, ob_some, if_pos rfl, m_cel, l1, ob_some, if_neg (by decide)]
      · rw [(hk μ' h').2, l1]
        rfl
    · refine Or.inr ⟨-5, by decide, fun μ' h' => ⟨?_, ?_⟩⟩
      · unfold m_X10_toldWrong
        rw [(hk μ' h').1, ob_some, if_pos rfl, m_cel, l0, ob_some, if_pos (by decide)]
      · rw [(hk μ' h').2, l0]
        rfl
  · refine Or.inr ⟨v, hv, fun μ' h' => ⟨?_, (hk μ' h').2 x2⟩⟩
    unfold m_X10_toldWrong
    rw [(hk μ' h').1, ob_some, if_neg hv]
/-- the first that is otherwise -/
def s_ot (d : Dt) (n c z : Nat) (C : Nat → Int32) : Int32 := s_ff (fun i => decide (s_fw d n c (nI i) ≠ C i)) z 0
theorem b_judge (h : K n d hr lw tx F ts tb im sh μ) (x1 x2 : Int32) : Bo (m_X9_judge x1 x2) (m_X10_judge x1 x2) μ := by
  rcases h.told x1 x2 with ⟨s, c, hs, hc, rfl, rfl, hz, hk⟩ | ⟨v, hv, hk⟩
  · have i4 : ix 4 (nI s) = some s := ix_nI hs (by decide)
    refine h.q (v := s_ot d n c (sh_z sh s) (sh_v sh s)) ?_ fun μ' h' => ?_
    · obtain ⟨μ2, e1, e2⟩ := c_fo2 h.rc h.lc hs (show sh_z sh s ≤ 40 by omega) hc (h.2.1.2.2.2.2 s hs).2.2
      refine ⟨μ2, ?_, s2C e2⟩
      unfold m_X9_judge
      rw [(hk μ h).2, ob_some, if_pos rfl, i4, ob_some, ob_some, (h.2.1.2.2.2.2 s hs).2.1, e1, bind2_some]
      rfl
    · obtain ⟨μ2, e1, e2⟩ := m_unl2 h'.rm h'.lm hs (show sh_z sh s ≤ 40 by omega) (h'.2.2.2.2.2.2 s hs).2.1 hc (h'.2.2.2.2.2.2 s hs).2.2
      refine ⟨μ2, ?_, t3M e2⟩
      unfold m_X10_judge
      rw [(hk μ' h').1, ob_some, if_pos rfl, e1, bind2_some]
      rfl
  · exact h.no v (by unfold m_X9_judge; rw [(hk μ h).2, ob_some, if_neg hv]) (by unfold m_X10_judge; rw [(hk μ h).1, ob_some, if_neg hv])
theorem b_where (h : K n d hr lw tx F ts tb im sh μ) (x1 : Int32) : Bo (m_X9_where x1) (m_X10_where x1) μ := by
  rcases h.swr x1 with ⟨s, hs, rfl, hz, hk⟩ | ⟨v, hv, hk⟩
  · refine h.q (v := s_set (fun c => !s_any (fun i => decide (s_fw d n c (nI i) ≠ sh_v sh s i)) (sh_z sh s)) 36) ?_ fun μ' h' => ?_
    · obtain ⟨μ2, e1, e2⟩ := c_whr h.rc h.lc hs (show sh_z sh s ≤ 40 by omega) (h.2.1.2.2.2.2 s hs).2.1 (h.2.1.2.2.2.2 s hs).2.2
      refine ⟨μ2, ?_, s2C e2⟩
      unfold m_X9_where
      rw [(hk μ h).2, ob_some, show s_cell 0 = true by decide, if_pos rfl, if_pos rfl, e1]
    · obtain ⟨μ2, e1, e2⟩ := m_whr h'.rm h'.lm hs (show sh_z sh s ≤ 40 by omega) (h'.2.2.2.2.2.2 s hs).2.1 (h'.2.2.2.2.2.2 s hs).2.2
      refine ⟨μ2, ?_, t3M e2⟩
      unfold m_X10_where
      rw [(hk μ' h').1, ob_some, if_pos rfl, e1]
  · exact h.no (-4611686018427387904) (by unfold m_X9_where; rw [(hk μ h).2, ob_some, if_neg hv]) (by unfold m_X10_where; rw [(hk μ h).1, ob_some, if_neg hv])
end
