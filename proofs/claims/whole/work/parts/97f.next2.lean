/-! ===== texts: the model's next token, whole ===== -/
section
variable {ts : Nat} {tb : Nat → Nat} {μ μ2 : ax_M}
theorem sgn_c : ∀ b : Fin 256, k_so b.val = 0 → (if nI b.val = 40 then (1 : Int32) else if nI b.val = 41 then 1 else if nI b.val = 59 then 1 else if nI b.val = 43 then 1 else if nI b.val = 45 then 1 else if nI b.val = 42 then 1 else if nI b.val = 60 then 1 else if nI b.val = 61 then 1 else 0) = (if k_sig b.val = 22 then 0 else 1) ∧ k_mt (k_sig b.val) = (if k_sig b.val = 22 then -1 else nI b.val) := by decide +kernel
theorem mn_52 (h : MB ts tb μ) {st : Nat} (h18 : μ 51 18 = nI st) (hst : st ≤ ts) : ∃ μ2, m_X10_next_52 μ = some μ2 ∧ μ2 51 18 = nI (if st = ts then ts else k_end tb ts st) ∧ μ2 51 19 = nI st ∧ μ2 51 20 = k_mt (if st = ts then 21 else k_tok tb st (k_end tb ts st)) ∧ VT (if st = ts then 21 else k_tok tb st (k_end tb ts st)) (μ2 51 21) ∧ Ch TN μ μ2 := by
  have hμ0 : ∀ k i, ¬ (k = 51 ∧ (i = 19 ∨ i = 20 ∨ i = 21)) → (ax_w (ax_w (ax_w μ 51 19 (μ 51 18)) 51 20 0) 51 21 0) k i = μ k i := fun k i hk => by rw [w_e (by omega), w_e (by omega), w_e (by omega)]
  have g19 : (ax_w (ax_w (ax_w μ 51 19 (μ 51 18)) 51 20 0) 51 21 0) 51 19 = nI st := by rw [w_i (by decide), w_i (by decide), w_ss, h18]
  have g20 : (ax_w (ax_w (ax_w μ 51 19 (μ 51 18)) 51 20 0) 51 21 0) 51 20 = 0 := by rw [w_i (by decide), w_ss]
  have g21 : (ax_w (ax_w (ax_w μ 51 19 (μ 51 18)) 51 20 0) 51 21 0) 51 21 = 0 := w_ss
  unfold m_X10_next_52
  generalize ax_w (ax_w (ax_w μ 51 19 (μ 51 18)) 51 20 0) 51 21 0 = μ1 at *
  have hch : Ch TN μ μ1 := fun k i hk => hμ0 k i (by simp [TN] at hk; omega)
  have hB1 : MB ts tb μ1 := h.tn hch
  have g18 : μ1 51 18 = nI st := (hμ0 51 18 (by omega)).trans h18
  have hB1' := hB1
  obtain ⟨h1, h2, h3, h4, -⟩ := hB1'
  rw [g18, h1]
  simp only [show (nI st = nI ts) = (st = ts) from neqL (by omega) (by omega)]
  by_cases e : st = ts
  · rw [if_pos e, if_pos e, if_pos e]
    exact ⟨μ1, rfl, by rw [g18, e], g19, g20, ⟨fun z => by omega, fun z => by omega, fun z => by omega⟩, hch⟩
  · have hlt : st < ts := by omega
    have hb := h4 st hlt
    obtain ⟨e1, e2, e3⟩ := end_b (tb := tb) hlt
    rw [if_neg e, if_neg e, if_neg e, ix_nI (show st < 160 by omega) (by decide), ob_some, h3 st hlt, m_in, ob_some, in_so1 hb, m_in, ob_some, in_so2 hb]
    have hfu : 1000 ≤ fu := by decide
    have hso := so_lt (tb st)
    by_cases c1 : k_so (tb st) = 1
    · rw [if_neg (by simp [c1, bI])]
      obtain ⟨μ2, a1, a2, a3⟩ := mn_103 hB1 (ts - st) st fu μ1 (by omega) (by omega) g18 (fun k i _ => rfl)
      have hE : k_run tb 1 (ts - st) st = k_end tb ts st := by
        unfold k_end
        rw [if_neg (by omega), c1, show ts - st = (ts - (st + 1)) + 1 by omega, k_run, if_pos c1]
      rw [hE] at a2
      have hB2 : MB ts tb μ2 := hB1.fr (a3 51 6 (by omega)) (fun i => a3 55 i (by omega)) (fun i => a3 64 i (by omega))
      have hT : k_tok tb st (k_end tb ts st) = k_word tb st (k_end tb ts st) := by
        unfold k_tok
        rw [if_pos c1]
      have hw := word_c tb st (k_end tb ts st)
      obtain ⟨v, v1, v2⟩ := mt_word (t := k_word tb st (k_end tb ts st)) (by omega) _ rfl μ2
      refine ⟨ax_w (ax_w μ2 51 20 (k_mt (k_word tb st (k_end tb ts st)))) 51 21 v, ?_, ?_, ?_, ?_, ?_, ?_⟩
      · rw [a1]
        unfold m_X10_next_146
        rw [a2, a3 51 19 (by omega), g19, mw_from hB2 e1 e2, ob_some, mw_word e1 (fun q x y => by rw [e3 (by omega) q x y, c1])]
        exact v2
      · rw [w_i (by decide), w_i (by decide)]
        exact a2
      · rw [w_i (by decide), w_i (by decide), a3 51 19 (by omega)]
        exact g19
      · rw [w_i (by decide), w_ss, hT]
      · rw [w_ss, hT]
        exact v1
      · intro k i hk
        simp [TN] at hk
        rw [w_e (by omega), w_e (by omega), a3 k i (by omega)]
        exact hch k i (by simp [TN]; omega)
    · rw [if_pos (by simp [c1, bI])]
      by_cases c2 : k_so (tb st) = 2
      · rw [if_neg (by simp [c2, bI])]
        obtain ⟨μ2, q2, a1, a2, a3, a4, a5⟩ := mn_230 hB1 (st := st) (ts - st) 0 fu μ1 (by omega) (by omega) g18 g21 (fun r x y => by omega) (fun k i _ => rfl)
        have hE : k_run tb 2 (ts - st) (st + 0) = k_end tb ts st := by
          unfold k_end
          rw [if_neg (by omega), c2, Nat.add_zero, show ts - st = (ts - (st + 1)) + 1 by omega, k_run, if_pos c2]
        rw [hE] at a2
        have hq : q2 = k_end tb ts st - st := by omega
        have hT : k_tok tb st (k_end tb ts st) = if k_end tb ts st - st ≤ 4 then 23 + k_dig tb st (k_end tb ts st - st) else 22 := by
          unfold k_tok
          rw [if_neg c1, if_pos c2]
        rw [show m_X10_next_230 fu 0 μ1 = _ from a1]
        unfold m_X10_next_309
        simp only [show (nI q2 ≤ 4) = (q2 ≤ 4) from nleL (k := 4) (by omega) (by decide)]
        have hfr : ∀ x, Ch TN μ (ax_w μ2 51 20 x) := fun x k i hk => by
          simp [TN] at hk
          rw [w_e (by omega), a5 k i (by omega)]
          exact hch k i (by simp [TN]; omega)
        have k18 : ∀ x, (ax_w μ2 51 20 x) 51 18 = nI (k_end tb ts st) := fun x => by rw [w_i (by decide), a3, a2]
        have k19 : ∀ x, (ax_w μ2 51 20 x) 51 19 = nI st := fun x => by rw [w_i (by decide), a5 51 19 (by omega), g19]
        have k21 : ∀ x, (ax_w μ2 51 20 x) 51 21 = nI (if q2 ≤ 4 then k_dig tb st q2 else 0) := fun x => by rw [w_i (by decide), a4]
        rw [hT, ← hq]
        by_cases c3 : q2 ≤ 4
        · rw [if_pos c3, if_pos c3]
          refine ⟨_, rfl, k18 _, k19 _, ?_, ?_, hfr _⟩
          · rw [w_ss]
            unfold k_mt
            repeat' rw [if_neg (by omega)]
          · rw [k21, if_pos c3]
            exact ⟨fun z => by omega, fun z => by omega, fun _ => by rw [Nat.add_sub_cancel_left]⟩
        · rw [if_neg c3, if_neg c3]
          refine ⟨_, rfl, k18 _, k19 _, ?_, ?_, hfr _⟩
          · rw [w_ss]
            rfl
          · exact ⟨fun z => by omega, fun z => by omega, fun z => by omega⟩
      · rw [if_pos (by simp [c2, bI])]
        have c0 : k_so (tb st) = 0 := by omega
        have hE : k_end tb ts st = st + 1 := by
          unfold k_end
          rw [if_pos c0]
        have hT : k_tok tb st (k_end tb ts st) = k_sig (tb st) := by
          unfold k_tok
          rw [if_neg c1, if_neg c2]
        obtain ⟨s1, s2⟩ := sgn_c ⟨tb st, by omega⟩ c0
        have hmer : ∀ (f : Int32 → Option ax_M), (if nI (tb st) = 40 then f 1 else if nI (tb st) = 41 then f 1 else if nI (tb st) = 59 then f 1 else if nI (tb st) = 43 then f 1 else if nI (tb st) = 45 then f 1 else if nI (tb st) = 42 then f 1 else if nI (tb st) = 60 then f 1 else if nI (tb st) = 61 then f 1 else f 0) = f (if k_sig (tb st) = 22 then 0 else 1) := fun f => by
          rw [← s1]
          repeat' split
          all_goals first | rfl | (simp_all; done)
        rw [hmer (fun x => m_X10_next_379 (nI (tb st)) x μ1), hT]
        have hsg := sig_c (tb st)
        have hfin : m_X10_next_379 (nI (tb st)) (if k_sig (tb st) = 22 then 0 else 1) μ1 = some (ax_w (ax_w μ1 51 20 (k_mt (k_sig (tb st)))) 51 18 (nI (st + 1))) := by
          unfold m_X10_next_379 m_X10_next_390
          have w18 : ∀ x, (ax_w μ1 51 20 x) 51 18 = nI st := fun x => by rw [w_i (by decide)]; exact g18
          simp only [w18, na1]
          have s2' : k_mt (k_sig (tb st)) = if k_sig (tb st) = 22 then -1 else nI (tb st) := s2
          rw [s2']
          by_cases z : k_sig (tb st) = 22
          · rw [if_pos z, if_pos z, if_pos rfl]
          · rw [if_neg z, if_neg z, if_neg (by decide)]
        refine ⟨_, hfin, by rw [w_ss, hE], ?_, ?_, ⟨fun z => by omega, fun z => by omega, fun z => by omega⟩, ?_⟩
        · rw [w_i (by decide), w_i (by decide)]
          exact g19
        · rw [w_i (by decide), w_ss]
        · intro k i hk
          simp [TN] at hk
          rw [w_e (by omega), w_e (by omega)]
          exact hch k i (by simp [TN]; omega)
theorem m_nxt (h : MB ts tb μ) {p : Nat} (h18 : μ 51 18 = nI p) (hp : p ≤ ts) : ∃ μ2, m_X10_next μ = some μ2 ∧ μ2 51 18 = nI (k_nx tb ts p) ∧ μ2 51 19 = nI (k_pl tb ts p) ∧ μ2 51 20 = k_mt (k_tk tb ts p) ∧ VT (k_tk tb ts p) (μ2 51 21) ∧ Ch TN μ μ2 := by
  have hfu : 1000 ≤ fu := by decide
  have h2 := h.2.1
  have key : ∀ (m p fl : Nat) (μ1 : ax_M), p + m = ts → m < fl → MB ts tb μ1 → μ1 51 18 = nI p → Ch TN μ μ1 → ∃ μ2 μ3, m_X10_next_0 fl μ1 = m_X10_next_52 μ3 ∧ m_X10_next_52 μ3 = some μ2 ∧ μ2 51 18 = nI (k_nx tb ts p) ∧ μ2 51 19 = nI (k_pl tb ts p) ∧ μ2 51 20 = k_mt (k_tk tb ts p) ∧ VT (k_tk tb ts p) (μ2 51 21) ∧ Ch TN μ μ2 := by
    intro m
    induction m with
    | zero =>
      intro p fl μ1 hp hfl hB h18 hch
      obtain ⟨fl, rfl⟩ : ∃ k2, fl = k2 + 1 := ⟨fl - 1, by omega⟩
      obtain ⟨μ2, a1, a2, a3, a4, a5, a6⟩ := mn_52 hB h18 (by omega)
      have hpl : k_pl tb ts p = p := by
        unfold k_pl
        rw [show ts - p = 0 by omega]
        rfl
      have hN : k_nx tb ts p = if p = ts then ts else k_end tb ts p := by unfold k_nx; rw [hpl]
      have hT : k_tk tb ts p = if p = ts then 21 else k_tok tb p (k_end tb ts p) := by unfold k_tk; rw [hpl]
      refine ⟨μ2, μ1, ?_, a1, by rw [hN]; exact a2, by rw [hpl]; exact a3, by rw [hT]; exact a4, by rw [hT]; exact a5, hch.tr a6⟩
      rw [m_X10_next_0, h18, hB.1, if_pos (by rw [nleL (by omega) (by omega)]; omega)]
    | succ m ih =>
      intro p fl μ1 hp hfl hB h18 hch
      obtain ⟨fl, rfl⟩ : ∃ k2, fl = k2 + 1 := ⟨fl - 1, by omega⟩
      have hb := hB.2.2.2.1 p (by omega)
      have t32 : (nI (tb p) = 32) = (tb p = 32) := neqL (k := 32) (by omega) (by decide)
      have t10 : (nI (tb p) = 10) = (tb p = 10) := neqL (k := 10) (by omega) (by decide)
      have hsk : k_pl tb ts p = if tb p = 32 ∨ tb p = 10 then k_pl tb ts (p + 1) else p := by
        unfold k_pl
        rw [show ts - p = (ts - (p + 1)) + 1 by omega, k_skp]
      rw [m_X10_next_0, h18, hB.1, if_neg (by rw [nleL (by omega) (by omega)]; omega), ix_nI (show p < 160 by omega) (by decide), ob_some, ob_some, hB.2.2.1 p (by omega)]
      unfold m_X10_next_39
      rw [h18, na1]
      simp only [t32, t10]
      by_cases z : tb p = 32 ∨ tb p = 10
      · have hc1 : Ch TN μ1 (ax_w μ1 51 18 (nI (p + 1))) := Ch.rf.w rfl
        have hrec := ih (p + 1) fl (ax_w μ1 51 18 (nI (p + 1))) (by omega) (by omega) (hB.tn hc1) w_ss (hch.tr hc1)
        have hpl : k_pl tb ts p = k_pl tb ts (p + 1) := by rw [hsk, if_pos z]
        have hN : k_nx tb ts p = k_nx tb ts (p + 1) := by unfold k_nx; rw [hpl]
        have hT : k_tk tb ts p = k_tk tb ts (p + 1) := by unfold k_tk; rw [hpl]
        rw [hN, hT, hpl]
        by_cases z1 : tb p = 32
        · rw [if_pos z1]
          exact hrec
        · rw [if_neg z1, if_pos (by omega)]
          exact hrec
      · rw [if_neg (fun w => z (Or.inl w)), if_neg (fun w => z (Or.inr w))]
        obtain ⟨μ2, a1, a2, a3, a4, a5, a6⟩ := mn_52 hB h18 (by omega)
        have hpl : k_pl tb ts p = p := by rw [hsk, if_neg z]
        have hN : k_nx tb ts p = if p = ts then ts else k_end tb ts p := by unfold k_nx; rw [hpl]
        have hT : k_tk tb ts p = if p = ts then 21 else k_tok tb p (k_end tb ts p) := by unfold k_tk; rw [hpl]
        exact ⟨μ2, μ1, rfl, a1, by rw [hN]; exact a2, by rw [hpl]; exact a3, by rw [hT]; exact a4, by rw [hT]; exact a5, hch.tr a6⟩
  obtain ⟨μ2, μ3, a1, a2, a3⟩ := key (ts - p) p fu μ (by omega) (by omega) h h18 Ch.rf
  exact ⟨μ2, by unfold m_X10_next; rw [a1, a2], a3⟩
end
