/-! ===== text(), both sides ===== -/
def k_W (c1 c2 c3 : List Nat) : Nat → List Nat := fun p => if p = 0 then c1.reverse else if p = 1 then c2.reverse else c3.reverse
theorem kE_1 (c1 c2 c3 : List Nat) : k_E (k_W c1 c2 c3) 1 = c1.length := by simp [k_E, k_W]
theorem kE_2 (c1 c2 c3 : List Nat) : k_E (k_W c1 c2 c3) 2 = (c2 ++ c1).length := by simp [k_E, k_W]; omega
theorem kE_3 (c1 c2 c3 : List Nat) : k_E (k_W c1 c2 c3) 3 = (c3 ++ (c2 ++ c1)).length := by simp [k_E, k_W]; omega
theorem kW_ok {c1 c2 c3 : List Nat} (h1 : Good c1) (h2 : Good c2) (h3 : Good c3) : ∀ p, p < 3 → (∀ nm, ∃ v, e_fw nm (k_W c1 c2 c3 p) [] = some [v]) ∧ ∀ c ∈ k_W c1 c2 c3 p, k_cd c := by
  have one : ∀ c : List Nat, Good c → (∀ nm, ∃ v, e_fw nm c.reverse [] = some [v]) ∧ ∀ q ∈ c.reverse, k_cd q := fun c hc => ⟨fun nm => by
    obtain ⟨v, e⟩ := hc.1 nm []
    exact ⟨v, by rw [← ev_fw]; exact e⟩, fun q hq => hc.2 q (List.mem_reverse.mp hq)⟩
  intro p hp
  have : p = 0 ∨ p = 1 ∨ p = 2 := by omega
  rcases this with rfl | rfl | rfl
  · exact one c1 h1
  · exact one c2 h2
  · exact one c3 h3
theorem kW_fl {m : Nat → Nat} {b : Nat} {c1 c2 c3 : List Nat} {g : Nat → Int32} (h : FL m b (c3 ++ (c2 ++ c1)).reverse g) : ∀ p, p < 3 → FL m (b + k_E (k_W c1 c2 c3) p) (k_W c1 c2 c3 p) g := by
  rw [List.reverse_append, List.reverse_append, List.append_assoc, fl_app, fl_app] at h
  obtain ⟨h1, h2, h3⟩ := h
  intro p hp
  have : p = 0 ∨ p = 1 ∨ p = 2 := by omega
  rcases this with rfl | rfl | rfl
  · exact h1
  · rw [kE_1]
    rw [List.length_reverse] at h2
    exact h2
  · rw [kE_2]
    rw [List.length_reverse, List.length_reverse] at h3
    rw [show b + (c2 ++ c1).length = b + c1.length + c2.length by simp; omega]
    exact h3
section
variable {n hr lw tx ts : Nat} {d : Dt} {F : Nat → Lw} {tb : Nat → Nat} {im : Im} {sh : Sh4} {μ μ2 : ax_M}
def SRX (t k i : Nat) : Bool := SG2 k i || (k == 18 && i == 1) || (k == 1 && i == 0) || k == 3 + t || k == 10 + t
theorem c_rtp {t : Nat} (h : TB ts tb μ) (ht : t < 6) (h1 : μ 1 0 = nI t) : ∃ μ2, Ch (SRX t) μ μ2 ∧ μ2 18 1 = 0 ∧ ((∃ jf, BF (kT tb ts) jf ∧ m_X9_readTape μ = some (-100 - nI (kP tb ts jf), μ2) ∧ μ2 1 0 = nI t) ∨ ∃ c1 c2 c3, BG (kT tb ts) c1 c2 c3 ∧ Good c1 ∧ Good c2 ∧ Good c3 ∧ (c3 ++ (c2 ++ c1)).length ≤ 160 ∧ m_X9_readTape μ = some (nI t, μ2) ∧ μ2 1 0 = nI (t + 1) ∧ TC t (k_tv (k_W c1 c2 c3)) μ2) := by
  obtain ⟨μ3, e1, e2⟩ := c_flt h
  have e1' : Ch (SRX t) μ μ3 := e1.mono fun k i e => by unfold SRX at e; exact (Bool.or_eq_false_iff.mp (Bool.or_eq_false_iff.mp (Bool.or_eq_false_iff.mp (Bool.or_eq_false_iff.mp e).1).1).1).1
  have hb := ps_b (tb := tb) (ts := ts)
  have hts := h.2.1
  rcases e2 with ⟨jf, g1, g2⟩ | ⟨c1, c2, c3, g1, g2, g3, g4, g5, g6, g7, g8, g9, g10⟩
  · refine ⟨ax_w μ3 18 1 0, e1'.w (by simp [SRX]), w_ss, Or.inl ⟨jf, g1, ?_, by rw [w_k (by decide), e1 1 0 rfl]; exact h1⟩⟩
    unfold m_X9_readTape
    have : kP tb ts jf ≤ ts := (pl_b (tb := tb) (hb jf)).2
    rw [g2, bind2_some, if_neg (nm1 (show kP tb ts jf < 2 ^ 31 by omega))]
  · have q23 : q_n 23 = some 160 := by decide
    have q24 : q_n 24 = some 3 := by decide
    have tc : t = 0 ∨ t = 1 ∨ t = 2 ∨ t = 3 ∨ t = 4 ∨ t = 5 := by omega
    have q3 : q_n (3 + t) = some 160 := by rcases tc with rfl | rfl | rfl | rfl | rfl | rfl <;> decide
    have q10 : q_n (10 + t) = some 3 := by rcases tc with rfl | rfl | rfl | rfl | rfl | rfl <;> decide
    have f10 : (ax_w μ3 18 1 0) 1 0 = nI t := by rw [w_k (by decide), e1 1 0 rfl]; exact h1
    have cp1 : ∀ μ : ax_M, q_cp μ 23 0 (3 + t) 0 160 = some (ax_cp μ 23 0 (3 + t) 0 160) := fun μ => by
      unfold q_cp
      rw [q23, q3, ob_some, ob_some, if_neg (by decide)]
      rfl
    have cp2 : ∀ μ : ax_M, q_cp μ 24 0 (10 + t) 0 3 = some (ax_cp μ 24 0 (10 + t) 0 3) := fun μ => by
      unfold q_cp
      rw [q24, q10, ob_some, ob_some, if_neg (by decide)]
      rfl
    have gcp : ∀ (μ : ax_M) (a b z k q : Nat), (ax_cp μ a 0 b 0 z) k q = if k = b ∧ q < z then μ a q else μ k q := fun μ a b z k q => by
      unfold ax_cp va_cpy
      by_cases z1 : k = b
      · by_cases z2 : q < z
        · simp [z1, z2]
        · simp [z1, z2]
      · simp [z1]
    generalize hμ4 : ax_cp (ax_cp (ax_w μ3 18 1 0) 23 0 (3 + t) 0 160) 24 0 (10 + t) 0 3 = μ4
    have r3 : ∀ q, q < 160 → μ4 (3 + t) q = μ3 23 q := fun q hq => by
      rw [← hμ4, gcp, if_neg (by omega), gcp, if_pos ⟨rfl, hq⟩, w_k (by decide)]
    have r10 : ∀ q, q < 3 → μ4 (10 + t) q = μ3 24 q := fun q hq => by
      rw [← hμ4, gcp, if_pos ⟨rfl, hq⟩, gcp, if_neg (by omega), w_k (by decide)]
    have ro : ∀ k q, k ≠ 3 + t → k ≠ 10 + t → μ4 k q = (ax_w μ3 18 1 0) k q := fun k q z1 z2 => by
      rw [← hμ4, gcp, if_neg (fun z => z2 z.1), gcp, if_neg (fun z => z1 z.1)]
    have i6 : ix 6 (nI t) = some t := ix_nI ht (by decide)
    have a10 : (ax_cp (ax_w μ3 18 1 0) 23 0 (3 + t) 0 160) 1 0 = nI t := by rw [gcp, if_neg (by omega)]; exact f10
    have b10 : μ4 1 0 = nI t := by rw [ro 1 0 (by omega) (by omega)]; exact f10
    have hTC : TC t (k_tv (k_W c1 c2 c3)) (ax_w μ4 1 0 (nI (t + 1))) := by
      refine tc_of ht (kW_ok g2 g3 g4) (by rw [kE_3]; exact g7) (fun p hp => ?_) (fun p hp => ?_)
      · rw [w_k (by omega), r10 p hp]
        have : p = 0 ∨ p = 1 ∨ p = 2 := by omega
        rcases this with rfl | rfl | rfl
        · rw [g8, kE_1]
        · rw [g9, kE_2]
        · rw [g10, kE_3]
      · have hf := kW_fl (b := 0) (cls_fl g6) p hp
        rw [Nat.zero_add] at hf
        have hle := e_le (W := k_W c1 c2 c3) hp
        have hl3 : k_E (k_W c1 c2 c3) 3 ≤ 160 := by rw [kE_3]; exact g7
        have hlp : k_E (k_W c1 c2 c3) (p + 1) = k_E (k_W c1 c2 c3) p + (k_W c1 c2 c3 p).length := rfl
        exact hf.fr fun i h1 h2 => by rw [w_k (by omega), r3 i (by omega)]
    refine ⟨ax_w μ4 1 0 (nI (t + 1)), ?_, by rw [w_k (by decide), ro 18 1 (by omega) (by omega), w_ss], Or.inr ⟨c1, c2, c3, g1, g2, g3, g4, g7, ?_, w_ss, hTC⟩⟩
    · intro k i hs
      simp [SRX] at hs
      rw [w_e (by omega), ro k i (by omega) (by omega), w_e (by omega)]
      exact e1 k i hs.1.1.1.1
    · unfold m_X9_readTape m_X7_add
      rw [g5, bind2_some, if_pos rfl, f10, if_pos (by rw [show (6 : Int32) = nI 6 from rfl, nltL (by omega) (by omega)]; exact ht), i6, ob_some, cp1, ob_some, a10, i6, ob_some, cp2, ob_some, hμ4, b10, na1, bind2_some]
theorem m_rtp {t : Nat} (hB : MB ts tb μ) (ht : t < 6) (h9 : μ 51 9 = nI t) {c1 c2 c3 : List Nat} (hg : BG (kT tb ts) c1 c2 c3) (g1 : Good c1) (g2 : Good c2) (g3 : Good c3) (hl : (c3 ++ (c2 ++ c1)).length ≤ 160) : ∃ μ2, m_X10_text μ = some (nI t, μ2) ∧ μ2 51 6 = 0 ∧ μ2 51 9 = nI (t + 1) ∧ TM t (k_tv (k_W c1 c2 c3)) μ2 ∧ Ch (TX t) μ μ2 := by
  obtain ⟨μ2, a1, a2, a3, a4, a5, a6, a7, a8, a9⟩ := (m_txt hB ht h9).2 c1 c2 c3 hg
  refine ⟨μ2, a1, a2, a3, tm_of ht (kW_ok g1 g2 g3) (by rw [kE_3]; omega) (fun p hp => ?_) (fun p hp => kW_fl (ol_fl a4) p hp), a9⟩
  have : p = 0 ∨ p = 1 ∨ p = 2 ∨ p = 3 := by omega
  rcases this with rfl | rfl | rfl | rfl
  · exact a5
  · rw [kE_1]; exact a6
  · rw [kE_2]; exact a7
  · rw [kE_3]; exact a8
theorem b_text (h : K n d hr lw tx F ts tb im sh μ) : Bo m_X9_text m_X10_text μ := by
  have h6 := h.x6
  have c10 : μ 1 0 = nI tx := h.2.1.2.1.1
  have m9 : μ 51 9 = nI tx := h.2.2.2.1.1
  obtain ⟨o1, o2, o3, o4, o5, o6, o7, o8, o9⟩ := h.1
  by_cases e6 : tx = 6
  · refine h.no (-4) ?_ ?_
    · unfold m_X9_text
      rw [c10, if_neg (by rw [e6]; decide)]
    · unfold m_X10_text
      rw [m9, if_pos (by rw [e6]; rfl)]
  · have ht : tx < 6 := by omega
    have hTB : TB ts tb μ := ⟨h.2.1.2.2.1.1, o6, h.2.1.2.2.1.2, o7⟩
    obtain ⟨μ2, a1, a2, a3⟩ := c_rtp hTB ht c10
    have e : ∀ k i, SRX tx k i = false → μ2 k i = μ k i := a1
    have hM : KM n d hr lw tx F ts tb im sh μ2 := h.2.2.fr fun k i p => e k i (by simp [SRX, SG2]; omega)
    have hMB : MB ts tb μ2 := ⟨hM.2.2.1.1, o6, hM.2.2.1.2, o7, hM.2.1.2.2⟩
    obtain ⟨k1, k2, k3, k4, k5⟩ := h.2.1
    obtain ⟨g1, g2, g3, g4, g5⟩ := hM
    have hC1 : KCr n d hr lw μ2 := k1.fr fun k i p q => e k i (by simp [SRX, SG2]; omega)
    have hC4 : KCi im μ2 := k4.fr fun k i p q => e k i (by simp [SRX, SG2]; omega)
    have hC5 : KCs sh μ2 := k5.fr fun k i p q => e k i (by simp [SRX, SG2]; omega)
    have hC3 : KCp 0 tb μ2 := ⟨a2, fun i hi => by omega⟩
    have hcl : ∀ r, m_X9_readTape μ = some r → m_X9_text μ = some r := fun r hr => by
      unfold m_X9_text
      rw [c10, if_pos (by rw [show (6 : Int32) = nI 6 from rfl, nltL (by omega) (by omega)]; exact ht), hr]
      rfl
    have hMk : ∀ μ3, Ch (TX tx) μ2 μ3 → KMr n d hr lw μ3 ∧ KMi im μ3 ∧ KMs sh μ3 := fun μ3 hc => by
      have e' : ∀ k i, TX tx k i = false → μ3 k i = μ2 k i := hc
      exact ⟨g1.fr (fun k i a => e' k i (by simp [TX]; omega)) (e' 51 0 (by simp [TX])) (e' 51 4 (by simp [TX])) (e' 51 10 (by simp [TX])), g4.fr (e' 51 11 (by simp [TX])) (fun k i a => e' k i (by simp [TX]; omega)), g5.fr fun k i a b => e' k i (by simp [TX]; omega)⟩
    have hCk : ∀ μ3, Ch (TX tx) μ2 μ3 → ∀ k i, k < 51 → μ3 k i = μ2 k i := fun μ3 hc k i hk => hc k i (by simp [TX]; omega)
    rcases a3 with ⟨jf, b1, b2, b3⟩ | ⟨c1, c2, c3, b1, b2, b3, b4, b5, b6, b7, b8⟩
    · obtain ⟨μ3, d1, d2, d3, d4⟩ := (m_txt hMB ht g2.1).1 jf b1
      obtain ⟨q1, q2, q3⟩ := hMk μ3 d4
      have e' : ∀ k i, TX tx k i = false → μ3 k i = μ2 k i := d4
      have hC2 : KCt tx F μ2 := by
        refine ⟨b3, fun t htt => (k2.2 t htt).cg (funext fun i => e _ i (by simp [SRX, SG2]; omega)) (funext fun i => e _ i (by simp [SRX, SG2]; omega))⟩
      have hM2 : KMt tx F μ3 := ⟨d3, fun t htt => (g2.2.1 t htt).cg (fun i hi => e' _ _ (by simp [TX]; omega)) (fun i hi => e' _ _ (by simp [TX]; omega)), fun i hi => (e' 64 i (by simp [TX])).trans (g2.2.2 i hi)⟩
      have hCC : KC n d hr lw tx F 0 tb im sh μ2 := ⟨hC1, hC2, hC3, hC4, hC5⟩
      exact ⟨_, μ2, μ3, hcl _ b2, d1, n, d, hr, lw, tx, F, 0, tb, im, sh, ⟨o1, o2, o3, o4, o5, by omega, fun i hi => by omega, o8, o9⟩, hCC.fr h6 (hCk μ3 d4), q1, hM2, ⟨d2, fun i hi => by omega⟩, q2, q3⟩
    · obtain ⟨μ3, d1, d2, d3, dT, d4⟩ := m_rtp hMB ht g2.1 b1 b2 b3 b4 b5
      obtain ⟨q1, q2, q3⟩ := hMk μ3 d4
      have e' : ∀ k i, TX tx k i = false → μ3 k i = μ2 k i := d4
      have hC2 : KCt (tx + 1) (fun u => if u = tx then k_tv (k_W c1 c2 c3) else F u) μ2 := by
        refine ⟨b7, fun t htt => ?_⟩
        dsimp only
        by_cases z : t = tx
        · rw [if_pos z, z]
          exact b8
        · rw [if_neg z]
          exact (k2.2 t (by omega)).cg (funext fun i => e _ i (by simp [SRX, SG2]; omega)) (funext fun i => e _ i (by simp [SRX, SG2]; omega))
      have hM2 : KMt (tx + 1) (fun u => if u = tx then k_tv (k_W c1 c2 c3) else F u) μ3 := by
        refine ⟨d3, fun t htt => ?_, fun i hi => (e' 64 i (by simp [TX])).trans (g2.2.2 i hi)⟩
        dsimp only
        by_cases z : t = tx
        · rw [if_pos z, z]
          exact dT
        · rw [if_neg z]
          exact (g2.2.1 t (by omega)).cg (fun i hi => e' _ _ (by simp [TX]; omega)) (fun i hi => e' _ _ (by simp [TX]; omega))
      have hCC : KC n d hr lw (tx + 1) (fun u => if u = tx then k_tv (k_W c1 c2 c3) else F u) 0 tb im sh μ2 := ⟨hC1, hC2, hC3, hC4, hC5⟩
      have hoi : OKi n (tx + 1) im := by
        rcases o8 with z | ⟨z1, z2, z3, z4, z5⟩
        · exact Or.inl z
        · exact Or.inr ⟨z1, z2, z3, by omega, z5⟩
      exact ⟨_, μ2, μ3, hcl _ b6, d1, n, d, hr, lw, tx + 1, _, 0, tb, im, sh, ⟨o1, by omega, by omega, by rw [if_neg (by omega)]; exact o4, o5, by omega, fun i hi => by omega, hoi, o9⟩, hCC.fr (by omega) (hCk μ3 d4), q1, hM2, ⟨d2, fun i hi => by omega⟩, q2, q3⟩
end
