/-! ===== texts: the model reads a text; both sides ===== -/
section
variable {ts t : Nat} {tb : Nat → Nat} {μ μ2 : ax_M}
def MO (t : Nat) (O : List Nat) (μ : ax_M) : Prop := t < 6 ∧ μ 51 9 = nI t ∧ μ 51 26 = nI O.length ∧ OL (200 * t) O (μ 56) ∧ O.length ≤ 180
def TX (t k i : Nat) : Bool := (k == 51 && (i == 6 || i == 9 || i == 18 || i == 19 || i == 20 || i == 21 || i == 24 || i == 25 || i == 26)) || k == 65 || (k == 56 && (decide (200 * t ≤ i) && decide (i < 200 * t + 200))) || (k == 57 && (decide (4 * t ≤ i) && decide (i < 4 * t + 4)))
def TY (t p k i : Nat) : Bool := TR t k i || (k == 57 && i == 4 * t + p)
theorem tyX {p : Nat} (hp : p < 4) (h : Ch (TY t p) μ μ2) : Ch (TX t) μ μ2 := h.mono fun k i e => by simp [TX, TY, TR] at *; omega
theorem MB.ty {p : Nat} (h : MB ts tb μ) (hc : Ch (TY t p) μ μ2) : MB ts tb μ2 := h.fr (hc 51 6 (by simp [TY, TR])) (fun i => hc 55 i (by simp [TY, TR])) (fun i => hc 64 i (by simp [TY, TR]))
theorem trY {p : Nat} (h : Ch (TR t) μ μ2) : Ch (TY t p) μ μ2 := h.mono fun k i e => by unfold TY at e; exact (Bool.or_eq_false_iff.mp e).1
/-- a part of a text, in the model -/
theorem m_prt {p j : Nat} {O : List Nat} (hp : p < 3) (hB : MB ts tb μ) (hO : MO t O μ) (h18 : μ 51 18 = nI (k_ps tb ts j)) : (∀ j' cs, PK (kT tb ts) p j O j' cs → ∃ μ2, (∀ fl, m_X10_text_26 (fl + 1) 1 (nI p) μ = m_X10_text_26 fl 1 (nI (p + 1)) μ2) ∧ MO t (cs ++ O) μ2 ∧ μ2 51 18 = nI (k_ps tb ts j') ∧ μ2 57 (4 * t + p) = nI O.length ∧ Ch (TY t p) μ μ2) ∧ ∀ jf, PF (kT tb ts) p j O jf → ∃ μ2, (∀ fl, m_X10_text_26 (fl + 1 + 1) 1 (nI p) μ = m_X10_text_101 0 μ2) ∧ μ2 51 19 = nI (kP tb ts jf) ∧ Ch (TY t p) μ μ2 := by
  obtain ⟨o1, o2, o3, o4, o5⟩ := hO
  obtain ⟨μ3, n1, n2, n3, n4, n5, n6⟩ := m_nxt hB h18 (ps_b j)
  have n3' : μ3 51 19 = nI (kP tb ts j) := n3
  have n4' : μ3 51 20 = k_mt (kT tb ts j) := n4
  have n5' : VT (kT tb ts j) (μ3 51 21) := n5
  have hB3 := hB.tn n6
  have hT := tk_v tb ts j
  obtain ⟨-, -, -, -, -, -, -, q3, -⟩ := mt_eq hT
  have f9 : μ3 51 9 = nI t := (n6 51 9 rfl).trans o2
  have f26 : μ3 51 26 = nI O.length := (n6 51 26 rfl).trans o3
  have i24 : ix 24 (nI (4 * t + p)) = some (4 * t + p) := ix_nI (by omega) (by decide)
  have h57 : ∀ (s0 : Int32) (k : Int32 → Int32 → ax_M → Option (Int32 × ax_M)), m_X10_text_60 (nI p) s0 k μ3 = if s0 = 0 then k 0 (nI (p + 1)) (ax_w μ3 57 (4 * t + p) (nI O.length)) else bind2 (m_X10_eRead (ax_w μ3 57 (4 * t + p) (nI O.length))) fun v4 μ6 => if v4 = 0 then k 0 (nI (p + 1)) μ6 else k 1 (nI (p + 1)) μ6 := fun s0 k => by
    unfold m_X10_text_60
    rw [f9, show (4 : Int32) * nI t = nI (4 * t) from pk_mul 4 t, nI_add, i24, ob_some, f26, na1]
  have hch0 : Ch (TY t p) μ (ax_w μ3 57 (4 * t + p) (nI O.length)) := (trY (tnR n6)).w (by simp [TY])
  have np3 : ¬ (3 : Int32) ≤ nI p := by rw [show (3 : Int32) = nI 3 from rfl, nleL (by omega) (by omega)]; omega
  -- the part's E
  have hE : kT tb ts j = 9 + p → ∀ r n, O.length + n < 180 → k_mach (kT tb ts) n (j + 1) true true [] O = some r → (∀ fl, m_X10_text_26 (fl + 1) 1 (nI p) μ = bind2 (m_X10_eRead (ax_w μ3 57 (4 * t + p) (nI O.length))) fun v4 μ6 => if v4 = 0 then m_X10_text_26 fl 0 (nI (p + 1)) μ6 else m_X10_text_26 fl 1 (nI (p + 1)) μ6) ∧ ER t ts tb (ax_w μ3 57 (4 * t + p) (nI O.length)) (m_X10_eRead (ax_w μ3 57 (4 * t + p) (nI O.length))) r := fun z r n hn hm => by
    refine ⟨fun fl => ?_, ?_⟩
    · rw [m_X10_text_26, if_neg np3, if_neg (by decide), n1, ob_some, n4']
      simp only [q3]
      rw [if_pos (by omega), n5'.2.1 (by omega), show kT tb ts j - 9 = p by omega, if_pos rfl, h57, if_neg (by decide)]
    · have hfu : 1000 ≤ fu := by decide
      have hS : MS t [] O (ax_w (ax_w (ax_w μ3 57 (4 * t + p) (nI O.length)) 51 24 0) 51 25 0) := ⟨o1, by rw [w_i (by decide), w_i (by decide), w_k (by decide)]; exact f9, by rw [w_i (by decide), w_ss]; rfl, trivial, w_ss, by rw [w_i (by decide), w_i (by decide), w_k (by decide)]; exact f26, o4.fr fun i _ _ => by rw [w_k (by decide), w_k (by decide), w_k (by decide)]; exact n6 56 i rfl, by simpa using o5, fun s hs => by cases hs⟩
      have hB4 : MB ts tb (ax_w (ax_w (ax_w μ3 57 (4 * t + p) (nI O.length)) 51 24 0) 51 25 0) := hB3.fr (by rw [w_i (by decide), w_i (by decide), w_k (by decide)]) (fun i => by rw [w_k (by decide), w_k (by decide), w_k (by decide)]) (fun i => by rw [w_k (by decide), w_k (by decide), w_k (by decide)])
      have := m_er (t := t) n (j + 1) true true [] O _ fu r hm (by omega) hB4 hS (by rw [w_i (by decide), w_i (by decide), w_k (by decide)]; exact n2) (by simpa using hn)
      exact this.tr ((Ch.rf.w (by simp [TR])).w (by simp [TR]))
  constructor
  · intro j' cs ⟨z, n, hn, hm⟩
    obtain ⟨e1, μ4, a1, a2, a3⟩ := hE z _ n hn hm
    have a3' : μ4 51 18 = nI (k_ps tb ts j') ∧ MS t [] (cs ++ O) μ4 := a3
    obtain ⟨m1, m2, m3, m4, m5, m6, m7, m8, m9⟩ := a3'.2
    refine ⟨μ4, fun fl => ?_, ⟨m1, m2, m6, m7, by simpa using m8⟩, a3'.1, ?_, hch0.tr (trY a2)⟩
    · have a1' : m_X10_eRead (ax_w μ3 57 (4 * t + p) (nI O.length)) = some (1, μ4) := a1
      rw [e1 fl, a1', bind2_some, if_neg (by decide)]
    · rw [a2 57 _ (by simp [TR]), w_ss]
  · intro jf hpf
    have hend : ∀ (fl : Nat) (μ4 : ax_M), m_X10_text_26 (fl + 1) 0 (nI (p + 1)) μ4 = m_X10_text_101 0 μ4 := fun fl μ4 => by
      rw [m_X10_text_26]
      by_cases z : (3 : Int32) ≤ nI (p + 1)
      · rw [if_pos z]
      · rw [if_neg z, if_pos rfl]
    rcases hpf with ⟨z, rfl⟩ | ⟨z, n, hn, hm⟩
    · refine ⟨ax_w μ3 57 (4 * t + p) (nI O.length), fun fl => ?_, by rw [w_k (by decide)]; exact n3', hch0⟩
      rw [m_X10_text_26, if_neg np3, if_neg (by decide), n1, ob_some, n4']
      simp only [q3]
      by_cases z3 : 9 ≤ kT tb ts jf ∧ kT tb ts jf ≤ 11
      · rw [if_pos z3, n5'.2.1 z3, if_neg (by rw [neqL (by omega) (by omega)]; omega), h57, if_pos rfl, hend]
      · rw [if_neg z3, h57, if_pos rfl, hend]
    · obtain ⟨e1, μ4, a1, a2, a3⟩ := hE z _ n hn hm
      refine ⟨μ4, fun fl => ?_, a3, hch0.tr (trY a2)⟩
      have a1' : m_X10_eRead (ax_w μ3 57 (4 * t + p) (nI O.length)) = some (0, μ4) := a1
      rw [e1 (fl + 1), a1', bind2_some, if_pos rfl, hend]
theorem m_fl {v : Int32} (ht : t < 6) (h9 : μ 51 9 = nI t) (h19 : μ 51 19 = v) : ∃ μ2, m_X10_text_122 0 μ = some (-100 - v, μ2) ∧ μ2 51 6 = 0 ∧ μ2 51 9 = nI t ∧ Ch (TX t) μ μ2 := by
  refine ⟨ax_w (ax_w μ 57 (4 * t + 3) (μ 51 26)) 51 6 0, ?_, w_ss, by rw [w_i (by decide), w_k (by decide)]; exact h9, (Ch.rf.w (by simp [TX])).w (by simp [TX])⟩
  unfold m_X10_text_122
  rw [h9, show (4 : Int32) * nI t = nI (4 * t) from pk_mul 4 t, show nI (4 * t) + 3 = nI (4 * t + 3) from nI_add (4 * t) 3, ix_nI (show 4 * t + 3 < 24 by omega) (by decide), ob_some, if_pos rfl, w_i (by decide), w_k (by decide), h19]
theorem m_txt (hB : MB ts tb μ) (ht : t < 6) (h9 : μ 51 9 = nI t) : (∀ jf, BF (kT tb ts) jf → ∃ μ2, m_X10_text μ = some (-100 - nI (kP tb ts jf), μ2) ∧ μ2 51 6 = 0 ∧ μ2 51 9 = nI t ∧ Ch (TX t) μ μ2) ∧ ∀ c1 c2 c3, BG (kT tb ts) c1 c2 c3 → ∃ μ2, m_X10_text μ = some (nI t, μ2) ∧ μ2 51 6 = 0 ∧ μ2 51 9 = nI (t + 1) ∧ OL (200 * t) (c3 ++ (c2 ++ c1)) (μ2 56) ∧ μ2 57 (4 * t + 0) = nI 0 ∧ μ2 57 (4 * t + 1) = nI c1.length ∧ μ2 57 (4 * t + 2) = nI (c2 ++ c1).length ∧ μ2 57 (4 * t + 3) = nI (c3 ++ (c2 ++ c1)).length ∧ Ch (TX t) μ μ2 := by
  have hfs : fu = 999994 + 1 + 1 + 1 + 1 + 1 + 1 := rfl
  have hc0 : Ch (TX t) μ (ax_w (ax_w μ 51 18 0) 51 26 0) := (Ch.rf.w (by simp [TX])).w (by simp [TX])
  have hB0 : MB ts tb (ax_w (ax_w μ 51 18 0) 51 26 0) := hB.fr (by rw [w_i (by decide), w_i (by decide)]) (fun i => by rw [w_k (by decide), w_k (by decide)]) (fun i => by rw [w_k (by decide), w_k (by decide)])
  have hO0 : MO t [] (ax_w (ax_w μ 51 18 0) 51 26 0) := ⟨ht, by rw [w_i (by decide), w_i (by decide)]; exact h9, w_ss, trivial, by simp⟩
  have h18 : (ax_w (ax_w μ 51 18 0) 51 26 0) 51 18 = nI (k_ps tb ts 0) := by rw [w_i (by decide), w_ss]; rfl
  have htx : ∀ r, m_X10_text_26 fu 1 (nI 0) (ax_w (ax_w μ 51 18 0) 51 26 0) = r → m_X10_text μ = r := fun r hr => by
    unfold m_X10_text
    rw [h9, if_neg (by rw [show (6 : Int32) = nI 6 from rfl, neqL (by omega) (by omega)]; omega)]
    exact hr
  obtain ⟨k0, f0⟩ := m_prt (show 0 < 3 by omega) hB0 hO0 h18
  -- behind a fault
  have bad : ∀ (jf : Nat) (μ4 : ax_M), m_X10_text_26 fu 1 (nI 0) (ax_w (ax_w μ 51 18 0) 51 26 0) = m_X10_text_101 0 μ4 → μ4 51 19 = nI (kP tb ts jf) → μ4 51 9 = nI t → Ch (TX t) μ μ4 → ∃ μ2, m_X10_text μ = some (-100 - nI (kP tb ts jf), μ2) ∧ μ2 51 6 = 0 ∧ μ2 51 9 = nI t ∧ Ch (TX t) μ μ2 := fun jf μ4 e1 e2 e3 e4 => by
    obtain ⟨μ5, a1, a2, a3, a4⟩ := m_fl ht e3 e2
    refine ⟨μ5, htx _ ?_, a2, a3, e4.tr a4⟩
    rw [e1]
    unfold m_X10_text_101
    rw [if_pos rfl, a1]
  have h9' : ∀ {p : Nat} {μ3 μ4 : ax_M}, Ch (TY t p) μ3 μ4 → μ4 51 9 = μ3 51 9 := fun hc => hc 51 9 (by simp [TY, TR])
  constructor
  · intro jf hbf
    rcases hbf with hbf | ⟨j1, c1, g1, hbf⟩ | ⟨j1, c1, j2, c2, g1, g2, hbf⟩ | ⟨j1, c1, j2, c2, j3, c3, g1, g2, g3, hne, rfl⟩
    · obtain ⟨μ4, a1, a2, a3⟩ := f0 jf hbf
      exact bad jf μ4 (by rw [hfs]; exact a1 _) a2 ((h9' a3).trans hO0.2.1) (hc0.tr (tyX (by omega) a3))
    · obtain ⟨μ4, a1, a2, a3, a4, a5⟩ := k0 j1 c1 g1
      rw [List.append_nil] at a2
      obtain ⟨-, f1⟩ := m_prt (show 1 < 3 by omega) (hB0.ty a5) a2 a3
      obtain ⟨μ5, b1, b2, b3⟩ := f1 jf hbf
      exact bad jf μ5 (by rw [hfs, a1]; exact b1 _) b2 ((h9' b3).trans a2.2.1) ((hc0.tr (tyX (by omega) a5)).tr (tyX (by omega) b3))
    · obtain ⟨μ4, a1, a2, a3, a4, a5⟩ := k0 j1 c1 g1
      rw [List.append_nil] at a2
      obtain ⟨k1, -⟩ := m_prt (show 1 < 3 by omega) (hB0.ty a5) a2 a3
      obtain ⟨μ5, b1, b2, b3, b4, b5⟩ := k1 j2 c2 g2
      obtain ⟨-, f2⟩ := m_prt (show 2 < 3 by omega) ((hB0.ty a5).ty b5) b2 b3
      obtain ⟨μ6, d1, d2, d3⟩ := f2 jf hbf
      exact bad jf μ6 (by rw [hfs, a1, b1]; exact d1 _) d2 ((h9' d3).trans b2.2.1) (((hc0.tr (tyX (by omega) a5)).tr (tyX (by omega) b5)).tr (tyX (by omega) d3))
    · obtain ⟨μ4, a1, a2, a3, a4, a5⟩ := k0 j1 c1 g1
      rw [List.append_nil] at a2
      obtain ⟨k1, -⟩ := m_prt (show 1 < 3 by omega) (hB0.ty a5) a2 a3
      obtain ⟨μ5, b1, b2, b3, b4, b5⟩ := k1 j2 c2 g2
      obtain ⟨k2, -⟩ := m_prt (show 2 < 3 by omega) ((hB0.ty a5).ty b5) b2 b3
      obtain ⟨μ6, d1, d2, d3, d4, d5⟩ := k2 jf c3 g3
      obtain ⟨μ7, n1, n2, n3, n4, n5, n6⟩ := m_nxt (((hB0.ty a5).ty b5).ty d5) d3 (ps_b jf)
      have n4' : μ7 51 20 = k_mt (kT tb ts jf) := n4
      obtain ⟨-, -, -, -, -, -, -, -, q0⟩ := mt_eq (tk_v tb ts jf)
      obtain ⟨μ8, l1, l2, l3, l4⟩ := m_fl (v := nI (kP tb ts jf)) ht ((n6 51 9 rfl).trans d2.2.1) n3
      refine ⟨μ8, htx _ ?_, l2, l3, ((((hc0.tr (tyX (by omega) a5)).tr (tyX (by omega) b5)).tr (tyX (by omega) d5)).tr (tyX (p := 0) (by omega) (trY (tnR n6)))).tr l4⟩
      rw [hfs, a1, b1, d1, m_X10_text_26, if_pos (by decide)]
      unfold m_X10_text_101
      rw [if_neg (by decide), n1, ob_some, n4']
      simp only [q0]
      rw [if_neg hne, l1]
  · intro c1 c2 c3 ⟨j1, j2, j3, g1, g2, g3, h21⟩
    obtain ⟨μ4, a1, a2, a3, a4, a5⟩ := k0 j1 c1 g1
    rw [List.append_nil] at a2
    obtain ⟨k1, -⟩ := m_prt (show 1 < 3 by omega) (hB0.ty a5) a2 a3
    obtain ⟨μ5, b1, b2, b3, b4, b5⟩ := k1 j2 c2 g2
    obtain ⟨k2, -⟩ := m_prt (show 2 < 3 by omega) ((hB0.ty a5).ty b5) b2 b3
    obtain ⟨μ6, d1, d2, d3, d4, d5⟩ := k2 j3 c3 g3
    obtain ⟨μ7, n1, n2, n3, n4, n5, n6⟩ := m_nxt (((hB0.ty a5).ty b5).ty d5) d3 (ps_b j3)
    have n4' : μ7 51 20 = k_mt (kT tb ts j3) := n4
    obtain ⟨-, -, -, -, -, -, -, -, q0⟩ := mt_eq (tk_v tb ts j3)
    have f9 : μ7 51 9 = nI t := (n6 51 9 rfl).trans d2.2.1
    have f26 : μ7 51 26 = nI (c3 ++ (c2 ++ c1)).length := (n6 51 26 rfl).trans d2.2.2.1
    have hc7 := (((hc0.tr (tyX (by omega) a5)).tr (tyX (by omega) b5)).tr (tyX (by omega) d5)).tr (tyX (t := t) (p := 0) (by omega) (trY (tnR n6)))
    refine ⟨ax_w (ax_w (ax_w μ7 57 (4 * t + 3) (nI (c3 ++ (c2 ++ c1)).length)) 51 6 0) 51 9 (nI (t + 1)), htx _ ?_, by rw [w_i (by decide), w_ss], w_ss, ?_, ?_, ?_, ?_, ?_, ((hc7.w (by simp [TX])).w (by simp [TX])).w (by simp [TX])⟩
    · rw [hfs, a1, b1, d1, m_X10_text_26, if_pos (by decide)]
      unfold m_X10_text_101
      rw [if_neg (by decide), n1, ob_some, n4']
      simp only [q0]
      rw [if_pos h21]
      unfold m_X10_text_122
      have g9 : ∀ v, (ax_w (ax_w μ7 57 (4 * t + 3) v) 51 6 0) 51 9 = nI t := fun v => by rw [w_i (by decide), w_k (by decide)]; exact f9
      rw [f9, show (4 : Int32) * nI t = nI (4 * t) from pk_mul 4 t, show nI (4 * t) + 3 = nI (4 * t + 3) from nI_add (4 * t) 3, ix_nI (show 4 * t + 3 < 24 by omega) (by decide), ob_some, if_neg (by decide), f26, g9, na1, w_ss, nI_pred]
    · exact d2.2.2.2.1.fr fun i _ _ => by rw [w_k (by decide), w_k (by decide), w_k (by decide)]; exact n6 56 i rfl
    · rw [w_k (by decide), w_k (by decide), w_i (by omega), n6 57 _ rfl, d5 57 _ (by simp [TY, TR]), b5 57 _ (by simp [TY, TR])]
      exact a4
    · rw [w_k (by decide), w_k (by decide), w_i (by omega), n6 57 _ rfl, d5 57 _ (by simp [TY, TR])]
      exact b4
    · rw [w_k (by decide), w_k (by decide), w_i (by omega), n6 57 _ rfl]
      exact d4
    · rw [w_k (by decide), w_k (by decide), w_ss]
end
