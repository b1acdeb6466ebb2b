/-! ===== sheets: sheet, cell, copy, film ===== -/
def s_shu (h : Sh4) (s : Nat) (o : Int32) (z : Nat) (v : Nat → Int32) : Sh4 := (fun k => if k = s then o else sh_o h k, fun k => if k = s then z else sh_z h k, fun k => if k = s then v else sh_v h k)
def Ss (s k i : Nat) : Bool := SC k i || (k == 49 && i == s) || (k == 50 && i == s) || k == 45 + s
def Ts (s k i : Nat) : Bool := SM k i || (k == 60 && i == s) || (k == 61 && i == s) || (k == 62 && (decide (40 * s ≤ i) && decide (i < 40 * s + 40)))
section
variable {n hr lw tx ts : Nat} {d : Dt} {F : Nat → Lw} {tb : Nat → Nat} {im : Im} {sh : Sh4} {μ μ2 μ3 : ax_M}
theorem KCs.up {s z : Nat} {o : Int32} {v : Nat → Int32} (h : KCs sh μ) (hs : s < 4) (h1 : μ2 49 s = o) (h2 : μ2 50 s = nI z) (h3 : ∀ i, i < z → μ2 (45 + s) i = v i) (hc : Ch (Ss s) μ μ2) : KCs (s_shu sh s o z v) μ2 := by
  intro k hk
  show μ2 49 k = (if k = s then o else sh_o sh k) ∧ μ2 50 k = nI (if k = s then z else sh_z sh k) ∧ ∀ i, i < (if k = s then z else sh_z sh k) → μ2 (45 + k) i = (if k = s then v else sh_v sh k) i
  by_cases e : k = s
  · subst e
    rw [if_pos rfl, if_pos rfl, if_pos rfl]
    exact ⟨h1, h2, h3⟩
  · rw [if_neg e, if_neg e, if_neg e]
    obtain ⟨a1, a2, a3⟩ := h k hk
    refine ⟨(hc 49 k (by simp [Ss, SC]; omega)).trans a1, (hc 50 k (by simp [Ss, SC]; omega)).trans a2, fun i hi => (hc (45 + k) i (by simp [Ss, SC]; omega)).trans (a3 i hi)⟩
theorem KMs.up {s z : Nat} {o : Int32} {v : Nat → Int32} (h : KMs sh μ) (hok : OKs sh) (hs : s < 4) (h1 : μ2 60 s = o) (h2 : μ2 61 s = nI z) (h3 : ∀ i, i < z → μ2 62 (40 * s + i) = v i) (hc : Ch (Ts s) μ μ2) : KMs (s_shu sh s o z v) μ2 := by
  intro k hk
  show μ2 60 k = (if k = s then o else sh_o sh k) ∧ μ2 61 k = nI (if k = s then z else sh_z sh k) ∧ ∀ i, i < (if k = s then z else sh_z sh k) → μ2 62 (40 * k + i) = (if k = s then v else sh_v sh k) i
  by_cases e : k = s
  · subst e
    rw [if_pos rfl, if_pos rfl, if_pos rfl]
    exact ⟨h1, h2, h3⟩
  · rw [if_neg e, if_neg e, if_neg e]
    obtain ⟨a1, a2, a3⟩ := h k hk
    have hz := (hok k hk).2
    refine ⟨(hc 60 k (by simp [Ts, SM]; omega)).trans a1, (hc 61 k (by simp [Ts, SM]; omega)).trans a2, fun i hi => (hc 62 (40 * k + i) (by simp [Ts, SM]; omega)).trans (a3 i hi)⟩
theorem OKs.up {s z : Nat} {o : Int32} {v : Nat → Int32} (h : OKs sh) (ho : o = -1 ∨ o = 0 ∨ o = 1 ∨ o = 2) (hz : z ≤ 40) : OKs (s_shu sh s o z v) := by
  intro k hk
  show ((if k = s then o else sh_o sh k) = -1 ∨ _) ∧ (if k = s then z else sh_z sh k) ≤ 40
  by_cases e : k = s
  · show ((if k = s then o else sh_o sh k) = -1 ∨ (if k = s then o else sh_o sh k) = 0 ∨ (if k = s then o else sh_o sh k) = 1 ∨ (if k = s then o else sh_o sh k) = 2) ∧ _
    rw [if_pos e, if_pos e]
    exact ⟨ho, hz⟩
  · show ((if k = s then o else sh_o sh k) = -1 ∨ (if k = s then o else sh_o sh k) = 0 ∨ (if k = s then o else sh_o sh k) = 1 ∨ (if k = s then o else sh_o sh k) = 2) ∧ _
    rw [if_neg e, if_neg e]
    exact h k hk
theorem KM.offs {s : Nat} (hs : s < 4) (h : KM n d hr lw tx F ts tb im sh μ) (hc : Ch (Ss s) μ μ2) : KM n d hr lw tx F ts tb im sh μ2 := h.fr fun k i a => hc k i (by simp [Ss, SC]; omega)
theorem K.ups {s z : Nat} {o : Int32} {v : Nat → Int32} (h : K n d hr lw tx F ts tb im sh μ) (hs : s < 4) (c1 : μ2 49 s = o) (c2 : μ2 50 s = nI z) (c3 : ∀ i, i < z → μ2 (45 + s) i = v i) (hc : Ch (Ss s) μ μ2) (m1 : μ3 60 s = o) (m2 : μ3 61 s = nI z) (m3 : ∀ i, i < z → μ3 62 (40 * s + i) = v i) (hm : Ch (Ts s) μ2 μ3) (ho : o = -1 ∨ o = 0 ∨ o = 1 ∨ o = 2) (hz : z ≤ 40) : K n d hr lw tx F ts tb im (s_shu sh s o z v) μ3 := by
  have hok := h.1.2.2.2.2.2.2.2.2
  have hM := h.2.2.offs hs hc
  obtain ⟨h1, h2, h3, h4, h5⟩ := h.2.1
  obtain ⟨g1, g2, g3, g4, g5⟩ := hM
  have e : ∀ k i, Ss s k i = false → μ2 k i = μ k i := hc
  have e' : ∀ k i, Ts s k i = false → μ3 k i = μ2 k i := hm
  have hC : KC n d hr lw tx F ts tb im (s_shu sh s o z v) μ2 := ⟨h1.fr fun k i a b => e k i (by simp [Ss, SC]; omega), h2.fr (e 1 0 (by simp [Ss, SC]; omega)) (fun k i a b => e k i (by simp [Ss, SC]; omega)) h.x6, h3.fr (e 18 1 (by simp [Ss, SC]; omega)) fun i => e 19 i (by simp [Ss, SC]; omega), h4.fr fun k i a b => e k i (by simp [Ss, SC]; omega), h5.up hs c1 c2 c3 hc⟩
  have hM2 : KM n d hr lw tx F ts tb im (s_shu sh s o z v) μ3 := ⟨g1.fr (fun k i a => e' k i (by simp [Ts, SM]; omega)) (e' 51 0 (by simp [Ts, SM])) (e' 51 4 (by simp [Ts, SM])) (e' 51 10 (by simp [Ts, SM])), g2.fr (e' 51 9 (by simp [Ts, SM])) (fun i => e' 56 i (by simp [Ts, SM])) (fun i => e' 57 i (by simp [Ts, SM])) (fun i => e' 64 i (by simp [Ts, SM])), g3.fr (e' 51 6 (by simp [Ts, SM])) fun i => e' 55 i (by simp [Ts, SM]), g4.fr (e' 51 11 (by simp [Ts, SM])) (fun k i a => e' k i (by simp [Ts, SM]; omega)), g5.up hok hs m1 m2 m3 hm⟩
  exact ⟨⟨h.1.1, h.1.2.1, h.1.2.2.1, h.1.2.2.2.1, h.1.2.2.2.2.1, h.1.2.2.2.2.2.1, h.1.2.2.2.2.2.2.1, h.1.2.2.2.2.2.2.2.1, hok.up ho hz⟩, hC.fr h.x6 fun k i a => e' k i (by simp [Ts, SM]; omega), hM2⟩
theorem m_s70 {s : Nat} (hs : s < 4) (μ : ax_M) : ∃ μ2, m_X10_sheet_70 (nI s) fu 0 μ = some (1, μ2) ∧ (∀ i, i < 40 → μ2 62 (40 * s + i) = 0) ∧ ∀ k i, ¬ (k = 62 ∧ 40 * s ≤ i ∧ i < 40 * s + 40) → μ2 k i = μ k i := by
  obtain ⟨b, hb, hq⟩ := loopK (N := 40) (fun k i (a : ax_M) => m_X10_sheet_70 (nI s) k (nI i) a) (fun i a => (∀ j, j < i → a 62 (40 * s + j) = 0) ∧ ∀ k i, ¬ (k = 62 ∧ 40 * s ≤ i ∧ i < 40 * s + 40) → a k i = μ k i) (fun a => some (1, a)) (by omega)
    (fun k i a hi hI => by
      obtain ⟨h1, h2⟩ := hI
      have e40 : (40 : Int32) * nI s + nI i = nI (40 * s + i) := by
        rw [show (40 : Int32) * nI s = nI (40 * s) from pk_mul 40 s, nI_add]
      show ∃ a2, m_X10_sheet_70 (nI s) (k + 1) (nI i) a = _ ∧ _
      rw [m_X10_sheet_70, if_neg (by rw [show (40 : Int32) = nI 40 from rfl, nleL (by omega) (by omega)]; omega), e40, ix_nI (show 40 * s + i < 160 by omega) (by decide), ob_some, na1]
      refine ⟨_, rfl, fun j hj => ?_, fun k j hk => ?_⟩
      · by_cases e : j = i
        · rw [e, w_ss]
        · rw [w_i (by omega)]
          exact h1 j (by omega)
      · rw [w_e (by omega)]
        exact h2 k j hk)
    (fun k a hI => by
      show m_X10_sheet_70 (nI s) (k + 1) (nI 40) a = _
      rw [m_X10_sheet_70, if_pos (by decide)])
    μ ⟨fun j hj => by omega, fun k i _ => rfl⟩
  exact ⟨b, hq, hb.1, hb.2⟩
theorem argS (x : Int32) : (∃ o : Int32, x = o ∧ (o = 0 ∨ o = 1 ∨ o = 2)) ∨ x = -1 ∨ (s_in x (-1) 2 = false ∧ ¬ x = -1 ∧ (x < -1 ∨ (¬ x < -1 ∧ ¬ x < 3))) := by
  by_cases h1 : x = -1
  · exact Or.inr (Or.inl h1)
  · rcases argb x 2 2 3 rfl rfl (by decide) with ⟨p, hp, rfl, -⟩ | ⟨b0, b1⟩
    · exact Or.inl ⟨nI p, rfl, x012 hp⟩
    · refine Or.inr (Or.inr ?_)
      have m1 : (-1 : Int32).toInt = -1 := by decide
      have z0 : (0 : Int32).toInt = 0 := by decide
      have h1' : ¬ x.toInt = -1 := fun z => h1 (Int32.toInt_inj.mp (z.trans m1.symm))
      rcases b1 with b | ⟨b2, b3, b4, b5, b6⟩
      · have hx : x < -1 := by
          rw [Int32.lt_iff_toInt_lt] at b ⊢
          omega
        exact ⟨by simp [s_in, hx], h1, Or.inl hx⟩
      · have hx : ¬ x < -1 := by
          rw [Int32.lt_iff_toInt_lt] at b2 ⊢
          omega
        exact ⟨by simp [s_in, b6], h1, Or.inr ⟨hx, b4⟩⟩
theorem shS {s : Nat} (h : Ch (Sh s) μ μ2) : Ch (Ss s) μ μ2 := h.mono fun k i e => by simp [Ss, SC, Sh] at *; omega
theorem b_sheet (h : K n d hr lw tx F ts tb im sh μ) (x1 x2 x3 : Int32) : Bo (m_X9_sheet x1 x2 x3) (m_X10_sheet x1 x2 x3) μ := by
  rcases argb x1 3 3 4 rfl rfl (by decide) with ⟨s, hs, rfl, g1, g2, g3, g4, g5, g6⟩ | ⟨b0, b1⟩
  · have hs4 : s < 4 := by omega
    have i4 : ix 4 (nI s) = some s := ix_nI hs4 (by decide)
    have fin : ∀ (o : Int32) (z : Nat), z ≤ 40 → (o = -1 ∨ o = 0 ∨ o = 1 ∨ o = 2) → (∀ μ : ax_M, m_X9_sheet (nI s) x2 x3 μ = (m_X4_renew (nI s) o (nI z) μ).bind fun μ8 => some (1, μ8)) → (∀ μ : ax_M, m_X10_sheet (nI s) x2 x3 μ = m_X10_sheet_70 (nI s) fu 0 (ax_w (ax_w μ 60 s o) 61 s (nI z))) → Bo (m_X9_sheet (nI s) x2 x3) (m_X10_sheet (nI s) x2 x3) μ := by
      intro o z hz ho hc hm
      obtain ⟨μ2, e1, e2, e3, e4, e5⟩ := c_ren (μ := μ) hs4 hz o
      obtain ⟨μ3, f1, f2, f3⟩ := m_s70 hs4 (ax_w (ax_w μ2 60 s o) 61 s (nI z))
      refine ⟨1, μ2, μ3, by rw [hc, e1, ob_some], by rw [hm, f1], (h.ups (v := fun _ => 0) hs4 e2 e3 e4 (shS e5) ?_ ?_ (fun i hi => f2 i (by omega)) ?_ ho hz).x⟩
      · rw [f3 60 s (by omega), w_k (by decide), w_ss]
      · rw [f3 61 s (by omega), w_ss]
      · intro k i hk
        simp [Ts, SM] at hk
        rw [f3 k i (by omega), w_e (by omega), w_e (by omega)]
    rcases argS x2 with ⟨o, rfl, ho⟩ | rfl | ⟨t0, t1, t2⟩
    · have ho' : ¬ x2 < -1 ∧ x2 < 3 ∧ ¬ x2 = -1 ∧ s_in x2 (-1) 2 = true := by rcases ho with rfl | rfl | rfl <;> decide
      obtain ⟨o1, o2, o3, o4⟩ := ho'
      by_cases h40 : x3 ≤ 40
      · by_cases h0 : x3 < 0
        · have h0' : ¬ (0 : Int32) ≤ x3 := Int32.not_le.mpr h0
          refine h.no (-14) ?_ ?_
          · unfold m_X9_sheet
            rw [if_neg g2, if_neg g3, if_neg o1, if_pos o2, if_neg o3, if_pos h40, if_neg h0']
          · unfold m_X10_sheet m_X10_sheet_32
            rw [m_in, g1, ob_some, if_neg (by decide), m_in, o4, ob_some, if_neg (by decide), if_neg o3, if_pos h40, if_neg o3, if_neg h0']
        · obtain ⟨z, hz, rfl⟩ := nI_of h0
          have hz40 : z ≤ 40 := by rw [show (40 : Int32) = nI 40 from rfl, nleL hz (by omega)] at h40; exact h40
          have h0' : (0 : Int32) ≤ nI z := nI_pos' hz
          refine fin x2 z hz40 (Or.inr ho) (fun μ => ?_) (fun μ => ?_)
          · unfold m_X9_sheet
            rw [if_neg g2, if_neg g3, if_neg o1, if_pos o2, if_neg o3, if_pos h40, if_pos h0']
          · unfold m_X10_sheet m_X10_sheet_32 m_X10_sheet_44
            rw [m_in, g1, ob_some, if_neg (by decide), m_in, o4, ob_some, if_neg (by decide), if_neg o3, if_pos h40, if_neg o3, if_pos h0', i4, ob_some, if_neg o3, ob_some]
      · refine h.no (-2) ?_ ?_
        · unfold m_X9_sheet
          rw [if_neg g2, if_neg g3, if_neg o1, if_pos o2, if_neg o3, if_neg h40]
        · unfold m_X10_sheet
          rw [m_in, g1, ob_some, if_neg (by decide), m_in, o4, ob_some, if_neg (by decide), if_neg o3, if_neg h40]
    · refine fin (-1) 0 (by omega) (Or.inl rfl) (fun μ => ?_) (fun μ => ?_)
      · unfold m_X9_sheet
        rw [if_neg g2, if_neg g3, if_neg (by decide), if_pos (by decide), if_pos rfl]
        rfl
      · unfold m_X10_sheet m_X10_sheet_32 m_X10_sheet_44
        rw [m_in, g1, ob_some, if_neg (by decide), m_in, show s_in (-1) (-1) 2 = true by decide, ob_some, if_neg (by decide), if_pos rfl, if_pos rfl, i4, ob_some, if_pos rfl, ob_some]
        rfl
    · refine h.no (-2) ?_ ?_
      · unfold m_X9_sheet
        rw [if_neg g2, if_neg g3]
        rcases t2 with t | ⟨t3, t4⟩
        · rw [if_pos t]
        · rw [if_neg t3, if_neg t4]
      · unfold m_X10_sheet
        rw [m_in, g1, ob_some, if_neg (by decide), m_in, t0, ob_some, if_pos (by decide)]
  · exact h.no (-2) (by rcases b1 with b | ⟨b2, b3, b4, b5, b6⟩ <;> simp [m_X9_sheet, *]) (by simp [m_X10_sheet, m_in, b0, bI])
theorem in_pred {z : Nat} (hz : z < 2 ^ 31) (x : Int32) : s_in x 0 (nI z - 1) = s_rug z x := by
  unfold s_in s_rug
  by_cases h1 : x < 0
  · simp [h1]
  · obtain ⟨j, hj, rfl⟩ := nI_of h1
    have e2 : (nI z - 1 < nI j) = (nI z ≤ nI j) := by
      cases z with
      | zero =>
        apply propext
        constructor
        · intro _
          exact nI_le (by omega) hj
        · intro _
          rw [Int32.lt_iff_toInt_lt, nI_toInt hj]
          have : (nI 0 - 1).toInt = -1 := by decide
          omega
      | succ z =>
        rw [nI_pred, nltL (by omega) hj, nleL (by omega) hj]
        exact propext ⟨fun h => by omega, fun h => by omega⟩
    simp only [e2]
/-- what a sheet of a sort makes of a number -/
def s_nw (o v : Int32) : Int32 := if o = 0 then v.toInt8.toInt32 else if o = 1 then v.toInt16.toInt32 else v
theorem b_cell (h : K n d hr lw tx F ts tb im sh μ) (x1 x2 x3 : Int32) : Bo (m_X9_cell x1 x2 x3) (m_X10_cell x1 x2 x3) μ := by
  rcases argb x1 3 3 4 rfl rfl (by decide) with ⟨s, hs, rfl, g1, g2, g3, g4, g5, g6⟩ | ⟨b0, b1⟩
  · have hs4 : s < 4 := by omega
    have i4 : ix 4 (nI s) = some s := ix_nI hs4 (by decide)
    obtain ⟨hso, hsz⟩ := h.1.2.2.2.2.2.2.2.2 s hs4
    obtain ⟨c1, c2, c3⟩ := h.2.1.2.2.2.2 s hs4
    obtain ⟨m1, m2, m3⟩ := h.2.2.2.2.2.2 s hs4
    by_cases e : sh_o sh s = -1
    · refine h.no (-11) ?_ ?_
      · unfold m_X9_cell
        rw [h.refuses hs4, ob_some, if_pos e, if_neg (by decide)]
      · unfold m_X10_cell
        rw [m_in, g1, ob_some, if_neg (by decide), i4, ob_some, m1, if_pos e]
    · cases hr' : s_rug (sh_z sh s) x2 with
      | false =>
        refine h.no (-12) ?_ ?_
        · unfold m_X9_cell
          rw [h.refuses hs4, ob_some, if_neg e, if_pos rfl, i4, ob_some, c2]
          unfold s_rug at hr'
          by_cases h0 : x2 < 0
          · rw [if_pos h0]
          · rw [if_neg h0]
            have : nI (sh_z sh s) ≤ x2 := by
              simp [h0] at hr'
              exact hr'
            rw [if_neg (Int32.not_lt.mpr this)]
        · unfold m_X10_cell
          rw [m_in, g1, ob_some, if_neg (by decide), i4, ob_some, m1, if_neg e, ob_some, m2, m_in, in_pred (by omega), hr', ob_some, if_pos (by decide)]
      | true =>
        have hr2 := hr'
        unfold s_rug at hr2
        simp only [Bool.and_eq_true, decide_eq_true_eq] at hr2
        obtain ⟨j, hj, rfl⟩ := isN hr2.1 hr2.2 (by omega)
        have e40 : (40 : Int32) * nI s + nI j = nI (40 * s + j) := by
          rw [show (40 : Int32) * nI s = nI (40 * s) from pk_mul 40 s, nI_add]
        have i160 : ix 160 (nI (40 * s + j)) = some (40 * s + j) := ix_nI (by omega) (by decide)
        have hC : Ch (Ss s) μ (ax_w μ (45 + s) j (s_nw (sh_o sh s) x3)) := Ch.rf.w (by simp [Ss])
        have hM := h.2.2.offs hs4 hC
        obtain ⟨n1, n2, n3'⟩ := hM.2.2.2.2 s hs4
        refine ⟨1, ax_w μ (45 + s) j (s_nw (sh_o sh s) x3), ax_w (ax_w μ (45 + s) j (s_nw (sh_o sh s) x3)) 62 (40 * s + j) (s_nw (sh_o sh s) x3), ?_, ?_, (h.ups (o := sh_o sh s) (z := sh_z sh s) (v := fun i => if i = j then s_nw (sh_o sh s) x3 else sh_v sh s i) hs4 ?_ ?_ (fun i hi => ?_) hC ?_ ?_ (fun i hi => ?_) (Ch.rf.w (by simp [Ts]; omega)) hso hsz).x⟩
        · have qq : ∀ v, q_st μ (45 + s) (nI j) v = some (ax_w μ (45 + s) j v) := fun v => q_st45 hs4 (by omega)
          have hlt : nI j < nI (sh_z sh s) := by rw [nltL (by omega) (by omega)]; exact hj
          unfold m_X9_cell m_X4_write
          rw [h.refuses hs4, ob_some, if_neg e, if_pos rfl, if_neg hr2.1, i4]
          simp only [ob_some, c1, c2, qq]
          rw [if_pos hlt]
          unfold s_nw
          by_cases z0 : sh_o sh s = 0
          · rw [if_pos z0, if_pos z0, ob_some]
          · by_cases z1 : sh_o sh s = 1
            · rw [if_neg z0, if_neg z0, if_pos z1, if_pos z1, ob_some]
            · rw [if_neg z0, if_neg z0, if_neg z1, if_neg z1, ob_some]
        · unfold m_X10_cell
          rw [m_in, g1, ob_some, if_neg (by decide), i4]
          simp only [ob_some, n1, n2]
          rw [if_neg e, m_in, in_pred (by omega), hr', ob_some, if_neg (by decide), e40, i160]
          simp only [ob_some]
          generalize ax_w μ (45 + s) j (s_nw (sh_o sh s) x3) = μ9
          unfold s_nw
          by_cases z0 : sh_o sh s = 0
          · rw [if_pos z0, if_pos z0]
          · by_cases z1 : sh_o sh s = 1
            · rw [if_neg z0, if_neg z0, if_pos z1, if_pos z1]
            · rw [if_neg z0, if_neg z0, if_neg z1, if_neg z1]
        · rw [w_k (by omega)]
          exact c1
        · rw [w_k (by omega)]
          exact c2
        · by_cases z : i = j
          · rw [z, w_ss, if_pos rfl]
          · rw [w_i z, if_neg z]
            exact c3 i hi
        · rw [w_k (by decide)]
          exact n1
        · rw [w_k (by decide)]
          exact n2
        · by_cases z : i = j
          · rw [z, w_ss, if_pos rfl]
          · rw [w_i (by omega), if_neg z]
            exact n3' i hi
  · refine h.no (-2) ?_ (by simp [m_X10_cell, m_in, b0, bI])
    unfold m_X9_cell m_X4_refuses
    rcases b1 with b | ⟨b2, b3, b4, b5, b6⟩ <;> simp [*]
end
