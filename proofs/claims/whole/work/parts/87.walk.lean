/-! ===== walks, both sides ===== -/
def s_bes (p q : Nat) : Bool := decide (((p % 6 - q % 6) + (q % 6 - p % 6)) + ((p / 6 - q / 6) + (q / 6 - p / 6)) = 1)
theorem c_bes0 : ∀ p q : Fin 36, (if (abI (rmI (nI p.val) 6 - rmI (nI q.val) 6)) + (abI (nI p.val / 6 - nI q.val / 6)) = 1 then some (1 : Int32) else some 0) = some (bI (s_bes p.val q.val)) := by decide +kernel
theorem c_bes {p q : Nat} (hp : p < 36) (hq : q < 36) (μ : ax_M) : m_X9_areBeside (nI p) (nI q) μ = some (bI (s_bes p q)) := c_bes0 ⟨p, hp⟩ ⟨q, hq⟩
theorem m_wo {a b : Nat} (ha : a < 2 ^ 31) (hb : b < 2 ^ 31) (μ : ax_M) : m_X10_without0 (nI a) (nI b) μ = some (nI ((a - b) + (b - a))) := by
  unfold m_X10_without0
  simp only [nltL ha hb, nleL hb ha, nltL hb ha, nleL ha hb]
  by_cases e : a < b
  · have e2 : ¬ b ≤ a := by omega
    simp only [if_pos e, if_neg e2, pk_sub (show a ≤ b by omega)]
    congr 2
    omega
  · have e2 : b ≤ a := by omega
    simp only [if_neg e, if_pos e2, pk_sub e2]
    congr 2
    omega
theorem m_bes {p q : Nat} (hp : p < 36) (hq : q < 36) (μ : ax_M) : m_X10_isBeside (nI q) (nI p) μ = some (bI (s_bes p q)) := by
  unfold m_X10_isBeside
  rw [nr6 (by omega), nr6 (by omega), nd6 (by omega), nd6 (by omega)]
  simp only [m_wo (show q % 6 < 2 ^ 31 by omega) (show p % 6 < 2 ^ 31 by omega), m_wo (show q / 6 < 2 ^ 31 by omega) (show p / 6 < 2 ^ 31 by omega), ob_some]
  rw [nI_add]
  simp only [show ∀ a : Nat, a < 2 ^ 31 → ((nI a = 1) = (a = 1)) from fun a ha => neqL (k := 1) ha (by decide), show q % 6 - p % 6 + (p % 6 - q % 6) + (q / 6 - p / 6 + (p / 6 - q / 6)) < 2 ^ 31 by omega]
  unfold s_bes bI
  by_cases e : q % 6 - p % 6 + (p % 6 - q % 6) + (q / 6 - p / 6 + (p / 6 - q / 6)) = 1
  · have e2 : ((p % 6 - q % 6) + (q % 6 - p % 6)) + ((p / 6 - q / 6) + (q / 6 - p / 6)) = 1 := by omega
    simp [e, e2]
  · have e2 : ¬ ((p % 6 - q % 6) + (q % 6 - p % 6)) + ((p / 6 - q / 6) + (q / 6 - p / 6)) = 1 := by omega
    simp [e, e2]
/-- whether the sheet's number i can stand in a walk -/
def s_wk (C : Nat → Int32) (i : Nat) : Bool := s_cell (C i) && (decide (i = 0) || s_bes (C (i - 1)).toNatClampNeg (C i).toNatClampNeg)
theorem wk_cell {C : Nat → Int32} {i : Nat} (h : s_wk C i = true) : ∃ c, c < 36 ∧ C i = nI c ∧ (C i).toNatClampNeg = c := by
  unfold s_wk at h
  simp only [Bool.and_eq_true] at h
  obtain ⟨c, hc, e⟩ := cell_of h.1
  exact ⟨c, hc, e, by rw [e]; exact nI_clamp (by omega)⟩
def s_bad (f : Nat → Bool) : Nat → Nat → Bool
  | 0, _ => false
  | m + 1, i => if f i then s_bad f m (i + 1) else true
theorem s_bad_t {f : Nat → Bool} {m i : Nat} (h : f i = true) : s_bad f (m + 1) i = s_bad f m (i + 1) := by rw [s_bad, if_pos h]
theorem s_bad_f {f : Nat → Bool} {m i : Nat} (h : f i = false) : s_bad f (m + 1) i = true := by rw [s_bad, if_neg (by simp [h])]
theorem bad_no {f : Nat → Bool} : ∀ {m i : Nat}, s_bad f m i = false → ∀ j, i ≤ j → j < i + m → f j = true
  | 0, i, _, j, h1, h2 => by omega
  | m + 1, i, h, j, h1, h2 => by
    unfold s_bad at h
    split at h
    · rename_i e
      by_cases z : j = i
      · rw [z]; exact e
      · exact bad_no h j (by omega) (by omega)
    · cases h
section
variable {n hr lw tx ts : Nat} {d : Dt} {F : Nat → Lw} {tb : Nat → Nat} {im : Im} {sh : Sh4} {μ μ2 : ax_M}
theorem c_wlk {s z : Nat} {C : Nat → Int32} (hs : s < 4) (hz : z ≤ 40) (hC : ∀ i, i < z → μ (45 + s) i = C i) : m_X9_isWalk (45 + s) (nI z) μ = some (bI (!s_bad (s_wk C) z 0)) := by
  have key : ∀ (m i k : Nat), i + m = z → m < k → (∀ j, j < i → s_wk C j = true) → m_X9_isWalk_2 (45 + s) (nI z) μ k (nI i) = some (bI (!s_bad (s_wk C) m i)) := by
    intro m
    induction m with
    | zero =>
      intro i k hi hk hlo
      obtain ⟨k, rfl⟩ : ∃ k2, k = k2 + 1 := ⟨k - 1, by omega⟩
      have : i = z := by omega
      subst this
      rw [m_X9_isWalk_2, if_pos (Int32.le_refl _)]
      rfl
    | succ m ih =>
      intro i k hi hk hlo
      obtain ⟨k, rfl⟩ : ∃ k2, k = k2 + 1 := ⟨k - 1, by omega⟩
      have hln : q_len (45 + s) = some (nI 40) := by
        unfold q_len
        rw [q_n45 hs]
        rfl
      rw [m_X9_isWalk_2, if_neg (by rw [nleL (by omega) (by omega)]; omega), hln, ob_some, if_neg (by rw [nleL (by omega) (by omega)]; omega), q_ld45 hs (by omega), ob_some, hC i (by omega), c_cel, ob_some]
      cases hc : s_cell (C i) with
      | false =>
        have hw : s_wk C i = false := by simp [s_wk, hc]
        rw [if_pos (by decide), s_bad, if_neg (by simp [hw])]
        rfl
      | true =>
        rw [if_neg (by decide)]
        obtain ⟨c, hc36, hci⟩ := cell_of hc
        simp only [show (nI i ≤ 0) = (i ≤ 0) from nleL (k := 0) (by omega) (by decide)]
        by_cases e0 : i = 0
        · subst e0
          have hw : s_wk C 0 = true := by simp [s_wk, hc]
          rw [if_pos (Nat.le_refl 0), na1, ih 1 k (by omega) (by omega) (fun j hj => by
            have : j = 0 := by omega
            rw [this]; exact hw), s_bad, if_pos hw]
        · obtain ⟨c2, hc2, hci2, hcl⟩ := wk_cell (hlo (i - 1) (by omega))
          rw [if_neg (by omega), show nI i - 1 = nI (i - 1) from pk_sub (b := 1) (by omega), q_ld45 hs (by omega), ob_some, hC (i - 1) (by omega), ob_some, hci2, hci, c_bes hc2 hc36, ob_some, na1]
          have hw : s_wk C i = s_bes c2 c := by
            unfold s_wk
            rw [hcl, hc, hci, nI_clamp (by omega)]
            simp [e0]
          cases hb : s_bes c2 c with
          | false =>
            rw [if_pos (by decide), s_bad, if_neg (by simp [hw, hb])]
            rfl
          | true =>
            rw [if_neg (by decide), ih (i + 1) k (by omega) (by omega) (fun j hj => by
              by_cases z : j = i
              · rw [z, hw, hb]
              · exact hlo j (by omega)), s_bad, if_pos (by rw [hw, hb])]
  have hfu : 1000 ≤ fu := by decide
  exact key z 0 fu (by omega) (by omega) (fun j hj => by omega)
theorem m_wlk {s z : Nat} {C : Nat → Int32} (hs : s < 4) (hz : z ≤ 40) (h61 : μ 61 s = nI z) (hC : ∀ i, i < z → μ 62 (40 * s + i) = C i) : m_X10_walkWrong_27 (nI s) μ fu 0 = some (if s_bad (s_wk C) z 0 then -2 else 0) := by
  have key : ∀ (m i k : Nat), i + m = z → m < k → (∀ j, j < i → s_wk C j = true) → m_X10_walkWrong_27 (nI s) μ k (nI i) = some (if s_bad (s_wk C) m i then -2 else 0) := by
    intro m
    induction m with
    | zero =>
      intro i k hi hk hlo
      obtain ⟨k, rfl⟩ : ∃ k2, k = k2 + 1 := ⟨k - 1, by omega⟩
      have : i = z := by omega
      subst this
      rw [m_X10_walkWrong_27, ix_nI hs (by decide), ob_some, h61, if_pos (Int32.le_refl _)]
      rfl
    | succ m ih =>
      intro i k hi hk hlo
      obtain ⟨k, rfl⟩ : ∃ k2, k = k2 + 1 := ⟨k - 1, by omega⟩
      have e40 : (40 : Int32) * nI s + nI i = nI (40 * s + i) := by
        rw [show (40 : Int32) * nI s = nI (40 * s) from pk_mul 40 s, nI_add]
      rw [m_X10_walkWrong_27, ix_nI hs (by decide), ob_some, h61, if_neg (by rw [nleL (by omega) (by omega)]; omega), e40, ix_nI (show 40 * s + i < 160 by omega) (by decide), ob_some, hC i (by omega), m_cel, ob_some]
      unfold m_X10_walkWrong_83
      cases hc : s_cell (C i) with
      | false =>
        have hw : s_wk C i = false := by simp [s_wk, hc]
        rw [if_pos (by decide), if_pos (by decide), s_bad_f hw, if_pos rfl]
      | true =>
        rw [if_neg (by decide)]
        obtain ⟨c, hc36, hci⟩ := cell_of hc
        simp only [show (nI i ≤ 0) = (i ≤ 0) from nleL (k := 0) (by omega) (by decide)]
        by_cases e0 : i = 0
        · subst e0
          have hw : s_wk C 0 = true := by simp [s_wk, hc]
          rw [if_pos (Nat.le_refl 0), if_neg (by decide), na1, ih 1 k (by omega) (by omega) (fun j hj => by
            have : j = 0 := by omega
            rw [this]; exact hw), s_bad_t hw]
        · obtain ⟨c2, hc2, hci2, hcl⟩ := wk_cell (hlo (i - 1) (by omega))
          rw [if_neg (by omega), show nI (40 * s + i) - 1 = nI (40 * s + (i - 1)) from by rw [show 40 * s + (i - 1) = 40 * s + i - 1 by omega]; exact pk_sub (b := 1) (by omega), ix_nI (show 40 * s + (i - 1) < 160 by omega) (by decide), ob_some, hC (i - 1) (by omega), hci2, hci, m_bes hc2 hc36, ob_some, na1]
          have hw : s_wk C i = s_bes c2 c := by
            unfold s_wk
            rw [hcl, hc, hci, nI_clamp (by omega)]
            simp [e0]
          cases hb : s_bes c2 c with
          | false => rw [if_pos (by decide), s_bad_f (hw.trans hb), if_pos rfl]
          | true =>
            rw [if_neg (by decide), ih (i + 1) k (by omega) (by omega) (fun j hj => by
              by_cases z : j = i
              · rw [z, hw, hb]
              · exact hlo j (by omega)), s_bad_t (hw.trans hb)]
  have hfu : 1000 ≤ fu := by decide
  exact key z 0 fu (by omega) (by omega) (fun j hj => by omega)
/-- the cells of a walk on a sheet -/
def s_wv (sh : Sh4) (s j : Nat) : Nat := (sh_v sh s j).toNatClampNeg
theorem K.wlk (h : K n d hr lw tx F ts tb im sh μ) (x1 : Int32) : (∃ s, s < 4 ∧ x1 = nI s ∧ sh_z sh s ≤ 40 ∧ (∀ j, j < sh_z sh s → s_wv sh s j < 36 ∧ sh_v sh s j = nI (s_wv sh s j)) ∧ ∀ μ', K n d hr lw tx F ts tb im sh μ' → m_X9_refusesWalk x1 μ' = some 0 ∧ m_X10_walkWrong x1 μ' = some 0) ∨ ∃ v : Int32, v ≠ 0 ∧ ∀ μ', K n d hr lw tx F ts tb im sh μ' → m_X9_refusesWalk x1 μ' = some v ∧ m_X10_walkWrong x1 μ' = some v := by
  rcases argb x1 3 3 4 rfl rfl (by decide) with ⟨s, hs, rfl, g1, g2, g3, g4, g5, g6⟩ | ⟨b0, b1⟩
  · have hs4 : s < 4 := by omega
    have i4 : ix 4 (nI s) = some s := ix_nI hs4 (by decide)
    have hz40 := (h.1.2.2.2.2.2.2.2.2 s hs4).2
    by_cases e : sh_o sh s = -1
    · refine Or.inr ⟨-11, by decide, fun μ' h' => ⟨?_, ?_⟩⟩
      · unfold m_X9_refusesWalk
        rw [h'.refuses hs4, ob_some, if_pos e, if_neg (by decide)]
      · unfold m_X10_walkWrong
        rw [m_in, ob_some, g1, if_neg (by decide), i4, ob_some, (h'.2.2.2.2.2.2 s hs4).1, if_pos e]
    · have hcl : ∀ μ', K n d hr lw tx F ts tb im sh μ' → m_X9_refusesWalk (nI s) μ' = some (if s_bad (s_wk (sh_v sh s)) (sh_z sh s) 0 then -2 else 0) := fun μ' h' => by
        unfold m_X9_refusesWalk
        rw [h'.refuses hs4, ob_some, if_neg e, if_pos rfl, i4, ob_some, ob_some, (h'.2.1.2.2.2.2 s hs4).2.1, c_wlk hs4 hz40 (h'.2.1.2.2.2.2 s hs4).2.2, ob_some]
        cases s_bad (s_wk (sh_v sh s)) (sh_z sh s) 0 <;> rfl
      have hml : ∀ μ', K n d hr lw tx F ts tb im sh μ' → m_X10_walkWrong (nI s) μ' = some (if s_bad (s_wk (sh_v sh s)) (sh_z sh s) 0 then -2 else 0) := fun μ' h' => by
        unfold m_X10_walkWrong
        rw [m_in, ob_some, g1, if_neg (by decide), i4, ob_some, (h'.2.2.2.2.2.2 s hs4).1, if_neg e]
        exact m_wlk hs4 hz40 (h'.2.2.2.2.2.2 s hs4).2.1 (h'.2.2.2.2.2.2 s hs4).2.2
      cases hb : s_bad (s_wk (sh_v sh s)) (sh_z sh s) 0 with
      | true =>
        rw [hb] at hcl hml
        exact Or.inr ⟨-2, by decide, fun μ' h' => ⟨hcl μ' h', hml μ' h'⟩⟩
      | false =>
        rw [hb] at hcl hml
        refine Or.inl ⟨s, hs4, rfl, hz40, fun j hj => ?_, fun μ' h' => ⟨hcl μ' h', hml μ' h'⟩⟩
        obtain ⟨c, c1, c2, c3⟩ := wk_cell (bad_no hb j (by omega) (by omega))
        unfold s_wv
        rw [c3]
        exact ⟨c1, c2⟩
  · refine Or.inr ⟨-2, by decide, fun μ' h' => ⟨?_, ?_⟩⟩
    · unfold m_X9_refusesWalk m_X4_refuses
      rcases b1 with b | ⟨b2, b3, b4, b5, b6⟩ <;> simp [*]
    · unfold m_X10_walkWrong
      rw [m_in, ob_some, b0, if_pos (by decide)]
/-- the first step at which one is not let on -/
def s_sto (d : Dt) (n hr : Nat) (w : Nat → Nat) (z : Nat) : Option Nat := s_idx (fun i => s_stp d (RR d n hr) (s_pv w i) (w i) (nI hr)) z 0
theorem K.cgo (h : K n d hr lw tx F ts tb im sh μ) {s : Nat} (hs : s < 4) (hz : sh_z sh s ≤ 40) (hw : ∀ j, j < sh_z sh s → s_wv sh s j < 36 ∧ sh_v sh s j = nI (s_wv sh s j)) : ∃ μ1 μ2, m_X0_look μ = some μ1 ∧ m_X9_goThrough (nI s) μ1 = some (rI (s_sto d n hr (s_wv sh s) (sh_z sh s)), μ2) ∧ JT n (RR d n hr) (fun c => s_fat d (RR d n hr c) c (nI hr)) (s_wv sh s) (s_til (s_sto d n hr (s_wv sh s) (sh_z sh s)) (sh_z sh s)) μ2 ∧ Ch SC μ μ2 := by
  obtain ⟨μ1, e1, e2, e3, e4, e5⟩ := h.look
  obtain ⟨μ2, f1, f2, f3⟩ := c_thru e2.rc e2.lc e4 e5 (fun c r => RRn) hs hz (e2.2.1.2.2.2.2 s hs).2.1 (fun j hj => ⟨(hw j hj).1, by rw [(e2.2.1.2.2.2.2 s hs).2.2 j hj]; exact (hw j hj).2⟩)
  rw [e2.h2] at f1 f2
  exact ⟨μ1, μ2, e1, f1, f2, e3.tr (s5C f3)⟩
theorem K.mgo (h : K n d hr lw tx F ts tb im sh μ) {s : Nat} (hs : s < 4) (hz : sh_z sh s ≤ 40) (hw : ∀ j, j < sh_z sh s → s_wv sh s j < 36 ∧ sh_v sh s j = nI (s_wv sh s j)) : ∃ μ2, m_X10_goesOver (nI s) μ = some μ2 ∧ μ2 51 30 = rI (s_sto d n hr (s_wv sh s) (sh_z sh s)) ∧ JM n (RR d n hr) (fun c => s_fat d (RR d n hr c) c (nI hr)) (s_wv sh s) (s_til (s_sto d n hr (s_wv sh s) (sh_z sh s)) (sh_z sh s)) μ2 ∧ Ch SM μ μ2 := by
  obtain ⟨μ2, e1, e2, e3, e4⟩ := m_thru (w := s_wv sh s) h.rm h.lm hs hz (h.2.2.2.2.2.2 s hs).2.1 (fun j hj => ⟨(hw j hj).1, by rw [(h.2.2.2.2.2.2 s hs).2.2 j hj]; exact (hw j hj).2⟩)
  rw [h.h4] at e2 e3
  exact ⟨μ2, e1, e2, e3, t7M e4⟩
theorem b_walk (h : K n d hr lw tx F ts tb im sh μ) (x1 x2 : Int32) : Bo (m_X9_walk x1 x2) (m_X10_walk x1 x2) μ := by
  rcases h.wlk x1 with ⟨s, hs, rfl, hz, hw, hk⟩ | ⟨v, hv, hk⟩
  · obtain ⟨μ1, μ2, e1, e2, ⟨j1, j2, j3, -⟩, e4⟩ := h.cgo hs hz hw
    have hcl : m_X9_walk (nI s) x2 μ = if x2 = 0 then some (rI (s_sto d n hr (s_wv sh s) (sh_z sh s)), μ2) else (m_X5_answer (x2 - 1) μ2).bind fun v => some (v, μ2) := by
      unfold m_X9_walk
      rw [(hk μ h).1, ob_some, if_pos rfl, e1, ob_some, e2, bind2_some]
    rcases argb x2 3 3 4 rfl rfl (by decide) with ⟨p, hp, rfl, g1, g2, g3, g4, g5, g6⟩ | ⟨b0, b1⟩
    · have hp4 : nI p = 0 ∨ nI p = 1 ∨ nI p = 2 ∨ nI p = 3 := by
        have : p = 0 ∨ p = 1 ∨ p = 2 ∨ p = 3 := by omega
        rcases this with rfl | rfl | rfl | rfl
        · exact Or.inl rfl
        · exact Or.inr (Or.inl rfl)
        · exact Or.inr (Or.inr (Or.inl rfl))
        · exact Or.inr (Or.inr (Or.inr rfl))
      refine h.q (v := if nI p = 0 then rI (s_sto d n hr (s_wv sh s) (sh_z sh s)) else if nI p = 1 then μ2 34 1 else if nI p = 2 then μ2 34 2 else μ2 34 3) ⟨μ2, ?_, e4⟩ fun μ' h' => ?_
      · rw [hcl]
        rcases hp4 with e | e | e | e <;> rw [e] <;> rfl
      · obtain ⟨μ3, f1, f2, ⟨l1, l2, l3⟩, f4⟩ := h'.mgo hs hz hw
        refine ⟨μ3, ?_, f4⟩
        unfold m_X10_walk
        rw [(hk μ' h').2, ob_some, if_pos rfl, m_in, ob_some, g1, if_neg (by decide), f1, ob_some, j1, j2, j3, l1, l2, l3, f2]
        rcases hp4 with e | e | e | e <;> rw [e] <;> rfl
    · refine h.q (v := -7) ⟨μ2, ?_, e4⟩ fun μ' h' => ⟨μ', ?_, Ch.rf⟩
      · have n0 : ¬ x2 = 0 := fun z => by rw [z] at b0; exact absurd b0 (by decide)
        have n1 : ¬ x2 - 1 = 0 := fun z => by
          have e : x2 = 1 := by rw [Int32.sub_eq_iff_eq_add] at z; rw [z]; rfl
          rw [e] at b0; exact absurd b0 (by decide)
        have n2 : ¬ x2 - 1 = 1 := fun z => by
          have e : x2 = 2 := by rw [Int32.sub_eq_iff_eq_add] at z; rw [z]; rfl
          rw [e] at b0; exact absurd b0 (by decide)
        have n3 : ¬ x2 - 1 = 2 := fun z => by
          have e : x2 = 3 := by rw [Int32.sub_eq_iff_eq_add] at z; rw [z]; rfl
          rw [e] at b0; exact absurd b0 (by decide)
        rw [hcl, if_neg n0]
        unfold m_X5_answer
        rw [if_neg n1, if_neg n2, if_neg n3]
        rfl
      · unfold m_X10_walk
        rw [(hk μ' h').2, ob_some, if_pos rfl, m_in, ob_some, b0, if_pos (by decide)]
  · exact h.no v (by unfold m_X9_walk; rw [(hk μ h).1, ob_some, if_neg hv]) (by unfold m_X10_walk; rw [(hk μ h).2, ob_some, if_neg hv])
end
