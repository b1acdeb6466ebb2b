/-! ===== texts: what codes say, on both sides ===== -/
def e_fw (nm : Nat → Int32) : List Nat → List Int32 → Option (List Int32)
  | [], s => some s
  | c :: w, s => (e_st nm c s).bind (e_fw nm w)
theorem fw_app (nm : Nat → Int32) : ∀ (w w2 : List Nat) (s : List Int32), e_fw nm (w ++ w2) s = (e_fw nm w s).bind (e_fw nm w2)
  | [], w2, s => rfl
  | c :: w, w2, s => by
    show (e_st nm c s).bind (e_fw nm (w ++ w2)) = ((e_st nm c s).bind (e_fw nm w)).bind (e_fw nm w2)
    cases e_st nm c s with
    | none => rfl
    | some x => exact fw_app nm w w2 x
theorem ev_fw (nm : Nat → Int32) : ∀ (O : List Nat) (s : List Int32), e_ev nm O s = e_fw nm O.reverse s
  | [], s => rfl
  | c :: O, s => by
    rw [List.reverse_cons, fw_app, ← ev_fw nm O s]
    show (e_ev nm O s).bind (e_st nm c) = _
    cases e_ev nm O s with
    | none => rfl
    | some x =>
      show e_st nm c x = (e_st nm c x).bind fun y => some y
      cases e_st nm c x <;> rfl
def FL (m : Nat → Nat) (b : Nat) : List Nat → (Nat → Int32) → Prop
  | [], _ => True
  | c :: w, g => g b = nI (m c) ∧ FL m (b + 1) w g
theorem fl_app {m : Nat → Nat} {g : Nat → Int32} : ∀ (w w2 : List Nat) (b : Nat), FL m b (w ++ w2) g ↔ FL m b w g ∧ FL m (b + w.length) w2 g
  | [], w2, b => by simp [FL]
  | c :: w, w2, b => by
    show (g b = nI (m c) ∧ FL m (b + 1) (w ++ w2) g) ↔ (g b = nI (m c) ∧ FL m (b + 1) w g) ∧ FL m (b + (w.length + 1)) w2 g
    rw [fl_app w w2 (b + 1), show b + 1 + w.length = b + (w.length + 1) by omega, and_assoc]
theorem FL.fr {m : Nat → Nat} {g g2 : Nat → Int32} : ∀ {w : List Nat} {b : Nat}, FL m b w g → (∀ i, b ≤ i → i < b + w.length → g2 i = g i) → FL m b w g2
  | [], _, _, _ => trivial
  | c :: w, b, h, e => ⟨(e b (Nat.le_refl b) (by simp)).trans h.1, h.2.fr fun i h1 h2 => e i (by omega) (by simp; omega)⟩
theorem cls_fl {g : Nat → Int32} : ∀ {O : List Nat}, CLs O g → FL (fun c => c) 0 O.reverse g
  | [], _ => trivial
  | c :: O, h => by
    rw [List.reverse_cons, fl_app]
    exact ⟨cls_fl h.2, by simpa [FL] using h.1⟩
theorem ol_fl {b : Nat} {g : Nat → Int32} : ∀ {O : List Nat}, OL b O g → FL k_mc b O.reverse g
  | [], _ => trivial
  | c :: O, h => by
    rw [List.reverse_cons, fl_app]
    exact ⟨ol_fl h.2, by simpa [FL] using h.1⟩
/-- a stack in a row -/
def SL : List Int32 → (Nat → Int32) → Prop
  | [], _ => True
  | a :: s, g => g s.length = a ∧ SL s g
theorem SL.fr {g g2 : Nat → Int32} : ∀ {s : List Int32}, SL s g → (∀ i, i < s.length → g2 i = g i) → SL s g2
  | [], _, _ => trivial
  | a :: s, h, e => ⟨(e _ (by simp)).trans h.1, h.2.fr fun i hi => e i (by simp; omega)⟩
theorem SL.put {g : Nat → Int32} {s : List Int32} {a : Int32} {g2 : Nat → Int32} (h : SL s g) (h1 : g2 s.length = a) (h2 : ∀ i, i ≠ s.length → g2 i = g i) : SL (a :: s) g2 := ⟨h1, h.fr fun i hi => h2 i (by omega)⟩
theorem cd_le {c : Nat} (h : k_cd c) : c ≤ 20000 := by
  unfold k_cd at h
  rcases h with h | h | h | h | h
  · omega
  · have := bn_of h; omega
  · omega
  · omega
  · omega
theorem st_len {nm : Nat → Int32} {c : Nat} {s s2 : List Int32} (h : e_st nm c s = some s2) : s2.length ≤ s.length + 1 := by
  unfold e_st at h
  split at h
  · cases h; simp
  · split at h
    · cases h; simp
    · split at h
      · cases h
      · split at h
        · cases h; simp
        · split at h
          · cases h; simp
          · split at h
            · cases h
            · cases h; first | (simp; done) | (simp; omega)
theorem c_stp1 {t p i e c : Nat} {s s2 : List Int32} {μ μ0 : ax_M} (ht : t < 6) (hp : p < 3) (he : μ (10 + t) p = nI e) (hie : i < e) (he160 : e ≤ 160) (hc : μ (3 + t) i = nI c) (hcd : k_cd c) (hs : SL s (μ 17)) (hl : s.length < 160) (h16 : ∀ q, q < 6 → μ 16 q = μ0 16 q) (hst : e_st (fun q => μ0 16 q) c s = some s2) (k : Nat) :
    ∃ μ2, m_X7_value_26 (nI t) (nI p) (k + 1) (nI s.length) (nI i) μ = m_X7_value_26 (nI t) (nI p) k (nI s2.length) (nI (i + 1)) μ2 ∧ SL s2 (μ2 17) ∧ ∀ k, k ≠ 17 → μ2 k = μ k := by
  have hfr : ∀ (j : Nat) (v : Int32) (k : Nat), k ≠ 17 → (ax_w μ 17 j v) k = μ k := fun j v k hk => funext fun i => w_k hk
  have h17 : ∀ (j : Nat) (v : Int32) (q : Nat), q ≠ j → (ax_w μ 17 j v) 17 q = μ 17 q := fun j v q hq => w_i hq
  have q10 : q_n (10 + t) = some 3 := by
    have : t = 0 ∨ t = 1 ∨ t = 2 ∨ t = 3 ∨ t = 4 ∨ t = 5 := by omega
    rcases this with rfl | rfl | rfl | rfl | rfl | rfl <;> decide
  have q3 : q_n (3 + t) = some 160 := by
    have : t = 0 ∨ t = 1 ∨ t = 2 ∨ t = 3 ∨ t = 4 ∨ t = 5 := by omega
    rcases this with rfl | rfl | rfl | rfl | rfl | rfl <;> decide
  have l10 : q_ld μ (10 + t) (nI p) = some (nI e) := by
    unfold q_ld
    rw [q10, ob_some, ix_nI hp (by decide), ob_some, he]
  have l3 : q_ld μ (3 + t) (nI i) = some (nI c) := by
    unfold q_ld
    rw [q3, ob_some, ix_nI (show i < 160 by omega) (by decide), ob_some, hc]
  have hc2 := cd_le hcd
  have t160 : ¬ (160 : Int32) ≤ nI s.length := by rw [show (160 : Int32) = nI 160 from rfl, nleL (by omega) (by omega)]; omega
  have ixl : ix 160 (nI s.length) = some s.length := ix_nI hl (by decide)
  rw [m_X7_value_26, ix_nI ht (by decide), ob_some, l10, ob_some, if_neg (by rw [nleL (by omega) (by omega)]; omega), ob_some, l3, ob_some]
  simp only [show (nI c < 23) = (c < 23) from nltL (k := 23) (by omega) (by decide)]
  unfold e_st at hst
  by_cases c23 : 23 ≤ c
  · rw [if_neg (by omega), if_pos c23] at hst
    cases hst
    rw [if_neg (by omega), if_neg t160, ixl, ob_some, na1, na1, show nI c - 23 = nI (c - 23) from pk_sub (b := 23) c23]
    exact ⟨_, rfl, hs.put w_ss fun i hi => w_i hi, fun k hk => hfr _ _ k hk⟩
  · rw [if_pos (by omega)]
    unfold m_X7_value_81
    simp only [show ((6 : Int32) ≤ nI c) = (6 ≤ c) from nleL (a := 6) (by decide) (by omega)]
    by_cases c6 : c < 6
    · rw [if_pos c6] at hst
      cases hst
      rw [if_neg (by omega), if_neg t160, ix_nI c6 (by decide), ob_some, ixl, ob_some, na1, na1, h16 c c6]
      exact ⟨_, rfl, hs.put w_ss fun i hi => w_i hi, fun k hk => hfr _ _ k hk⟩
    · rw [if_neg c6, if_neg c23] at hst
      rw [if_pos (by omega)]
      cases s with
      | nil => cases hst
      | cons a s =>
        have hln : (a :: s).length = s.length + 1 := rfl
        have ix1 : ix 160 (nI s.length) = some s.length := ix_nI (by rw [hln] at hl; omega) (by decide)
        have n0 : ¬ nI (s.length + 1) ≤ 0 := by rw [show (0 : Int32) = nI 0 from rfl, nleL (by rw [hln] at hl; omega) (by omega)]; omega
        have ha : μ 17 s.length = a := hs.1
        unfold m_X7_value_114
        rw [hln, nI_pred, ix1]
        simp only [ob_some, ha, na1, show (nI c = 8) = (c = 8) from neqL (k := 8) (by omega) (by decide)]
        by_cases c8 : c = 8
        · have hst' : some ((if a = 0 then (1 : Int32) else 0) :: s) = some s2 := by
            have : (match a :: s with
              | [] => (none : Option (List Int32))
              | a :: s2 => if c = 8 then some ((if a = 0 then 1 else 0) :: s2) else if c = 20 then some ((-a) :: s2) else
                match s2 with
                | [] => none
                | d :: s3 => some (e_two c d a :: s3)) = some s2 := hst
            rw [← this]
            show _ = if c = 8 then some ((if a = 0 then (1 : Int32) else 0) :: s) else _
            rw [if_pos c8]
          cases hst'
          rw [if_pos c8, if_neg n0]
          by_cases a0 : a = 0
          · rw [if_pos a0, if_pos a0]
            exact ⟨_, rfl, hs.2.put w_ss fun i hi => w_i hi, fun k hk => hfr _ _ k hk⟩
          · rw [if_neg a0, if_neg a0]
            exact ⟨_, rfl, hs.2.put w_ss fun i hi => w_i hi, fun k hk => hfr _ _ k hk⟩
        · rw [if_neg c8]
          unfold m_X7_value_152
          rw [nI_pred, ix1]
          simp only [ob_some, ha, na1, show (nI c = 20) = (c = 20) from neqL (k := 20) (by omega) (by decide)]
          by_cases c20 : c = 20
          · have hst' : some ((-a) :: s) = some s2 := by
              rw [← hst]
              show _ = if c = 8 then _ else if c = 20 then some ((-a) :: s) else _
              rw [if_neg c8, if_pos c20]
            cases hst'
            rw [if_pos c20, if_neg n0]
            exact ⟨_, rfl, hs.2.put w_ss fun i hi => w_i hi, fun k hk => hfr _ _ k hk⟩
          · rw [if_neg c20]
            cases s with
            | nil =>
              exfalso
              have : (none : Option (List Int32)) = some s2 := by
                rw [← hst]
                show _ = if c = 8 then _ else if c = 20 then _ else none
                rw [if_neg c8, if_neg c20]
              cases this
            | cons b s =>
              have hst' : some (e_two c b a :: s) = some s2 := by
                rw [← hst]
                show _ = if c = 8 then _ else if c = 20 then _ else some (e_two c b a :: s)
                rw [if_neg c8, if_neg c20]
              cases hst'
              have hln2 : (b :: s).length = s.length + 1 := rfl
              have hb : μ 17 s.length = b := hs.2.1
              have hl' : s.length + 1 + 1 < 160 := hl
              have ha' : μ 17 (s.length + 1) = a := ha
              have hbc : c = 6 ∨ c = 7 ∨ c = 12 ∨ c = 13 ∨ c = 14 ∨ c = 15 ∨ c = 16 := by
                rcases hcd with z | z | z | z | z
                · omega
                · exact bn_of z
                · omega
                · omega
                · omega
              unfold m_X7_value_183 m_X7_value_365
              rw [hln2, if_neg (show ¬ nI (s.length + 1 + 1) ≤ 1 by rw [show (1 : Int32) = nI 1 from rfl, nleL (by omega) (by omega)]; omega), pk_m1, nI_pred, ix_nI (show s.length < 160 by omega) (by decide), ix_nI (show s.length + 1 < 160 by omega) (by decide)]
              simp only [ob_some, hb, ha', na1]
              refine ⟨ax_w μ 17 s.length (e_two c b a), ?_, hs.2.2.put w_ss fun i hi => w_i hi, fun k hk => hfr _ _ k hk⟩
              have hl3 : (e_two c b a :: s).length = s.length + 1 := rfl
              rw [hl3]
              rcases hbc with rfl | rfl | rfl | rfl | rfl | rfl | rfl
              · rw [if_pos (show nI 6 = 6 from rfl)]
                simp only [e_two]
                by_cases b0 : b = 0
                · by_cases a0 : a = 0
                  · simp [b0, a0]
                  · simp [b0, a0]
                · simp [b0]
              · rw [if_neg (by decide), if_pos (show nI 7 = 7 from rfl)]
                simp only [e_two]
                by_cases b0 : b = 0
                · simp [b0]
                · by_cases a0 : a = 0
                  · simp [b0, a0]
                  · simp [b0, a0]
              · rw [if_neg (by decide), if_neg (by decide), if_neg (by decide), if_neg (by decide), if_neg (by decide), if_neg (by decide), if_pos (show nI 12 = 12 from rfl)]
                simp only [e_two]
                by_cases b0 : a ≤ b
                · simp [b0]
                · simp [b0]
              · rw [if_neg (by decide), if_neg (by decide), if_neg (by decide), if_neg (by decide), if_neg (by decide), if_neg (by decide), if_neg (by decide), if_pos (show nI 13 = 13 from rfl)]
                simp only [e_two]
                by_cases b0 : b = a
                · simp [b0]
                · simp [b0]
              · rw [if_neg (by decide), if_neg (by decide), if_neg (by decide), if_neg (by decide), if_neg (by decide), if_neg (by decide), if_neg (by decide), if_neg (by decide), if_pos (show nI 14 = 14 from rfl)]
                rfl
              · rw [if_neg (by decide), if_neg (by decide), if_neg (by decide), if_neg (by decide), if_neg (by decide), if_neg (by decide), if_neg (by decide), if_neg (by decide), if_neg (by decide), if_pos (show nI 15 = 15 from rfl)]
                rfl
              · rw [if_neg (by decide), if_neg (by decide), if_neg (by decide), if_neg (by decide), if_neg (by decide), if_neg (by decide), if_neg (by decide), if_neg (by decide), if_neg (by decide), if_neg (by decide)]
                rfl
