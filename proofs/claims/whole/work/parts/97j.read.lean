/-! ===== texts: what codes say; the class' reader, one token at a time ===== -/
def e_two (c : Nat) (a b : Int32) : Int32 := if c = 6 then (if a = 0 then (if b = 0 then 0 else 1) else 1) else if c = 7 then (if a = 0 then 0 else if b = 0 then 0 else 1) else if c = 12 then (if b ≤ a then 0 else 1) else if c = 13 then (if a = b then 1 else 0) else if c = 14 then a + b else if c = 15 then a - b else a * b
def e_st (nm : Nat → Int32) (c : Nat) (s : List Int32) : Option (List Int32) :=
  if c < 6 then some (nm c :: s) else if 23 ≤ c then some (nI (c - 23) :: s) else
    match s with
    | [] => none
    | a :: s2 => if c = 8 then some ((if a = 0 then 1 else 0) :: s2) else if c = 20 then some ((-a) :: s2) else
      match s2 with
      | [] => none
      | d :: s3 => some (e_two c d a :: s3)
def e_ev (nm : Nat → Int32) : List Nat → List Int32 → Option (List Int32)
  | [], s => some s
  | c :: O, s => (e_ev nm O s).bind (e_st nm c)
def k_cd (c : Nat) : Prop := c < 6 ∨ k_bn c = true ∨ c = 8 ∨ c = 20 ∨ (23 ≤ c ∧ c ≤ 20000)
def Good (O : List Nat) : Prop := (∀ nm s, ∃ v, e_ev nm O s = some (v :: s)) ∧ ∀ c ∈ O, k_cd c
theorem ev_app (nm : Nat → Int32) : ∀ (B A : List Nat) (s : List Int32), e_ev nm (B ++ A) s = (e_ev nm A s).bind (e_ev nm B)
  | [], A, s => by
    show e_ev nm A s = (e_ev nm A s).bind fun x => some x
    cases e_ev nm A s <;> rfl
  | c :: B, A, s => by
    show (e_ev nm (B ++ A) s).bind (e_st nm c) = _
    rw [ev_app nm B A s]
    cases e_ev nm A s with
    | none => rfl
    | some x => rfl
theorem good_1 {c : Nat} (h : c < 6 ∨ (23 ≤ c ∧ c ≤ 20000)) : Good [c] := by
  refine ⟨fun nm s => ?_, fun q hq => ?_⟩
  · show ∃ v, e_st nm c s = some (v :: s)
    unfold e_st
    by_cases e : c < 6
    · rw [if_pos e]; exact ⟨_, rfl⟩
    · rw [if_neg e, if_pos (by omega)]; exact ⟨_, rfl⟩
  · rw [List.mem_singleton] at hq
    subst hq
    unfold k_cd
    omega
theorem good_u {c : Nat} {O : List Nat} (h : c = 8 ∨ c = 20) (hO : Good O) : Good (c :: O) := by
  refine ⟨fun nm s => ?_, fun q hq => ?_⟩
  · obtain ⟨v, e⟩ := hO.1 nm s
    show ∃ w, (e_ev nm O s).bind (e_st nm c) = some (w :: s)
    rw [e]
    show ∃ w, e_st nm c (v :: s) = some (w :: s)
    unfold e_st
    rw [if_neg (by omega), if_neg (by omega)]
    by_cases e8 : c = 8
    · simp [e8]
    · have : c = 20 := by omega
      simp [this]
  · rcases List.mem_cons.mp hq with z | z
    · subst z
      unfold k_cd
      omega
    · exact hO.2 q z
theorem bn_of {c : Nat} (h : k_bn c = true) : c = 6 ∨ c = 7 ∨ c = 12 ∨ c = 13 ∨ c = 14 ∨ c = 15 ∨ c = 16 := by
  unfold k_bn at h
  simp at h
  omega
theorem good_b {c : Nat} {A B : List Nat} (h : k_bn c = true) (hA : Good A) (hB : Good B) : Good (c :: (B ++ A)) := by
  have hc := bn_of h
  refine ⟨fun nm s => ?_, fun q hq => ?_⟩
  · obtain ⟨v, e⟩ := hA.1 nm s
    obtain ⟨w, f⟩ := hB.1 nm (v :: s)
    show ∃ x, (e_ev nm (B ++ A) s).bind (e_st nm c) = some (x :: s)
    rw [ev_app, e]
    show ∃ x, (e_ev nm B (v :: s)).bind (e_st nm c) = some (x :: s)
    rw [f]
    show ∃ x, e_st nm c (w :: v :: s) = some (x :: s)
    unfold e_st
    rw [if_neg (by omega), if_neg (by omega)]
    have h8 : ¬ c = 8 := by omega
    have h20 : ¬ c = 20 := by omega
    simp [h8, h20]
  · rcases List.mem_cons.mp hq with z | z
    · subst z
      exact Or.inr (Or.inl h)
    · rcases List.mem_append.mp z with z | z
      · exact hB.2 q z
      · exact hA.2 q z
theorem kT_lt {tb : Nat → Nat} {ts : Nat} (j : Nat) : kT tb ts j ≤ 20000 := by
  show k_tk tb ts (k_ps tb ts j) ≤ 20000
  obtain ⟨p1, p2⟩ := pl_b (tb := tb) (ps_b (tb := tb) (ts := ts) j)
  unfold k_tk
  by_cases e : k_pl tb ts (k_ps tb ts j) = ts
  · rw [if_pos e]; omega
  · rw [if_neg e]
    obtain ⟨e1, e2, e3⟩ := end_b (tb := tb) (show k_pl tb ts (k_ps tb ts j) < ts by omega)
    unfold k_tok
    have h := word_c tb (k_pl tb ts (k_ps tb ts j)) (k_end tb ts (k_pl tb ts (k_ps tb ts j)))
    have h2 := sig_c (tb (k_pl tb ts (k_ps tb ts j)))
    split
    · omega
    · split
      · rename_i z
        split
        · rename_i z4
          have := dig_4 (tb := tb) (st := k_pl tb ts (k_ps tb ts j)) z4 (fun q a b => by rw [e3 (by omega) q a (by omega), z])
          omega
        · omega
      · omega
def CLs : List Nat → (Nat → Int32) → Prop
  | [], _ => True
  | c :: O, g => g O.length = nI c ∧ CLs O g
theorem CLs.fr {O : List Nat} {g g2 : Nat → Int32} (h : CLs O g) (e : ∀ i, i < O.length → g2 i = g i) : CLs O g2 := by
  induction O with
  | nil => trivial
  | cons s O ih => exact ⟨(e _ (by simp)).trans h.1, ih h.2 fun i hi => e i (by simp; omega)⟩
section
variable {ts K : Nat} {tb : Nat → Nat} {μ μ2 : ax_M}
/-- the class' reader, reading -/
def CS (ts : Nat) (tb : Nat → Nat) (K j : Nat) (O : List Nat) (μ : ax_M) : Prop := TK ts tb K μ ∧ ts ≤ 160 ∧ j ≤ K ∧ μ 22 5 = 0 ∧ μ 22 4 = nI j ∧ μ 22 3 = nI O.length ∧ CLs O (μ 23) ∧ O.length ≤ j
/-- the class' reader, at a fault -/
def CW (ts : Nat) (tb : Nat → Nat) (K j : Nat) (μ : ax_M) : Prop := TK ts tb K μ ∧ ts ≤ 160 ∧ j ≤ K ∧ μ 22 5 = 1 ∧ μ 22 4 = nI j ∧ ∃ w, w ≤ 160 ∧ μ 22 3 = nI w
def SF (k i : Nat) : Bool := (k == 22 && (i == 3 || i == 4 || i == 5)) || k == 23
theorem TK.fr (h : TK ts tb K μ) (hc : Ch SF μ μ2) : TK ts tb K μ2 := by
  obtain ⟨h1, h2, h3, h4, h5⟩ := h
  exact ⟨(hc 18 4 rfl).trans h1, h2, fun q hq => ⟨(hc 20 q rfl).trans (h3 q hq).1, (hc 21 q rfl).trans (h3 q hq).2⟩, h4, h5⟩
theorem CS.at {j : Nat} {O : List Nat} (h : CS ts tb K j O μ) (x : Nat) (hx : x < 2 ^ 31) : m_X3_isAt (nI x) μ = some (bI (decide (kT tb ts j = x))) := by
  obtain ⟨⟨h1, h2, h3, h4, h5⟩, g1, g2, g3, g4, -⟩ := h
  have hl := kT_lt (tb := tb) (ts := ts) j
  unfold m_X3_isAt
  rw [g3, if_pos rfl, g4, ix_nI (show j < 161 by omega) (by decide), ob_some, (h3 j g2).1]
  simp only [neqL (show kT tb ts j < 2 ^ 31 by omega) hx]
  by_cases e : kT tb ts j = x <;> simp [e, bI]
theorem CW.at {j : Nat} (h : CW ts tb K j μ) (x : Int32) : m_X3_isAt x μ = some 0 := by
  unfold m_X3_isAt
  rw [h.2.2.2.1, if_neg (by decide)]
theorem CS.lt {j : Nat} {O : List Nat} (h : CS ts tb K j O μ) (ht : kT tb ts j ≠ 21) : j < K := by
  obtain ⟨⟨h1, h2, h3, h4, h5⟩, g1, g2, -⟩ := h
  by_cases e : j = K
  · rw [e] at ht
    exact absurd h4 ht
  · omega
theorem CS.go {j : Nat} {O : List Nat} (h : CS ts tb K j O μ) (ht : j < K) : ∃ μ2, m_X3_goOn μ = some μ2 ∧ CS ts tb K (j + 1) O μ2 ∧ Ch SF μ μ2 := by
  have hh := h
  obtain ⟨h0, g1, g2, g3, g4, g5, g6, g7⟩ := hh
  obtain ⟨h1, h2, -⟩ := h0
  have hc : Ch SF μ (ax_w μ 22 4 (nI (j + 1))) := Ch.rf.w rfl
  refine ⟨_, ?_, ⟨h.1.fr hc, g1, by omega, by rw [w_i (by decide)]; exact g3, w_ss, by rw [w_i (by decide)]; exact g5, g6.fr fun i _ => w_k (by decide), by omega⟩, hc⟩
  unfold m_X3_goOn
  rw [h1, g4, nI_pred, if_neg (by rw [nleL (by omega) (by omega)]; omega), na1]
theorem CS.wr {j : Nat} {O : List Nat} (h : CS ts tb K j O μ) (c : Nat) (ht : O.length < j) : ∃ μ2, m_X3_write (nI c) μ = some μ2 ∧ CS ts tb K j (c :: O) μ2 ∧ Ch SF μ μ2 := by
  have hh := h
  obtain ⟨h0, g1, g2, g3, g4, g5, g6, g7⟩ := hh
  obtain ⟨h1, h2, -⟩ := h0
  have hc : Ch SF μ (ax_w (ax_w μ 22 3 (nI (O.length + 1))) 23 O.length (nI c)) := (Ch.rf.w rfl).w rfl
  refine ⟨_, ?_, ⟨h.1.fr hc, g1, g2, by rw [w_k (by decide), w_i (by decide)]; exact g3, by rw [w_k (by decide), w_i (by decide)]; exact g4, by rw [w_k (by decide), w_ss]; rfl, ⟨w_ss, g6.fr fun i hi => by rw [w_i (by omega), w_k (by decide)]⟩, by simp; omega⟩, hc⟩
  unfold m_X3_write
  rw [g5, if_neg (by rw [show (160 : Int32) = nI 160 from rfl, nleL (by omega) (by omega)]; omega), ix_nI (show O.length < 160 by omega) (by decide), ob_some, na1]
theorem CS.bad {j : Nat} {O : List Nat} (h : CS ts tb K j O μ) : CW ts tb K j (ax_w μ 22 5 1) ∧ Ch SF μ (ax_w μ 22 5 1) := by
  have hh := h
  obtain ⟨h0, g1, g2, g3, g4, g5, g6, g7⟩ := hh
  have h2 := h0.2.1
  have hc : Ch SF μ (ax_w μ 22 5 1) := Ch.rf.w rfl
  exact ⟨⟨h.1.fr hc, g1, g2, w_ss, by rw [w_i (by decide)]; exact g4, O.length, by omega, by rw [w_i (by decide)]; exact g5⟩, hc⟩
theorem CW.bad {j : Nat} (h : CW ts tb K j μ) : CW ts tb K j (ax_w μ 22 5 1) ∧ Ch SF μ (ax_w μ 22 5 1) := by
  obtain ⟨h0, g1, g2, g3, g4, w, hw, g5⟩ := h
  have hc : Ch SF μ (ax_w μ 22 5 1) := Ch.rf.w rfl
  exact ⟨⟨h0.fr hc, g1, g2, w_ss, by rw [w_i (by decide)]; exact g4, w, hw, by rw [w_i (by decide)]; exact g5⟩, hc⟩
theorem CW.wr {j : Nat} (h : CW ts tb K j μ) (c : Int32) : ∃ μ2, m_X3_write c μ = some μ2 ∧ CW ts tb K j μ2 ∧ Ch SF μ μ2 := by
  have hh := h
  obtain ⟨h0, g1, g2, g3, g4, w, hw, g5⟩ := hh
  unfold m_X3_write
  rw [g5]
  simp only [show ((160 : Int32) ≤ nI w) = (160 ≤ w) from nleL (a := 160) (by decide) (by omega)]
  by_cases e : 160 ≤ w
  · rw [if_pos e]
    exact ⟨μ, rfl, h, Ch.rf⟩
  · have hc : Ch SF μ (ax_w (ax_w μ 22 3 (nI (w + 1))) 23 w c) := (Ch.rf.w rfl).w rfl
    rw [if_neg e, ix_nI (show w < 160 by omega) (by decide), ob_some, na1]
    exact ⟨_, rfl, ⟨h0.fr hc, g1, g2, by rw [w_k (by decide), w_i (by decide)]; exact g3, by rw [w_k (by decide), w_i (by decide)]; exact g4, w + 1, by omega, by rw [w_k (by decide), w_ss]⟩, hc⟩
theorem CS.dem {j : Nat} {O : List Nat} (h : CS ts tb K j O μ) (x : Nat) (hx : x < 2 ^ 31) (h21 : x ≠ 21) : (kT tb ts j = x → ∃ μ2, m_X3_demand (nI x) μ = some μ2 ∧ CS ts tb K (j + 1) O μ2 ∧ Ch SF μ μ2) ∧ (¬ kT tb ts j = x → ∃ μ2, m_X3_demand (nI x) μ = some μ2 ∧ CW ts tb K j μ2 ∧ Ch SF μ μ2) := by
  unfold m_X3_demand
  rw [h.at x hx, ob_some]
  constructor
  · intro e
    obtain ⟨μ2, a1, a2, a3⟩ := h.go (h.lt (by rw [e]; exact h21))
    rw [if_neg (by simp [e, bI]), a1, ob_some]
    exact ⟨μ2, rfl, a2, a3⟩
  · intro e
    rw [if_pos (by simp [e, bI])]
    exact ⟨_, rfl, h.bad⟩
theorem CW.dem {j : Nat} (h : CW ts tb K j μ) (x : Int32) : ∃ μ2, m_X3_demand x μ = some μ2 ∧ CW ts tb K j μ2 ∧ Ch SF μ μ2 := by
  unfold m_X3_demand
  rw [h.at, ob_some, if_pos rfl]
  exact ⟨_, rfl, h.bad⟩
theorem CS.opn {j o : Nat} {O : List Nat} (h : CS ts tb K j O μ) (hj : kT tb ts j ≠ 21) (ho : o ≤ 5) : (o = 5 → ∃ μ2, m_X3_opens (nI o) μ = some (0, μ2) ∧ CW ts tb K j μ2 ∧ Ch SF μ μ2) ∧ (o < 5 → ∃ μ2, m_X3_opens (nI o) μ = some (1, μ2) ∧ CS ts tb K (j + 1) O μ2 ∧ Ch SF μ μ2) := by
  unfold m_X3_opens
  simp only [show (nI o < 5) = (o < 5) from nltL (k := 5) (by omega) (by decide)]
  constructor
  · intro e
    rw [if_neg (by omega)]
    exact ⟨_, rfl, h.bad⟩
  · intro e
    obtain ⟨μ2, a1, a2, a3⟩ := h.go (h.lt hj)
    rw [if_pos e, a1, ob_some]
    exact ⟨μ2, rfl, a2, a3⟩
end
