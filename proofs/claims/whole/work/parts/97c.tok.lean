/-! ===== texts: the tokens of a tape; the class ===== -/
def k_so (b : Nat) : Nat := if 97 ≤ b ∧ b ≤ 122 then 1 else if 48 ≤ b ∧ b ≤ 57 then 2 else 0
def k_run (tb : Nat → Nat) (so : Nat) : Nat → Nat → Nat
  | 0, p => p
  | m + 1, p => if k_so (tb p) = so then k_run tb so m (p + 1) else p
def k_end (tb : Nat → Nat) (ts st : Nat) : Nat := if k_so (tb st) = 0 then st + 1 else k_run tb (k_so (tb st)) (ts - (st + 1)) (st + 1)
def k_w : List (List Nat) := [[99, 111, 108, 117, 109, 110], [114, 111, 119], [104, 111, 117, 114], [103, 117, 101, 115, 116, 115], [115, 105, 122, 101], [109, 111, 114, 101], [111, 114], [97, 110, 100], [110, 111, 116], [102, 105, 110, 101, 115], [97, 100, 109, 105, 116, 115], [115, 108, 101, 101, 112, 115]]
def k_wn (t : Nat) : Nat := (k_w.getD t []).length
def k_wc (t c : Nat) : Nat := (k_w.getD t []).getD c 0
def k_al (f : Nat → Bool) : Nat → Nat → Bool
  | 0, _ => true
  | m + 1, c => f c && k_al f m (c + 1)
def k_sp (tb : Nat → Nat) (t st en : Nat) : Bool := decide (k_wn t = en - st) && k_al (fun c => decide (k_wc t c = tb (st + c))) (k_wn t) 0
def k_fst (f : Nat → Bool) (z : Nat) : Nat → Nat → Nat
  | 0, _ => z
  | m + 1, t => if f t then t else k_fst f z m (t + 1)
def k_word (tb : Nat → Nat) (st en : Nat) : Nat := k_fst (fun t => k_sp tb t st en) 22 12 0
def k_dig (tb : Nat → Nat) (st : Nat) : Nat → Nat
  | 0 => 0
  | m + 1 => 10 * k_dig tb st m + tb (st + m) - 48
def k_sig (b : Nat) : Nat := if b = 60 then 12 else if b = 61 then 13 else if b = 43 then 14 else if b = 45 then 15 else if b = 42 then 16 else if b = 40 then 17 else if b = 41 then 18 else if b = 59 then 19 else 22
def k_tok (tb : Nat → Nat) (st en : Nat) : Nat := if k_so (tb st) = 1 then k_word tb st en else if k_so (tb st) = 2 then (if en - st ≤ 4 then 23 + k_dig tb st (en - st) else 22) else k_sig (tb st)
def k_skp (tb : Nat → Nat) : Nat → Nat → Nat
  | 0, p => p
  | m + 1, p => if tb p = 32 ∨ tb p = 10 then k_skp tb m (p + 1) else p
def k_pl (tb : Nat → Nat) (ts p : Nat) : Nat := k_skp tb (ts - p) p
def k_tk (tb : Nat → Nat) (ts p : Nat) : Nat := if k_pl tb ts p = ts then 21 else k_tok tb (k_pl tb ts p) (k_end tb ts (k_pl tb ts p))
def k_nx (tb : Nat → Nat) (ts p : Nat) : Nat := if k_pl tb ts p = ts then ts else k_end tb ts (k_pl tb ts p)
def k_ps (tb : Nat → Nat) (ts : Nat) : Nat → Nat
  | 0 => 0
  | j + 1 => k_nx tb ts (k_ps tb ts j)
abbrev kT (tb : Nat → Nat) (ts j : Nat) : Nat := k_tk tb ts (k_ps tb ts j)
abbrev kP (tb : Nat → Nat) (ts j : Nat) : Nat := k_pl tb ts (k_ps tb ts j)
theorem run_b {tb : Nat → Nat} {so : Nat} : ∀ (m p : Nat), p ≤ k_run tb so m p ∧ k_run tb so m p ≤ p + m ∧ (∀ q, p ≤ q → q < k_run tb so m p → k_so (tb q) = so) ∧ (k_run tb so m p < p + m → ¬ k_so (tb (k_run tb so m p)) = so)
  | 0, p => ⟨Nat.le_refl _, Nat.le_refl _, fun q h1 h2 => by unfold k_run at h2; omega, fun h => by unfold k_run at h; omega⟩
  | m + 1, p => by
    obtain ⟨a1, a2, a3, a4⟩ := run_b (tb := tb) (so := so) m (p + 1)
    rw [k_run]
    by_cases e : k_so (tb p) = so
    · rw [if_pos e]
      refine ⟨by omega, by omega, fun q h1 h2 => ?_, fun h => a4 (by omega)⟩
      by_cases e2 : q = p
      · rw [e2]; exact e
      · exact a3 q (by omega) h2
    · rw [if_neg e]
      exact ⟨Nat.le_refl _, by omega, fun q h1 h2 => by omega, fun _ => e⟩
theorem end_b {tb : Nat → Nat} {ts st : Nat} (h : st < ts) : st < k_end tb ts st ∧ k_end tb ts st ≤ ts ∧ (k_so (tb st) ≠ 0 → ∀ q, st ≤ q → q < k_end tb ts st → k_so (tb q) = k_so (tb st)) := by
  unfold k_end
  by_cases e : k_so (tb st) = 0
  · rw [if_pos e]
    exact ⟨by omega, by omega, fun h => absurd e h⟩
  · rw [if_neg e]
    obtain ⟨a1, a2, a3, a4⟩ := run_b (tb := tb) (so := k_so (tb st)) (ts - (st + 1)) (st + 1)
    refine ⟨by omega, by omega, fun _ q h1 h2 => ?_⟩
    by_cases e2 : q = st
    · rw [e2]
    · exact a3 q (by omega) h2
theorem skp_b {tb : Nat → Nat} : ∀ (m p : Nat), p ≤ k_skp tb m p ∧ k_skp tb m p ≤ p + m ∧ (k_skp tb m p < p + m → ¬ (tb (k_skp tb m p) = 32 ∨ tb (k_skp tb m p) = 10))
  | 0, p => ⟨Nat.le_refl _, Nat.le_refl _, fun h => by unfold k_skp at h; omega⟩
  | m + 1, p => by
    obtain ⟨a1, a2, a3⟩ := skp_b (tb := tb) m (p + 1)
    rw [k_skp]
    by_cases e : tb p = 32 ∨ tb p = 10
    · rw [if_pos e]
      exact ⟨by omega, by omega, fun h => a3 (by omega)⟩
    · rw [if_neg e]
      exact ⟨Nat.le_refl _, by omega, fun _ => e⟩
theorem pl_b {tb : Nat → Nat} {ts p : Nat} (h : p ≤ ts) : p ≤ k_pl tb ts p ∧ k_pl tb ts p ≤ ts := by
  obtain ⟨a1, a2, -⟩ := skp_b (tb := tb) (ts - p) p
  unfold k_pl
  omega
theorem nx_b {tb : Nat → Nat} {ts p : Nat} (h : p ≤ ts) : k_nx tb ts p ≤ ts ∧ (k_tk tb ts p ≠ 21 → p < k_nx tb ts p) := by
  obtain ⟨a1, a2⟩ := pl_b (tb := tb) h
  unfold k_nx k_tk
  by_cases e : k_pl tb ts p = ts
  · rw [if_pos e, if_pos e]
    exact ⟨Nat.le_refl _, fun h => absurd rfl h⟩
  · rw [if_neg e]
    obtain ⟨b1, b2, -⟩ := end_b (tb := tb) (show k_pl tb ts p < ts by omega)
    exact ⟨b2, fun _ => by omega⟩
theorem ps_b {tb : Nat → Nat} {ts : Nat} : ∀ j, k_ps tb ts j ≤ ts
  | 0 => Nat.zero_le _
  | j + 1 => (nx_b (ps_b j)).1
theorem fst_c {f : Nat → Bool} {z : Nat} : ∀ (m t : Nat), (k_fst f z m t = z ∧ ∀ q, t ≤ q → q < t + m → f q = false) ∨ (t ≤ k_fst f z m t ∧ k_fst f z m t < t + m ∧ f (k_fst f z m t) = true)
  | 0, t => Or.inl ⟨rfl, fun q h1 h2 => by omega⟩
  | m + 1, t => by
    rw [k_fst]
    cases e : f t with
    | true => exact Or.inr ⟨by simp, by simp, by simp [e]⟩
    | false =>
      rw [if_neg (by simp)]
      rcases fst_c (f := f) (z := z) m (t + 1) with ⟨h1, h2⟩ | ⟨h1, h2, h3⟩
      · refine Or.inl ⟨h1, fun q a b => ?_⟩
        by_cases e2 : q = t
        · rw [e2]; exact e
        · exact h2 q (by omega) (by omega)
      · exact Or.inr ⟨by omega, by omega, h3⟩
theorem word_c (tb : Nat → Nat) (st en : Nat) : (k_word tb st en = 22 ∧ ∀ t, t < 12 → k_sp tb t st en = false) ∨ (k_word tb st en < 12 ∧ k_sp tb (k_word tb st en) st en = true) := by
  rcases fst_c (f := fun t => k_sp tb t st en) (z := 22) 12 0 with ⟨h1, h2⟩ | ⟨h1, h2, h3⟩
  · exact Or.inl ⟨h1, fun t ht => h2 t (Nat.zero_le t) (by omega)⟩
  · exact Or.inr ⟨by unfold k_word; omega, h3⟩
theorem sig_c (b : Nat) : k_sig b = 22 ∨ (12 ≤ k_sig b ∧ k_sig b ≤ 19) := by
  unfold k_sig
  repeat' split
  all_goals omega
theorem tok_ne (tb : Nat → Nat) (st en : Nat) : k_tok tb st en ≠ 21 := by
  unfold k_tok
  have h := word_c tb st en
  have h2 := sig_c (tb st)
  split
  · omega
  · split
    · split <;> omega
    · omega
section
variable {ts : Nat} {tb : Nat → Nat} {μ μ2 : ax_M}
/-- the class' tape -/
def TB (ts : Nat) (tb : Nat → Nat) (μ : ax_M) : Prop := μ 18 1 = nI ts ∧ ts ≤ 160 ∧ (∀ i, i < ts → μ 19 i = nI (tb i)) ∧ ∀ i, i < ts → tb i ≤ 255
theorem c_sort (b : Nat) (hb : b ≤ 255) (μ : ax_M) : m_X6_sortOf (nI b) μ = some (nI (k_so b)) := by
  unfold m_X6_sortOf m_X6_sortOf_14 k_so
  simp only [show (nI b < 97) = (b < 97) from nltL (k := 97) (by omega) (by decide), show ((122 : Int32) < nI b) = (122 < b) from nltL (a := 122) (by decide) (by omega), show (nI b < 48) = (b < 48) from nltL (k := 48) (by omega) (by decide), show ((57 : Int32) < nI b) = (57 < b) from nltL (a := 57) (by decide) (by omega)]
  repeat' split
  all_goals first | rfl | omega
theorem so_lt (b : Nat) : k_so b ≤ 2 := by
  unfold k_so
  repeat' split
  all_goals omega
theorem c_end (h : TB ts tb μ) {st : Nat} (hst : st < ts) : m_X6_endOf (nI st) μ = some (nI (k_end tb ts st)) := by
  obtain ⟨h1, h2, h3, h4⟩ := h
  have hso := so_lt (tb st)
  have key : ∀ (m p i k : Nat), p + m = ts → i ≤ p → m < k → k_so (tb st) ≠ 0 → m_X6_endOf_17 (nI (k_so (tb st))) μ k (nI p) (nI i) = some (nI (k_run tb (k_so (tb st)) m p)) := by
    intro m
    induction m with
    | zero =>
      intro p i k hp hi hk h0
      obtain ⟨k, rfl⟩ : ∃ k2, k = k2 + 1 := ⟨k - 1, by omega⟩
      have : p = ts := by omega
      subst this
      rw [m_X6_endOf_17, h1, k_run]
      by_cases e : (160 : Int32) ≤ nI i
      · rw [if_pos e]
      · rw [if_neg e, if_neg (by rw [show (0 : Int32) = nI 0 from rfl, neqL (by omega) (by omega)]; exact h0), if_pos (Int32.le_refl _)]
    | succ m ih =>
      intro p i k hp hi hk h0
      obtain ⟨k, rfl⟩ : ∃ k2, k = k2 + 1 := ⟨k - 1, by omega⟩
      rw [m_X6_endOf_17, h1, if_neg (by rw [show (160 : Int32) = nI 160 from rfl, nleL (by omega) (by omega)]; omega), if_neg (by rw [show (0 : Int32) = nI 0 from rfl, neqL (by omega) (by omega)]; exact h0), if_neg (by rw [nleL (by omega) (by omega)]; omega), ix_nI (show p < 160 by omega) (by decide), ob_some, h3 p (by omega), c_sort _ (h4 p (by omega)), ob_some, k_run]
      have hsp := so_lt (tb p)
      simp only [neqL (show k_so (tb p) < 2 ^ 31 by omega) (show k_so (tb st) < 2 ^ 31 by omega)]
      by_cases e : k_so (tb p) = k_so (tb st)
      · rw [if_pos e, if_pos e, na1, na1]
        exact ih (p + 1) (i + 1) k (by omega) (by omega) (by omega) h0
      · rw [if_neg e, if_neg e]
  have hfu : 1000 ≤ fu := by decide
  unfold m_X6_endOf k_end
  rw [ix_nI (show st < 160 by omega) (by decide), ob_some, h3 st hst, c_sort _ (h4 st hst), ob_some, na1]
  by_cases e : k_so (tb st) = 0
  · rw [if_pos e, e, show fu = 999999 + 1 from rfl, m_X6_endOf_17, if_neg (by decide), if_pos (show nI 0 = 0 from rfl)]
  · rw [if_neg e]
    exact key (ts - (st + 1)) (st + 1) 0 fu (by omega) (by omega) (by omega) e
theorem jw_len : ∀ t : Fin 12, m_J0_length_8abf5 (t.val + 1) = some (nI (k_wn t.val)) ∧ k_wn t.val ≤ 6 ∧ 2 ≤ k_wn t.val := by decide +kernel
theorem jw_chr : ∀ (t : Fin 12) (c : Fin 6), c.val < k_wn t.val → m_J0_charAt_5068e (t.val + 1) (nI c.val) = some (nI (k_wc t.val c.val)) ∧ 97 ≤ k_wc t.val c.val ∧ k_wc t.val c.val ≤ 122 := by decide +kernel
theorem spl_c : ∀ (t : Fin 12) (μ : ax_M), m_X6_spelled (nI t.val) μ = some (t.val + 1) := by
  intro t μ
  unfold m_X6_spelled
  match t with
  | ⟨0, _⟩ => rfl
  | ⟨1, _⟩ => rfl
  | ⟨2, _⟩ => rfl
  | ⟨3, _⟩ => rfl
  | ⟨4, _⟩ => rfl
  | ⟨5, _⟩ => rfl
  | ⟨6, _⟩ => rfl
  | ⟨7, _⟩ => rfl
  | ⟨8, _⟩ => rfl
  | ⟨9, _⟩ => rfl
  | ⟨10, _⟩ => rfl
  | ⟨11, _⟩ => rfl
theorem c_sps (h : TB ts tb μ) {t st en : Nat} (ht : t < 12) (hst : st < en) (hen : en ≤ ts) : m_X6_spells (t + 1) (nI st) (nI en) μ = some (bI (k_sp tb t st en)) := by
  obtain ⟨h1, h2, h3, h4⟩ := h
  obtain ⟨l1, l2, l3⟩ := jw_len ⟨t, ht⟩
  have l1' : m_J0_length_8abf5 (t + 1) = some (nI (k_wn t)) := l1
  have l2' : k_wn t ≤ 6 := l2
  have key : ∀ (m c k : Nat), k_wn t = en - st → c + m = k_wn t → m < k → m_X6_spells_15 (t + 1) (nI st) μ k (nI c) = some (bI (k_al (fun c => decide (k_wc t c = tb (st + c))) m c)) := by
    intro m
    induction m with
    | zero =>
      intro c k hw hc hk
      obtain ⟨k, rfl⟩ : ∃ k2, k = k2 + 1 := ⟨k - 1, by omega⟩
      rw [m_X6_spells_15, if_neg (by omega), l1', ob_some, if_pos (by rw [nleL (by omega) (by omega)]; omega)]
      rfl
    | succ m ih =>
      intro c k hw hc hk
      obtain ⟨k, rfl⟩ : ∃ k2, k = k2 + 1 := ⟨k - 1, by omega⟩
      obtain ⟨c1, c2, c3⟩ := jw_chr ⟨t, ht⟩ ⟨c, by omega⟩ (by show c < k_wn t; omega)
      have c1' : m_J0_charAt_5068e (t + 1) (nI c) = some (nI (k_wc t c)) := c1
      have c3' : k_wc t c ≤ 122 := c3
      have h255 := h4 (st + c) (by omega)
      rw [m_X6_spells_15, if_neg (by omega), l1', ob_some, if_neg (by rw [nleL (by omega) (by omega)]; omega), if_neg (by omega), c1', ob_some, nI_add, ix_nI (show st + c < 160 by omega) (by decide), ob_some, h3 (st + c) (by omega), na1]
      simp only [neqL (show k_wc t c < 2 ^ 31 by omega) (show tb (st + c) < 2 ^ 31 by omega)]
      rw [k_al]
      by_cases e : k_wc t c = tb (st + c)
      · rw [if_pos e, ih (c + 1) k hw (by omega) (by omega)]
        simp [e]
      · rw [if_neg e]
        simp [e, bI]
  have hfu : 1000 ≤ fu := by decide
  unfold m_X6_spells k_sp
  rw [if_neg (by omega), l1', ob_some, pk_sub (show st ≤ en by omega)]
  simp only [neqL (show k_wn t < 2 ^ 31 by omega) (show en - st < 2 ^ 31 by omega)]
  by_cases e : k_wn t = en - st
  · rw [if_pos e, show m_X6_spells_15 (t + 1) (nI st) μ fu 0 = _ from key (k_wn t) 0 fu e (by omega) (by omega)]
    simp [e]
  · rw [if_neg e]
    simp [e, bI]
theorem c_wrd (h : TB ts tb μ) {st en : Nat} (hst : st < en) (hen : en ≤ ts) : m_X6_word (nI st) (nI en) μ = some (nI (k_word tb st en)) := by
  have key : ∀ (m t k : Nat), t + m = 12 → m < k → m_X6_word_2 (nI st) (nI en) μ k (nI t) = some (nI (k_fst (fun t => k_sp tb t st en) 22 m t)) := by
    intro m
    induction m with
    | zero =>
      intro t k ht hk
      obtain ⟨k, rfl⟩ : ∃ k2, k = k2 + 1 := ⟨k - 1, by omega⟩
      rw [m_X6_word_2, if_pos (by rw [show (12 : Int32) = nI 12 from rfl, nleL (by omega) (by omega)]; omega)]
      rfl
    | succ m ih =>
      intro t k ht hk
      obtain ⟨k, rfl⟩ : ∃ k2, k = k2 + 1 := ⟨k - 1, by omega⟩
      rw [m_X6_word_2, if_neg (by rw [show (12 : Int32) = nI 12 from rfl, nleL (by omega) (by omega)]; omega), spl_c ⟨t, by omega⟩ μ, ob_some, c_sps h (show t < 12 by omega) hst hen, ob_some, k_fst]
      cases e : k_sp tb t st en with
      | true => rw [if_neg (by decide), if_pos rfl]
      | false =>
        rw [if_pos (by decide), if_neg (by simp), na1]
        exact ih (t + 1) k (by omega) (by omega)
  have hfu : 1000 ≤ fu := by decide
  exact key 12 0 fu (by omega) (by omega)
theorem dig_b {st : Nat} : ∀ m, (∀ q, st ≤ q → q < st + m → k_so (tb q) = 2) → k_dig tb st m < 10 ^ m
  | 0, _ => by
    show (0 : Nat) < 1
    omega
  | m + 1, h => by
    have h1 := dig_b m (fun q a b => h q a (by omega))
    have h2 := h (st + m) (by omega) (by omega)
    have h3 : 48 ≤ tb (st + m) ∧ tb (st + m) ≤ 57 := by
      unfold k_so at h2
      split at h2
      · omega
      · split at h2
        · assumption
        · omega
    rw [k_dig, Nat.pow_succ]
    omega
theorem dig_4 {st m : Nat} (hm : m ≤ 4) (h : ∀ q, st ≤ q → q < st + m → k_so (tb q) = 2) : k_dig tb st m < 10000 := by
  have h1 := dig_b m h
  have : m = 0 ∨ m = 1 ∨ m = 2 ∨ m = 3 ∨ m = 4 := by omega
  rcases this with rfl | rfl | rfl | rfl | rfl <;> simp at h1 <;> omega
theorem dig_b2 {b : Nat} (h : k_so b = 2) : 48 ≤ b ∧ b ≤ 57 := by
  unfold k_so at h
  split at h
  · omega
  · split at h
    · assumption
    · omega
theorem c_num (h : TB ts tb μ) {st en : Nat} (hst : st < en) (hen : en ≤ ts) (h4 : en - st ≤ 4) (hd : ∀ q, st ≤ q → q < en → k_so (tb q) = 2) : m_X6_number (nI st) (nI en) μ = some (nI (k_dig tb st (en - st))) := by
  obtain ⟨h1, h2, h3, -⟩ := h
  have key : ∀ (m q k : Nat), q + m = en - st → m < k → m_X6_number_5 (nI en) μ k (nI (k_dig tb st q)) (nI (st + q)) = some (nI (k_dig tb st (en - st))) := by
    intro m
    induction m with
    | zero =>
      intro q k hq hk
      obtain ⟨k, rfl⟩ : ∃ k2, k = k2 + 1 := ⟨k - 1, by omega⟩
      have : q = en - st := by omega
      subst this
      rw [m_X6_number_5, if_pos (by rw [nleL (by omega) (by omega)]; omega)]
    | succ m ih =>
      intro q k hq hk
      obtain ⟨k, rfl⟩ : ∃ k2, k = k2 + 1 := ⟨k - 1, by omega⟩
      obtain ⟨b1, b2⟩ := dig_b2 (hd (st + q) (by omega) (by omega))
      rw [m_X6_number_5, if_neg (by rw [nleL (by omega) (by omega)]; omega), ix_nI (show st + q < 160 by omega) (by decide), ob_some, h3 (st + q) (by omega), na1, show (10 : Int32) * nI (k_dig tb st q) = nI (10 * k_dig tb st q) from pk_mul 10 _, nI_add, show nI (10 * k_dig tb st q + tb (st + q)) - 48 = nI (10 * k_dig tb st q + tb (st + q) - 48) from pk_sub (b := 48) (by omega)]
      exact ih (q + 1) k (by omega) (by omega)
  have hfu : 1000 ≤ fu := by decide
  exact key (en - st) 0 fu (by omega) (by omega)
theorem c_sig0 : ∀ b : Fin 256, ((m_J0_indexOf_0f7a4 13 (((nI b.val).toUInt32 % 65536).toInt32)).bind fun v1 => if 0 ≤ v1 then some ((12 : Int32) + v1) else some 22) = some (nI (k_sig b.val)) := by decide +kernel
theorem c_sg {b : Nat} (hb : b ≤ 255) (μ : ax_M) : m_X6_sign (nI b) μ = some (nI (k_sig b)) := c_sig0 ⟨b, by omega⟩
theorem c_tok (h : TB ts tb μ) {st : Nat} (hst : st < ts) : m_X6_tokenOf (nI st) (nI (k_end tb ts st)) μ = some (nI (k_tok tb st (k_end tb ts st))) := by
  obtain ⟨e1, e2, e3⟩ := end_b (tb := tb) hst
  have h' := h
  obtain ⟨h1, h2, h3, h4⟩ := h'
  unfold m_X6_tokenOf k_tok
  rw [ix_nI (show st < 160 by omega) (by decide), ob_some, h3 st hst, c_sort _ (h4 st hst), ob_some]
  have hso := so_lt (tb st)
  simp only [show (nI (k_so (tb st)) = 1) = (k_so (tb st) = 1) from neqL (k := 1) (by omega) (by decide), show (nI (k_so (tb st)) = 2) = (k_so (tb st) = 2) from neqL (k := 2) (by omega) (by decide)]
  by_cases c1 : k_so (tb st) = 1
  · rw [if_pos c1, if_pos c1, c_wrd h e1 e2, ob_some]
  · rw [if_neg c1, if_neg c1]
    by_cases c2 : k_so (tb st) = 2
    · rw [if_pos c2, if_pos c2, pk_sub (show st ≤ k_end tb ts st by omega)]
      simp only [show (nI (k_end tb ts st - st) ≤ 4) = (k_end tb ts st - st ≤ 4) from nleL (k := 4) (by omega) (by decide)]
      by_cases c3 : k_end tb ts st - st ≤ 4
      · rw [if_pos c3, if_pos c3, c_num h e1 e2 c3 (fun q a b => by rw [e3 (by omega) q a b, c2]), ob_some, show (23 : Int32) + nI (k_dig tb st (k_end tb ts st - st)) = nI (23 + k_dig tb st (k_end tb ts st - st)) from nI_add 23 _]
      · rw [if_neg c3, if_neg c3]
        rfl
    · rw [if_neg c2, if_neg c2, ob_some, h3 st hst, c_sg (h4 st hst), ob_some]
end
