def m_X6_spells_15 (x1 : Nat) (x2 : Int32) (μ : ax_M) : Nat → Int32 → Option (Int32)
  | 0, _ => none
  | n + 1, x4 =>
    if 14 ≤ x1 then none else
    (m_J0_length_8abf5 x1).bind fun v2 =>
    if v2 ≤ x4 then
      some 1
    else
      if 14 ≤ x1 then none else
      (m_J0_charAt_5068e x1 x4).bind fun v6 =>
      (ix 160 (x2 + x4)).bind fun j8 =>
      if v6 = (μ 19 j8) then
        m_X6_spells_15 x1 x2 μ n (x4 + 1)
      else
        some 0
set_option maxRecDepth 100000 in
set_option maxHeartbeats 8000000 in
theorem a_X6_spells_15 {G : ax_G} {l : Launch} {sh : List ax_E} {x1 : Nat} {x2 : Int32} {μ : ax_M} (hs : ∀ (k : Nat) (e : ax_E), SHc[k]? = some e → sh[k]? = some e) : ∀ (n : Nat) (x4 : Int32) (v : Int32), m_X6_spells_15 x1 x2 μ n x4 = some v → ax_X G l RX6 cX6_spells 5 (some .boolean) false 7 (some (.int v), sh, μ) 15 [(0, .ref (G.1 + 18)), (1, .ref (G.2.2.2.1 (x1))), (2, .int x2), (4, .int x4)] [] sh μ := by
  intro n
  induction n with
  | zero =>
    intro x4 v h
    rw [m_X6_spells_15] at h
    cases h
  | succ n ih =>
    intro x4 v h
    rw [m_X6_spells_15] at h
    refine ax_iload (pc := 15) (q := 3) (ax_dd KX6_spells 10 rfl) rfl ?_
    refine ax_aload_n (pc := 17) (i := 1) (q := 1) (ax_dd KX6_spells 11 rfl) rfl rfl ?_
    by_cases c1 : 14 ≤ x1
    · rw [if_pos c1] at h
      cases h
    rw [if_neg c1] at h
    obtain ⟨v2, b3, h⟩ := ob_bind h
    refine ax_kVS (pc := 18) (i := x1) (As := []) (rest := [.int x4]) (st1 := [.int v2, .int x4]) (μ1 := μ) (ax_dd KX6_spells 12 rfl) (c_J0_length_8abf5 (Nat.not_le.mp c1) b3) (Nat.not_le.mp c1) kV_X6_60 e_J0_length_8abf5 rfl rfl rfl (by decide) (by decide) (Nat.le_of_ble_eq_true rfl) rfl ?_
    by_cases c4 : v2 ≤ x4
    · rw [if_pos c4] at h
      refine ax_icmp_ge_t (pc := 21) (tgt := 50) (ax_dd KX6_spells 13 rfl) (by decide) c4 ?_
      refine ax_iconst (pc := 50) (v := 1) (ax_dd KX6_spells 28 rfl) (by decide) ?_
      obtain rfl := Option.some.inj h
      exact ax_ireti (pc := 51) (ax_dd KX6_spells 29 rfl) ⟨_, rfl, rfl⟩ rfl
    · rw [if_neg c4] at h
      refine ax_icmp_ge_f (pc := 21) (tgt := 50) (ax_dd KX6_spells 13 rfl) (by decide) c4 ?_
      refine ax_aload_n (pc := 24) (i := 1) (q := 1) (ax_dd KX6_spells 14 rfl) rfl rfl ?_
      refine ax_iload (pc := 25) (q := 3) (ax_dd KX6_spells 15 rfl) rfl ?_
      by_cases c5 : 14 ≤ x1
      · rw [if_pos c5] at h
        cases h
      rw [if_neg c5] at h
      obtain ⟨v6, b7, h⟩ := ob_bind h
      refine ax_kVS (pc := 27) (i := x1) (As := [.int x4]) (rest := []) (st1 := [.int v6]) (μ1 := μ) (ax_dd KX6_spells 16 rfl) (c_J0_charAt_5068e (Nat.not_le.mp c5) b7) (Nat.not_le.mp c5) kV_X6_66 e_J0_charAt_5068e rfl rfl rfl (by decide) (by decide) (Nat.le_of_ble_eq_true rfl) rfl ?_
      refine ax_aload_n (pc := 30) (i := 0) (q := 0) (ax_dd KX6_spells 17 rfl) rfl rfl ?_
      refine ax_getR (pc := 31) (k := 18) (q := 19) (ax_dd KX6_spells 18 rfl) f_X6_9 (hs 18 _ rfl) rfl ?_
      refine ax_iload_n (pc := 34) (i := 2) (q := 2) (ax_dd KX6_spells 19 rfl) rfl rfl ?_
      refine ax_iload (pc := 35) (q := 3) (ax_dd KX6_spells 20 rfl) rfl ?_
      refine ax_iadd (pc := 37) (ax_dd KX6_spells 21 rfl) ?_
      obtain ⟨j8, b9, h⟩ := ob_bind h
      refine ax_ild (pc := 38) (k := 19) (N := 160) (j := j8) (ax_dd KX6_spells 22 rfl) (hs 19 _ rfl) b9 ?_
      by_cases c10 : v6 = (μ 19 j8)
      · rw [if_pos c10] at h
        refine ax_icmp_eq_t (pc := 39) (tgt := 44) (ax_dd KX6_spells 23 rfl) (by decide) c10 ?_
        refine ax_iinc (pc := 44) (q := 3) (v := (x4 + 1)) (lv' := [(4, .int (x4 + 1)), (0, .ref (G.1 + 18)), (1, .ref (G.2.2.2.1 (x1))), (2, .int x2)]) (ax_dd KX6_spells 26 rfl) rfl rfl (by decide) rfl ?_
        refine ax_goto (pc := 47) (tgt := 15) (ax_dd KX6_spells 27 rfl) (by decide) ?_
        refine ax_sub (lv' := [(0, .ref (G.1 + 18)), (1, .ref (G.2.2.2.1 (x1))), (2, .int x2), (4, .int (x4 + 1))]) [1, 2, 3, 0] rfl ?_
        exact ih _ _ h
      · rw [if_neg c10] at h
        refine ax_icmp_eq_f (pc := 39) (tgt := 44) (ax_dd KX6_spells 23 rfl) (by decide) c10 ?_
        refine ax_iconst (pc := 42) (v := 0) (ax_dd KX6_spells 24 rfl) (by decide) ?_
        obtain rfl := Option.some.inj h
        exact ax_ireti (pc := 43) (ax_dd KX6_spells 25 rfl) ⟨_, rfl, rfl⟩ rfl
def m_X6_spells (x1 : Nat) (x2 : Int32) (x3 : Int32) (μ : ax_M) : Option (Int32) :=
  if 14 ≤ x1 then none else
  (m_J0_length_8abf5 x1).bind fun v2 =>
  if v2 = (x3 - x2) then
    m_X6_spells_15 x1 x2 μ fu 0
  else
    some 0
set_option maxRecDepth 100000 in
set_option maxHeartbeats 8000000 in
theorem c_X6_spells {G : ax_G} {l : Launch} {sh : List ax_E} {x1 : Nat} {x2 : Int32} {x3 : Int32} {μ : ax_M} (hs : ∀ (k : Nat) (e : ax_E), SHc[k]? = some e → sh[k]? = some e) {v : Int32} (h : m_X6_spells x1 x2 x3 μ = some v) : ax_A G l yX6_spells cX6_spells 5 (some .boolean) 7 [.ref (G.1 + 18), .ref (G.2.2.2.1 (x1)), .int x2, .int x3] sh μ (some (.int v), sh, μ) := by
  refine ax_A.of false (by decide +kernel) (fun h9 => by cases h9) (Nat.le_of_ble_eq_true rfl) (?_ : ax_X G l RX6 cX6_spells 5 (some .boolean) false 7 (some (.int v), sh, μ) 0 [(0, .ref (G.1 + 18)), (1, .ref (G.2.2.2.1 (x1))), (2, .int x2), (3, .int x3)] [] sh μ)
  unfold m_X6_spells at h
  refine ax_aload_n (pc := 0) (i := 1) (q := 1) (ax_dd KX6_spells 0 rfl) rfl rfl ?_
  by_cases c1 : 14 ≤ x1
  · rw [if_pos c1] at h
    cases h
  rw [if_neg c1] at h
  obtain ⟨v2, b3, h⟩ := ob_bind h
  refine ax_kVS (pc := 1) (i := x1) (As := []) (rest := []) (st1 := [.int v2]) (μ1 := μ) (ax_dd KX6_spells 1 rfl) (c_J0_length_8abf5 (Nat.not_le.mp c1) b3) (Nat.not_le.mp c1) kV_X6_60 e_J0_length_8abf5 rfl rfl rfl (by decide) (by decide) (Nat.le_of_ble_eq_true rfl) rfl ?_
  refine ax_iload_n (pc := 4) (i := 3) (q := 3) (ax_dd KX6_spells 2 rfl) rfl rfl ?_
  refine ax_iload_n (pc := 5) (i := 2) (q := 2) (ax_dd KX6_spells 3 rfl) rfl rfl ?_
  refine ax_isub (pc := 6) (ax_dd KX6_spells 4 rfl) ?_
  by_cases c4 : v2 = (x3 - x2)
  · rw [if_pos c4] at h
    refine ax_icmp_eq_t (pc := 7) (tgt := 12) (ax_dd KX6_spells 5 rfl) (by decide) c4 ?_
    refine ax_iconst (pc := 12) (v := 0) (ax_dd KX6_spells 8 rfl) (by decide) ?_
    refine ax_istore (pc := 13) (lv' := [(4, .int 0), (0, .ref (G.1 + 18)), (1, .ref (G.2.2.2.1 (x1))), (2, .int x2), (3, .int x3)]) (ax_dd KX6_spells 9 rfl) (by decide) rfl ?_
    refine ax_sub (lv' := [(0, .ref (G.1 + 18)), (1, .ref (G.2.2.2.1 (x1))), (2, .int x2), (4, .int 0)]) [1, 2, 3, 0] rfl ?_
    exact a_X6_spells_15 hs fu _ _ h
  · rw [if_neg c4] at h
    refine ax_icmp_eq_f (pc := 7) (tgt := 12) (ax_dd KX6_spells 5 rfl) (by decide) c4 ?_
    refine ax_iconst (pc := 10) (v := 0) (ax_dd KX6_spells 6 rfl) (by decide) ?_
    obtain rfl := Option.some.inj h
    exact ax_ireti (pc := 11) (ax_dd KX6_spells 7 rfl) ⟨_, rfl, rfl⟩ rfl
def m_X6_word_2 (x1 : Int32) (x2 : Int32) (μ : ax_M) : Nat → Int32 → Option (Int32)
  | 0, _ => none
  | n + 1, x3 =>
    if 12 ≤ x3 then
      some 22
    else
      (m_X6_spelled x3 μ).bind fun v2 =>
      (m_X6_spells v2 x1 x2 μ).bind fun v4 =>
      if v4 = 0 then
        m_X6_word_2 x1 x2 μ n (x3 + 1)
      else
        some x3
set_option maxRecDepth 100000 in
set_option maxHeartbeats 8000000 in
theorem a_X6_word_2 {G : ax_G} {l : Launch} {sh : List ax_E} {x1 : Int32} {x2 : Int32} {μ : ax_M} (hs : ∀ (k : Nat) (e : ax_E), SHc[k]? = some e → sh[k]? = some e) : ∀ (n : Nat) (x3 : Int32) (v : Int32), m_X6_word_2 x1 x2 μ n x3 = some v → ax_X G l RX6 cX6_word 4 (some .int) false 8 (some (.int v), sh, μ) 2 [(0, .ref (G.1 + 18)), (1, .int x1), (2, .int x2), (3, .int x3)] [] sh μ := by
  intro n
  induction n with
  | zero =>
    intro x3 v h
    rw [m_X6_word_2] at h
    cases h
  | succ n ih =>
    intro x3 v h
    rw [m_X6_word_2] at h
    refine ax_iload_n (pc := 2) (i := 3) (q := 3) (ax_dd KX6_word 2 rfl) rfl rfl ?_
    refine ax_bipush (pc := 3) (v := 12) (ax_dd KX6_word 3 rfl) (by decide) ?_
    by_cases c1 : 12 ≤ x3
    · rw [if_pos c1] at h
      refine ax_icmp_ge_t (pc := 5) (tgt := 29) (ax_dd KX6_word 4 rfl) (by decide) c1 ?_
      refine ax_bipush (pc := 29) (v := 22) (ax_dd KX6_word 16 rfl) (by decide) ?_
      obtain rfl := Option.some.inj h
      exact ax_ireti (pc := 31) (ax_dd KX6_word 17 rfl) ⟨_, rfl, rfl⟩ rfl
    · rw [if_neg c1] at h
      refine ax_icmp_ge_f (pc := 5) (tgt := 29) (ax_dd KX6_word 4 rfl) (by decide) c1 ?_
      refine ax_aload_n (pc := 8) (i := 0) (q := 0) (ax_dd KX6_word 5 rfl) rfl rfl ?_
      refine ax_iload_n (pc := 9) (i := 3) (q := 3) (ax_dd KX6_word 6 rfl) rfl rfl ?_
      obtain ⟨v2, b3, h⟩ := ob_bind h
      refine ax_kS (pc := 10) (As := [.int x3]) (rest := [.ref (G.1 + 18)]) (st1 := [.ref (G.2.2.2.1 (v2)), .ref (G.1 + 18)]) (μ1 := μ) (ax_dd KX6_word 7 rfl) (c_X6_spelled hs b3) kS_X6_52 e_X6_spelled rfl rfl (by decide) (by decide) (Nat.le_of_ble_eq_true rfl) rfl ?_
      refine ax_iload_n (pc := 13) (i := 1) (q := 1) (ax_dd KX6_word 8 rfl) rfl rfl ?_
      refine ax_iload_n (pc := 14) (i := 2) (q := 2) (ax_dd KX6_word 9 rfl) rfl rfl ?_
      obtain ⟨v4, b5, h⟩ := ob_bind h
      refine ax_kV (pc := 15) (ci := 6) (k := 18) (As := [.ref (G.2.2.2.1 (v2)), .int x1, .int x2]) (rest := []) (st1 := [.int v4]) (μ1 := μ) (ax_dd KX6_word 10 rfl) (c_X6_spells hs b5) kV_X6_56 e_X6_spells (hs 18 _ rfl) cl_X6 (by decide) rfl rfl (by decide) (by decide) (Nat.le_of_ble_eq_true rfl) rfl ?_
      by_cases c6 : v4 = 0
      · rw [if_pos c6] at h
        refine ax_if_eq_t (pc := 18) (tgt := 23) (ax_dd KX6_word 11 rfl) (by decide) c6 ?_
        refine ax_iinc (pc := 23) (q := 3) (v := (x3 + 1)) (lv' := [(3, .int (x3 + 1)), (0, .ref (G.1 + 18)), (1, .int x1), (2, .int x2)]) (ax_dd KX6_word 14 rfl) rfl rfl (by decide) rfl ?_
        refine ax_goto (pc := 26) (tgt := 2) (ax_dd KX6_word 15 rfl) (by decide) ?_
        refine ax_sub (lv' := [(0, .ref (G.1 + 18)), (1, .int x1), (2, .int x2), (3, .int (x3 + 1))]) [1, 2, 3, 0] rfl ?_
        exact ih _ _ h
      · rw [if_neg c6] at h
        refine ax_if_eq_f (pc := 18) (tgt := 23) (ax_dd KX6_word 11 rfl) (by decide) c6 ?_
        refine ax_iload_n (pc := 21) (i := 3) (q := 3) (ax_dd KX6_word 12 rfl) rfl rfl ?_
        obtain rfl := Option.some.inj h
        exact ax_ireti (pc := 22) (ax_dd KX6_word 13 rfl) ⟨_, rfl, rfl⟩ rfl
def m_X6_word (x1 : Int32) (x2 : Int32) (μ : ax_M) : Option (Int32) :=
  m_X6_word_2 x1 x2 μ fu 0
set_option maxRecDepth 100000 in
set_option maxHeartbeats 8000000 in
theorem c_X6_word {G : ax_G} {l : Launch} {sh : List ax_E} {x1 : Int32} {x2 : Int32} {μ : ax_M} (hs : ∀ (k : Nat) (e : ax_E), SHc[k]? = some e → sh[k]? = some e) {v : Int32} (h : m_X6_word x1 x2 μ = some v) : ax_A G l yX6_word cX6_word 4 (some .int) 8 [.ref (G.1 + 18), .int x1, .int x2] sh μ (some (.int v), sh, μ) := by
  refine ax_A.of false (by decide +kernel) (fun h9 => by cases h9) (Nat.le_of_ble_eq_true rfl) (?_ : ax_X G l RX6 cX6_word 4 (some .int) false 8 (some (.int v), sh, μ) 0 [(0, .ref (G.1 + 18)), (1, .int x1), (2, .int x2)] [] sh μ)
  unfold m_X6_word at h
  refine ax_iconst (pc := 0) (v := 0) (ax_dd KX6_word 0 rfl) (by decide) ?_
  refine ax_istore_n (pc := 1) (i := 3) (lv' := [(3, .int 0), (0, .ref (G.1 + 18)), (1, .int x1), (2, .int x2)]) (ax_dd KX6_word 1 rfl) rfl (by decide) rfl ?_
  refine ax_sub (lv' := [(0, .ref (G.1 + 18)), (1, .int x1), (2, .int x2), (3, .int 0)]) [1, 2, 3, 0] rfl ?_
  exact a_X6_word_2 hs fu _ _ h
def m_X6_number_5 (x2 : Int32) (μ : ax_M) : Nat → Int32 → Int32 → Option (Int32)
  | 0, _, _ => none
  | n + 1, x3, x4 =>
    if x2 ≤ x4 then
      some x3
    else
      (ix 160 x4).bind fun j2 =>
      m_X6_number_5 x2 μ n ((((10 : Int32) * x3) + (μ 19 j2)) - 48) (x4 + 1)
set_option maxRecDepth 100000 in
set_option maxHeartbeats 8000000 in
theorem a_X6_number_5 {G : ax_G} {l : Launch} {sh : List ax_E} {x2 : Int32} {μ : ax_M} (hs : ∀ (k : Nat) (e : ax_E), SHc[k]? = some e → sh[k]? = some e) : ∀ (n : Nat) (x3 : Int32) (x4 : Int32) (v : Int32), m_X6_number_5 x2 μ n x3 x4 = some v → ax_X G l RX6 cX6_number 5 (some .int) false 2 (some (.int v), sh, μ) 5 [(0, .ref (G.1 + 18)), (2, .int x2), (3, .int x3), (4, .int x4)] [] sh μ := by
  intro n
  induction n with
  | zero =>
    intro x3 x4 v h
    rw [m_X6_number_5] at h
    cases h
  | succ n ih =>
    intro x3 x4 v h
    rw [m_X6_number_5] at h
    refine ax_iload (pc := 5) (q := 3) (ax_dd KX6_number 4 rfl) rfl ?_
    refine ax_iload_n (pc := 7) (i := 2) (q := 1) (ax_dd KX6_number 5 rfl) rfl rfl ?_
    by_cases c1 : x2 ≤ x4
    · rw [if_pos c1] at h
      refine ax_icmp_ge_t (pc := 8) (tgt := 33) (ax_dd KX6_number 6 rfl) (by decide) c1 ?_
      refine ax_iload_n (pc := 33) (i := 3) (q := 2) (ax_dd KX6_number 20 rfl) rfl rfl ?_
      obtain rfl := Option.some.inj h
      exact ax_ireti (pc := 34) (ax_dd KX6_number 21 rfl) ⟨_, rfl, rfl⟩ rfl
    · rw [if_neg c1] at h
      refine ax_icmp_ge_f (pc := 8) (tgt := 33) (ax_dd KX6_number 6 rfl) (by decide) c1 ?_
      refine ax_bipush (pc := 11) (v := 10) (ax_dd KX6_number 7 rfl) (by decide) ?_
      refine ax_iload_n (pc := 13) (i := 3) (q := 2) (ax_dd KX6_number 8 rfl) rfl rfl ?_
      refine ax_imul (pc := 14) (ax_dd KX6_number 9 rfl) ?_
      refine ax_aload_n (pc := 15) (i := 0) (q := 0) (ax_dd KX6_number 10 rfl) rfl rfl ?_
      refine ax_getR (pc := 16) (k := 18) (q := 19) (ax_dd KX6_number 11 rfl) f_X6_9 (hs 18 _ rfl) rfl ?_
      refine ax_iload (pc := 19) (q := 3) (ax_dd KX6_number 12 rfl) rfl ?_
      obtain ⟨j2, b3, h⟩ := ob_bind h
      refine ax_ild (pc := 21) (k := 19) (N := 160) (j := j2) (ax_dd KX6_number 13 rfl) (hs 19 _ rfl) b3 ?_
      refine ax_iadd (pc := 22) (ax_dd KX6_number 14 rfl) ?_
      refine ax_bipush (pc := 23) (v := 48) (ax_dd KX6_number 15 rfl) (by decide) ?_
      refine ax_isub (pc := 25) (ax_dd KX6_number 16 rfl) ?_
      refine ax_istore_n (pc := 26) (i := 3) (lv' := [(3, .int ((((10 : Int32) * x3) + (μ 19 j2)) - 48)), (0, .ref (G.1 + 18)), (2, .int x2), (4, .int x4)]) (ax_dd KX6_number 17 rfl) rfl (by decide) rfl ?_
      refine ax_iinc (pc := 27) (q := 3) (v := (x4 + 1)) (lv' := [(4, .int (x4 + 1)), (3, .int ((((10 : Int32) * x3) + (μ 19 j2)) - 48)), (0, .ref (G.1 + 18)), (2, .int x2)]) (ax_dd KX6_number 18 rfl) rfl rfl (by decide) rfl ?_
      refine ax_goto (pc := 30) (tgt := 5) (ax_dd KX6_number 19 rfl) (by decide) ?_
      refine ax_sub (lv' := [(0, .ref (G.1 + 18)), (2, .int x2), (3, .int ((((10 : Int32) * x3) + (μ 19 j2)) - 48)), (4, .int (x4 + 1))]) [2, 3, 1, 0] rfl ?_
      exact ih _ _ _ h
def m_X6_number (x1 : Int32) (x2 : Int32) (μ : ax_M) : Option (Int32) :=
  m_X6_number_5 x2 μ fu 0 x1
set_option maxRecDepth 100000 in
set_option maxHeartbeats 8000000 in
theorem c_X6_number {G : ax_G} {l : Launch} {sh : List ax_E} {x1 : Int32} {x2 : Int32} {μ : ax_M} (hs : ∀ (k : Nat) (e : ax_E), SHc[k]? = some e → sh[k]? = some e) {v : Int32} (h : m_X6_number x1 x2 μ = some v) : ax_A G l yX6_number cX6_number 5 (some .int) 2 [.ref (G.1 + 18), .int x1, .int x2] sh μ (some (.int v), sh, μ) := by
  refine ax_A.of false (by decide +kernel) (fun h9 => by cases h9) (Nat.le_of_ble_eq_true rfl) (?_ : ax_X G l RX6 cX6_number 5 (some .int) false 2 (some (.int v), sh, μ) 0 [(0, .ref (G.1 + 18)), (1, .int x1), (2, .int x2)] [] sh μ)
  unfold m_X6_number at h
  refine ax_iconst (pc := 0) (v := 0) (ax_dd KX6_number 0 rfl) (by decide) ?_
  refine ax_istore_n (pc := 1) (i := 3) (lv' := [(3, .int 0), (0, .ref (G.1 + 18)), (1, .int x1), (2, .int x2)]) (ax_dd KX6_number 1 rfl) rfl (by decide) rfl ?_
  refine ax_iload_n (pc := 2) (i := 1) (q := 2) (ax_dd KX6_number 2 rfl) rfl rfl ?_
  refine ax_istore (pc := 3) (lv' := [(4, .int x1), (3, .int 0), (0, .ref (G.1 + 18)), (1, .int x1), (2, .int x2)]) (ax_dd KX6_number 3 rfl) (by decide) rfl ?_
  refine ax_sub (lv' := [(0, .ref (G.1 + 18)), (2, .int x2), (3, .int 0), (4, .int x1)]) [2, 4, 1, 0] rfl ?_
  exact a_X6_number_5 hs fu _ _ _ h
def m_X6_sign (x0 : Int32) (μ : ax_M) : Option (Int32) :=
  (m_J0_indexOf_0f7a4 13 ((x0.toUInt32 % 65536).toInt32)).bind fun v1 =>
  if 0 ≤ v1 then
    some ((12 : Int32) + v1)
  else
    some 22
set_option maxRecDepth 100000 in
set_option maxHeartbeats 8000000 in
theorem c_X6_sign {G : ax_G} {l : Launch} {sh : List ax_E} {x0 : Int32} {μ : ax_M} (hs : ∀ (k : Nat) (e : ax_E), SHc[k]? = some e → sh[k]? = some e) {v : Int32} (h : m_X6_sign x0 μ = some v) : ax_A G l yX6_sign cX6_sign 2 (some .int) 9 [.int x0] sh μ (some (.int v), sh, μ) := by
  refine ax_A.of false (by decide +kernel) (fun h9 => by cases h9) (Nat.le_of_ble_eq_true rfl) (?_ : ax_X G l RX6 cX6_sign 2 (some .int) false 9 (some (.int v), sh, μ) 0 [(0, .int x0)] [] sh μ)
  unfold m_X6_sign at h
  refine ax_ldcS (pc := 0) (i := 13) (ax_dd KX6_sign 0 rfl) rfl rfl rfl ?_
  refine ax_iload_n (pc := 2) (i := 0) (q := 0) (ax_dd KX6_sign 1 rfl) rfl rfl ?_
  refine ax_i2c (pc := 3) (ax_dd KX6_sign 2 rfl) ?_
  obtain ⟨v1, b2, h⟩ := ob_bind h
  refine ax_kVS (pc := 4) (i := 13) (As := [.int ((x0.toUInt32 % 65536).toInt32)]) (rest := []) (st1 := [.int v1]) (μ1 := μ) (ax_dd KX6_sign 3 rfl) (c_J0_indexOf_0f7a4 (by decide) b2) (by decide) kV_X6_95 e_J0_indexOf_0f7a4 rfl rfl rfl (by decide) (by decide) (Nat.le_of_ble_eq_true rfl) rfl ?_
  refine ax_istore_n (pc := 7) (i := 1) (lv' := [(1, .int v1), (0, .int x0)]) (ax_dd KX6_sign 4 rfl) rfl (by decide) rfl ?_
  refine ax_iload_n (pc := 8) (i := 1) (q := 0) (ax_dd KX6_sign 5 rfl) rfl rfl ?_
  by_cases c3 : 0 ≤ v1
  · rw [if_pos c3] at h
    refine ax_if_ge_t (pc := 9) (tgt := 17) (ax_dd KX6_sign 6 rfl) (by decide) c3 ?_
    refine ax_bipush (pc := 17) (v := 12) (ax_dd KX6_sign 9 rfl) (by decide) ?_
    refine ax_iload_n (pc := 19) (i := 1) (q := 0) (ax_dd KX6_sign 10 rfl) rfl rfl ?_
    refine ax_iadd (pc := 20) (ax_dd KX6_sign 11 rfl) ?_
    obtain rfl := Option.some.inj h
    exact ax_ireti (pc := 21) (ax_dd KX6_sign 12 rfl) ⟨_, rfl, rfl⟩ rfl
  · rw [if_neg c3] at h
    refine ax_if_ge_f (pc := 9) (tgt := 17) (ax_dd KX6_sign 6 rfl) (by decide) c3 ?_
    refine ax_bipush (pc := 12) (v := 22) (ax_dd KX6_sign 7 rfl) (by decide) ?_
    refine ax_goto (pc := 14) (tgt := 21) (ax_dd KX6_sign 8 rfl) (by decide) ?_
    obtain rfl := Option.some.inj h
    exact ax_ireti (pc := 21) (ax_dd KX6_sign 12 rfl) ⟨_, rfl, rfl⟩ rfl
def m_X6_tokenOf (x1 : Int32) (x2 : Int32) (μ : ax_M) : Option (Int32) :=
  (ix 160 x1).bind fun j1 =>
  (m_X6_sortOf (μ 19 j1) μ).bind fun v3 =>
  if v3 = 1 then
    (m_X6_word x1 x2 μ).bind fun v6 =>
    some v6
  else
    if v3 = 2 then
      if (x2 - x1) ≤ 4 then
        (m_X6_number x1 x2 μ).bind fun v10 =>
        some ((23 : Int32) + v10)
      else
        some 22
    else
      (ix 160 x1).bind fun j12 =>
      (m_X6_sign (μ 19 j12) μ).bind fun v14 =>
      some v14
set_option maxRecDepth 100000 in
set_option maxHeartbeats 8000000 in
theorem c_X6_tokenOf {G : ax_G} {l : Launch} {sh : List ax_E} {x1 : Int32} {x2 : Int32} {μ : ax_M} (hs : ∀ (k : Nat) (e : ax_E), SHc[k]? = some e → sh[k]? = some e) {v : Int32} (h : m_X6_tokenOf x1 x2 μ = some v) : ax_A G l yX6_tokenOf cX6_tokenOf 3 (some .int) 10 [.ref (G.1 + 18), .int x1, .int x2] sh μ (some (.int v), sh, μ) := by
  refine ax_A.of false (by decide +kernel) (fun h9 => by cases h9) (Nat.le_of_ble_eq_true rfl) (?_ : ax_X G l RX6 cX6_tokenOf 3 (some .int) false 10 (some (.int v), sh, μ) 0 [(0, .ref (G.1 + 18)), (1, .int x1), (2, .int x2)] [] sh μ)
  unfold m_X6_tokenOf at h
  refine ax_aload_n (pc := 0) (i := 0) (q := 0) (ax_dd KX6_tokenOf 0 rfl) rfl rfl ?_
  refine ax_getR (pc := 1) (k := 18) (q := 19) (ax_dd KX6_tokenOf 1 rfl) f_X6_9 (hs 18 _ rfl) rfl ?_
  refine ax_iload_n (pc := 4) (i := 1) (q := 1) (ax_dd KX6_tokenOf 2 rfl) rfl rfl ?_
  obtain ⟨j1, b2, h⟩ := ob_bind h
  refine ax_ild (pc := 5) (k := 19) (N := 160) (j := j1) (ax_dd KX6_tokenOf 3 rfl) (hs 19 _ rfl) b2 ?_
  obtain ⟨v3, b4, h⟩ := ob_bind h
  refine ax_kS (pc := 6) (As := [.int (μ 19 j1)]) (rest := []) (st1 := [.int v3]) (μ1 := μ) (ax_dd KX6_tokenOf 4 rfl) (c_X6_sortOf hs b4) kS_X6_40 e_X6_sortOf rfl rfl (by decide) (by decide) (Nat.le_of_ble_eq_true rfl) rfl ?_
  by_cases c5 : v3 = 1
  · rw [if_pos c5] at h
    refine ax_look (pc := 9) (off := 27) (tgt := 36) (ax_dd KX6_tokenOf 5 rfl) (by decide) (by rw [c5]; rfl) (by decide) ?_
    refine ax_aload_n (pc := 36) (i := 0) (q := 0) (ax_dd KX6_tokenOf 6 rfl) rfl rfl ?_
    refine ax_iload_n (pc := 37) (i := 1) (q := 1) (ax_dd KX6_tokenOf 7 rfl) rfl rfl ?_
    refine ax_iload_n (pc := 38) (i := 2) (q := 2) (ax_dd KX6_tokenOf 8 rfl) rfl rfl ?_
    obtain ⟨v6, b7, h⟩ := ob_bind h
    refine ax_kV (pc := 39) (ci := 6) (k := 18) (As := [.int x1, .int x2]) (rest := []) (st1 := [.int v6]) (μ1 := μ) (ax_dd KX6_tokenOf 9 rfl) (c_X6_word hs b7) kV_X6_43 e_X6_word (hs 18 _ rfl) cl_X6 (by decide) rfl rfl (by decide) (by decide) (Nat.le_of_ble_eq_true rfl) rfl ?_
    obtain rfl := Option.some.inj h
    exact ax_ireti (pc := 42) (ax_dd KX6_tokenOf 10 rfl) ⟨_, rfl, rfl⟩ rfl
  · rw [if_neg c5] at h
    by_cases c8 : v3 = 2
    · rw [if_pos c8] at h
      refine ax_look (pc := 9) (off := 34) (tgt := 43) (ax_dd KX6_tokenOf 5 rfl) (by decide) (by rw [c8]; rfl) (by decide) ?_
      refine ax_iload_n (pc := 43) (i := 2) (q := 2) (ax_dd KX6_tokenOf 11 rfl) rfl rfl ?_
      refine ax_iload_n (pc := 44) (i := 1) (q := 1) (ax_dd KX6_tokenOf 12 rfl) rfl rfl ?_
      refine ax_isub (pc := 45) (ax_dd KX6_tokenOf 13 rfl) ?_
      refine ax_iconst (pc := 46) (v := 4) (ax_dd KX6_tokenOf 14 rfl) (by decide) ?_
      by_cases c9 : (x2 - x1) ≤ 4
      · rw [if_pos c9] at h
        refine ax_icmp_le_t (pc := 47) (tgt := 55) (ax_dd KX6_tokenOf 15 rfl) (by decide) c9 ?_
        refine ax_bipush (pc := 55) (v := 23) (ax_dd KX6_tokenOf 18 rfl) (by decide) ?_
        refine ax_aload_n (pc := 57) (i := 0) (q := 0) (ax_dd KX6_tokenOf 19 rfl) rfl rfl ?_
        refine ax_iload_n (pc := 58) (i := 1) (q := 1) (ax_dd KX6_tokenOf 20 rfl) rfl rfl ?_
        refine ax_iload_n (pc := 59) (i := 2) (q := 2) (ax_dd KX6_tokenOf 21 rfl) rfl rfl ?_
        obtain ⟨v10, b11, h⟩ := ob_bind h
        refine ax_kV (pc := 60) (ci := 6) (k := 18) (As := [.int x1, .int x2]) (rest := [.int 23]) (st1 := [.int v10, .int 23]) (μ1 := μ) (ax_dd KX6_tokenOf 22 rfl) (c_X6_number hs b11) kV_X6_46 e_X6_number (hs 18 _ rfl) cl_X6 (by decide) rfl rfl (by decide) (by decide) (Nat.le_of_ble_eq_true rfl) rfl ?_
        refine ax_iadd (pc := 63) (ax_dd KX6_tokenOf 23 rfl) ?_
        obtain rfl := Option.some.inj h
        exact ax_ireti (pc := 64) (ax_dd KX6_tokenOf 24 rfl) ⟨_, rfl, rfl⟩ rfl
      · rw [if_neg c9] at h
        refine ax_icmp_le_f (pc := 47) (tgt := 55) (ax_dd KX6_tokenOf 15 rfl) (by decide) c9 ?_
        refine ax_bipush (pc := 50) (v := 22) (ax_dd KX6_tokenOf 16 rfl) (by decide) ?_
        refine ax_goto (pc := 52) (tgt := 64) (ax_dd KX6_tokenOf 17 rfl) (by decide) ?_
        obtain rfl := Option.some.inj h
        exact ax_ireti (pc := 64) (ax_dd KX6_tokenOf 24 rfl) ⟨_, rfl, rfl⟩ rfl
    · rw [if_neg c8] at h
      refine ax_look (pc := 9) (off := 56) (tgt := 65) (ax_dd KX6_tokenOf 5 rfl) (by decide) ((lv_osw c5 rfl).trans ((lv_osw c8 rfl).trans (rfl))) (by decide) ?_
      refine ax_aload_n (pc := 65) (i := 0) (q := 0) (ax_dd KX6_tokenOf 25 rfl) rfl rfl ?_
      refine ax_getR (pc := 66) (k := 18) (q := 19) (ax_dd KX6_tokenOf 26 rfl) f_X6_9 (hs 18 _ rfl) rfl ?_
      refine ax_iload_n (pc := 69) (i := 1) (q := 1) (ax_dd KX6_tokenOf 27 rfl) rfl rfl ?_
      obtain ⟨j12, b13, h⟩ := ob_bind h
      refine ax_ild (pc := 70) (k := 19) (N := 160) (j := j12) (ax_dd KX6_tokenOf 28 rfl) (hs 19 _ rfl) b13 ?_
      obtain ⟨v14, b15, h⟩ := ob_bind h
      refine ax_kS (pc := 71) (As := [.int (μ 19 j12)]) (rest := []) (st1 := [.int v14]) (μ1 := μ) (ax_dd KX6_tokenOf 29 rfl) (c_X6_sign hs b15) kS_X6_49 e_X6_sign rfl rfl (by decide) (by decide) (Nat.le_of_ble_eq_true rfl) rfl ?_
      obtain rfl := Option.some.inj h
      exact ax_ireti (pc := 74) (ax_dd KX6_tokenOf 30 rfl) ⟨_, rfl, rfl⟩ rfl
def m_X6_note (x1 : Int32) (x2 : Int32) (μ : ax_M) : Option (ax_M) :=
  if 160 < (μ 18 4) then
    some μ
  else
    (ix 161 (μ 18 4)).bind fun j2 =>
    (ix 161 ((ax_w μ 20 j2 x1) 18 4)).bind fun j4 =>
    some (ax_w (ax_w (ax_w μ 20 j2 x1) 21 j4 x2) 18 4 (((ax_w (ax_w μ 20 j2 x1) 21 j4 x2) 18 4) + 1))
set_option maxRecDepth 100000 in
set_option maxHeartbeats 8000000 in
theorem c_X6_note {G : ax_G} {l : Launch} {sh : List ax_E} {x1 : Int32} {x2 : Int32} {μ : ax_M} (hs : ∀ (k : Nat) (e : ax_E), SHc[k]? = some e → sh[k]? = some e) {v : ax_M} (h : m_X6_note x1 x2 μ = some v) : ax_A G l yX6_note cX6_note 3 none 2 [.ref (G.1 + 18), .int x1, .int x2] sh μ (none, sh, v) := by
  refine ax_A.of false (by decide +kernel) (fun h9 => by cases h9) (Nat.le_of_ble_eq_true rfl) (?_ : ax_X G l RX6 cX6_note 3 none false 2 (none, sh, v) 0 [(0, .ref (G.1 + 18)), (1, .int x1), (2, .int x2)] [] sh μ)
  unfold m_X6_note at h
  refine ax_aload_n (pc := 0) (i := 0) (q := 0) (ax_dd KX6_note 0 rfl) rfl rfl ?_
  refine ax_getI (pc := 1) (k := 18) (ax_dd KX6_note 1 rfl) f_X6_25 (hs 18 _ rfl) rfl ?_
  refine ax_sipush (pc := 4) (v := 160) (ax_dd KX6_note 2 rfl) (by decide) ?_
  by_cases c1 : 160 < (μ 18 4)
  · rw [if_pos c1] at h
    refine ax_icmp_gt_t (pc := 7) (tgt := 40) (ax_dd KX6_note 3 rfl) (by decide) c1 ?_
    obtain rfl := Option.some.inj h
    exact ax_vret (pc := 40) (ax_dd KX6_note 22 rfl) rfl rfl
  · rw [if_neg c1] at h
    refine ax_icmp_gt_f (pc := 7) (tgt := 40) (ax_dd KX6_note 3 rfl) (by decide) c1 ?_
    refine ax_aload_n (pc := 10) (i := 0) (q := 0) (ax_dd KX6_note 4 rfl) rfl rfl ?_
    refine ax_getR (pc := 11) (k := 18) (q := 20) (ax_dd KX6_note 5 rfl) f_X6_15 (hs 18 _ rfl) rfl ?_
    refine ax_aload_n (pc := 14) (i := 0) (q := 0) (ax_dd KX6_note 6 rfl) rfl rfl ?_
    refine ax_getI (pc := 15) (k := 18) (ax_dd KX6_note 7 rfl) f_X6_25 (hs 18 _ rfl) rfl ?_
    refine ax_iload_n (pc := 18) (i := 1) (q := 1) (ax_dd KX6_note 8 rfl) rfl rfl ?_
    obtain ⟨j2, b3, h⟩ := ob_bind h
    refine ax_ist (pc := 19) (k := 20) (N := 161) (j := j2) (ax_dd KX6_note 9 rfl) (hs 20 _ rfl) b3 ?_
    refine ax_aload_n (pc := 20) (i := 0) (q := 0) (ax_dd KX6_note 10 rfl) rfl rfl ?_
    refine ax_getR (pc := 21) (k := 18) (q := 21) (ax_dd KX6_note 11 rfl) f_X6_18 (hs 18 _ rfl) rfl ?_
    refine ax_aload_n (pc := 24) (i := 0) (q := 0) (ax_dd KX6_note 12 rfl) rfl rfl ?_
    refine ax_getI (pc := 25) (k := 18) (ax_dd KX6_note 13 rfl) f_X6_25 (hs 18 _ rfl) rfl ?_
    refine ax_iload_n (pc := 28) (i := 2) (q := 2) (ax_dd KX6_note 14 rfl) rfl rfl ?_
    obtain ⟨j4, b5, h⟩ := ob_bind h
    refine ax_ist (pc := 29) (k := 21) (N := 161) (j := j4) (ax_dd KX6_note 15 rfl) (hs 21 _ rfl) b5 ?_
    refine ax_aload_n (pc := 30) (i := 0) (q := 0) (ax_dd KX6_note 16 rfl) rfl rfl ?_
    refine ax_dup (pc := 31) (ax_dd KX6_note 17 rfl) rfl ?_
    refine ax_getI (pc := 32) (k := 18) (ax_dd KX6_note 18 rfl) f_X6_25 (hs 18 _ rfl) rfl ?_
    refine ax_iconst (pc := 35) (v := 1) (ax_dd KX6_note 19 rfl) (by decide) ?_
    refine ax_iadd (pc := 36) (ax_dd KX6_note 20 rfl) ?_
    refine ax_putI (pc := 37) (k := 18) (ax_dd KX6_note 21 rfl) f_X6_25 ft_X6 (hs 18 _ rfl) rfl (fun _ h9 => by cases h9; rfl) rfl rfl ?_
    obtain rfl := Option.some.inj h
    exact ax_vret (pc := 40) (ax_dd KX6_note 22 rfl) rfl rfl
def m_X6_split_9 : Nat → Int32 → Int32 → ax_M → Option (ax_M)
  | 0, _, _, _ => none
  | n + 1, x1, x2, μ =>
    if 160 ≤ x2 then
      (m_X6_note 21 (μ 18 1) μ).bind fun μ4 =>
      some μ4
    else
      if (μ 18 1) ≤ x1 then
        (m_X6_note 21 (μ 18 1) μ).bind fun μ8 =>
        some μ8
      else
        (ix 160 x1).bind fun j9 =>
        if (μ 19 j9) = 32 then
          m_X6_split_9 n (x1 + 1) (x2 + 1) μ
        else
          (ix 160 x1).bind fun j12 =>
          if (μ 19 j12) = 10 then
            m_X6_split_9 n (x1 + 1) (x2 + 1) μ
          else
            (m_X6_endOf x1 μ).bind fun v15 =>
            (m_X6_tokenOf x1 v15 μ).bind fun v17 =>
            (m_X6_note v17 x1 μ).bind fun μ21 =>
            m_X6_split_9 n v15 (x2 + 1) μ21
set_option maxRecDepth 100000 in
set_option maxHeartbeats 8000000 in
theorem a_X6_split_9 {G : ax_G} {l : Launch} {sh : List ax_E} (hs : ∀ (k : Nat) (e : ax_E), SHc[k]? = some e → sh[k]? = some e) : ∀ (n : Nat) (x1 : Int32) (x2 : Int32) (μ : ax_M) (v : ax_M), m_X6_split_9 n x1 x2 μ = some v → ax_X G l RX6 cX6_split 4 none false 11 (none, sh, v) 9 [(0, .ref (G.1 + 18)), (1, .int x1), (2, .int x2)] [] sh μ := by
  intro n
  induction n with
  | zero =>
    intro x1 x2 μ v h
    rw [m_X6_split_9] at h
    cases h
  | succ n ih =>
    intro x1 x2 μ v h
    rw [m_X6_split_9] at h
    refine ax_iload_n (pc := 9) (i := 2) (q := 2) (ax_dd KX6_split 7 rfl) rfl rfl ?_
    refine ax_sipush (pc := 10) (v := 160) (ax_dd KX6_split 8 rfl) (by decide) ?_
    by_cases c1 : 160 ≤ x2
    · rw [if_pos c1] at h
      refine ax_icmp_ge_t (pc := 13) (tgt := 77) (ax_dd KX6_split 9 rfl) (by decide) c1 ?_
      refine ax_aload_n (pc := 77) (i := 0) (q := 0) (ax_dd KX6_split 43 rfl) rfl rfl ?_
      refine ax_bipush (pc := 78) (v := 21) (ax_dd KX6_split 44 rfl) (by decide) ?_
      refine ax_aload_n (pc := 80) (i := 0) (q := 0) (ax_dd KX6_split 45 rfl) rfl rfl ?_
      refine ax_getI (pc := 81) (k := 18) (ax_dd KX6_split 46 rfl) f_X6_21 (hs 18 _ rfl) rfl ?_
      obtain ⟨μ4, b3, h⟩ := ob_bind h
      refine ax_kV (pc := 84) (ci := 6) (k := 18) (As := [.int 21, .int (μ 18 1)]) (rest := []) (st1 := []) (μ1 := μ4) (ax_dd KX6_split 47 rfl) (c_X6_note hs b3) kV_X6_36 e_X6_note (hs 18 _ rfl) cl_X6 (by decide) rfl rfl (by decide) (by decide) (Nat.le_of_ble_eq_true rfl) rfl ?_
      obtain rfl := Option.some.inj h
      exact ax_vret (pc := 87) (ax_dd KX6_split 48 rfl) rfl rfl
    · rw [if_neg c1] at h
      refine ax_icmp_ge_f (pc := 13) (tgt := 77) (ax_dd KX6_split 9 rfl) (by decide) c1 ?_
      refine ax_iload_n (pc := 16) (i := 1) (q := 1) (ax_dd KX6_split 10 rfl) rfl rfl ?_
      refine ax_aload_n (pc := 17) (i := 0) (q := 0) (ax_dd KX6_split 11 rfl) rfl rfl ?_
      refine ax_getI (pc := 18) (k := 18) (ax_dd KX6_split 12 rfl) f_X6_21 (hs 18 _ rfl) rfl ?_
      by_cases c5 : (μ 18 1) ≤ x1
      · rw [if_pos c5] at h
        refine ax_icmp_ge_t (pc := 21) (tgt := 77) (ax_dd KX6_split 13 rfl) (by decide) c5 ?_
        refine ax_aload_n (pc := 77) (i := 0) (q := 0) (ax_dd KX6_split 43 rfl) rfl rfl ?_
        refine ax_bipush (pc := 78) (v := 21) (ax_dd KX6_split 44 rfl) (by decide) ?_
        refine ax_aload_n (pc := 80) (i := 0) (q := 0) (ax_dd KX6_split 45 rfl) rfl rfl ?_
        refine ax_getI (pc := 81) (k := 18) (ax_dd KX6_split 46 rfl) f_X6_21 (hs 18 _ rfl) rfl ?_
        obtain ⟨μ8, b7, h⟩ := ob_bind h
        refine ax_kV (pc := 84) (ci := 6) (k := 18) (As := [.int 21, .int (μ 18 1)]) (rest := []) (st1 := []) (μ1 := μ8) (ax_dd KX6_split 47 rfl) (c_X6_note hs b7) kV_X6_36 e_X6_note (hs 18 _ rfl) cl_X6 (by decide) rfl rfl (by decide) (by decide) (Nat.le_of_ble_eq_true rfl) rfl ?_
        obtain rfl := Option.some.inj h
        exact ax_vret (pc := 87) (ax_dd KX6_split 48 rfl) rfl rfl
      · rw [if_neg c5] at h
        refine ax_icmp_ge_f (pc := 21) (tgt := 77) (ax_dd KX6_split 13 rfl) (by decide) c5 ?_
        refine ax_aload_n (pc := 24) (i := 0) (q := 0) (ax_dd KX6_split 14 rfl) rfl rfl ?_
        refine ax_getR (pc := 25) (k := 18) (q := 19) (ax_dd KX6_split 15 rfl) f_X6_9 (hs 18 _ rfl) rfl ?_
        refine ax_iload_n (pc := 28) (i := 1) (q := 1) (ax_dd KX6_split 16 rfl) rfl rfl ?_
        obtain ⟨j9, b10, h⟩ := ob_bind h
        refine ax_ild (pc := 29) (k := 19) (N := 160) (j := j9) (ax_dd KX6_split 17 rfl) (hs 19 _ rfl) b10 ?_
        refine ax_bipush (pc := 30) (v := 32) (ax_dd KX6_split 18 rfl) (by decide) ?_
        by_cases c11 : (μ 19 j9) = 32
        · rw [if_pos c11] at h
          refine ax_icmp_eq_t (pc := 32) (tgt := 46) (ax_dd KX6_split 19 rfl) (by decide) c11 ?_
          refine ax_iinc (pc := 46) (q := 1) (v := (x1 + 1)) (lv' := [(1, .int (x1 + 1)), (0, .ref (G.1 + 18)), (2, .int x2)]) (ax_dd KX6_split 26 rfl) rfl rfl (by decide) rfl ?_
          refine ax_goto (pc := 49) (tgt := 71) (ax_dd KX6_split 27 rfl) (by decide) ?_
          refine ax_iinc (pc := 71) (q := 2) (v := (x2 + 1)) (lv' := [(2, .int (x2 + 1)), (1, .int (x1 + 1)), (0, .ref (G.1 + 18))]) (ax_dd KX6_split 41 rfl) rfl rfl (by decide) rfl ?_
          refine ax_goto (pc := 74) (tgt := 9) (ax_dd KX6_split 42 rfl) (by decide) ?_
          refine ax_sub (lv' := [(0, .ref (G.1 + 18)), (1, .int (x1 + 1)), (2, .int (x2 + 1))]) [2, 1, 0] rfl ?_
          exact ih _ _ _ _ h
        · rw [if_neg c11] at h
          refine ax_icmp_eq_f (pc := 32) (tgt := 46) (ax_dd KX6_split 19 rfl) (by decide) c11 ?_
          refine ax_aload_n (pc := 35) (i := 0) (q := 0) (ax_dd KX6_split 20 rfl) rfl rfl ?_
          refine ax_getR (pc := 36) (k := 18) (q := 19) (ax_dd KX6_split 21 rfl) f_X6_9 (hs 18 _ rfl) rfl ?_
          refine ax_iload_n (pc := 39) (i := 1) (q := 1) (ax_dd KX6_split 22 rfl) rfl rfl ?_
          obtain ⟨j12, b13, h⟩ := ob_bind h
          refine ax_ild (pc := 40) (k := 19) (N := 160) (j := j12) (ax_dd KX6_split 23 rfl) (hs 19 _ rfl) b13 ?_
          refine ax_bipush (pc := 41) (v := 10) (ax_dd KX6_split 24 rfl) (by decide) ?_
          by_cases c14 : (μ 19 j12) = 10
          · rw [if_pos c14] at h
            refine ax_icmp_ne_f (pc := 43) (tgt := 52) (ax_dd KX6_split 25 rfl) (by decide) (fun z => z c14) ?_
            refine ax_iinc (pc := 46) (q := 1) (v := (x1 + 1)) (lv' := [(1, .int (x1 + 1)), (0, .ref (G.1 + 18)), (2, .int x2)]) (ax_dd KX6_split 26 rfl) rfl rfl (by decide) rfl ?_
            refine ax_goto (pc := 49) (tgt := 71) (ax_dd KX6_split 27 rfl) (by decide) ?_
            refine ax_iinc (pc := 71) (q := 2) (v := (x2 + 1)) (lv' := [(2, .int (x2 + 1)), (1, .int (x1 + 1)), (0, .ref (G.1 + 18))]) (ax_dd KX6_split 41 rfl) rfl rfl (by decide) rfl ?_
            refine ax_goto (pc := 74) (tgt := 9) (ax_dd KX6_split 42 rfl) (by decide) ?_
            refine ax_sub (lv' := [(0, .ref (G.1 + 18)), (1, .int (x1 + 1)), (2, .int (x2 + 1))]) [2, 1, 0] rfl ?_
            exact ih _ _ _ _ h
          · rw [if_neg c14] at h
            refine ax_icmp_ne_t (pc := 43) (tgt := 52) (ax_dd KX6_split 25 rfl) (by decide) c14 ?_
            refine ax_aload_n (pc := 52) (i := 0) (q := 0) (ax_dd KX6_split 28 rfl) rfl rfl ?_
            refine ax_iload_n (pc := 53) (i := 1) (q := 1) (ax_dd KX6_split 29 rfl) rfl rfl ?_
            obtain ⟨v15, b16, h⟩ := ob_bind h
            refine ax_kV (pc := 54) (ci := 6) (k := 18) (As := [.int x1]) (rest := []) (st1 := [.int v15]) (μ1 := μ) (ax_dd KX6_split 30 rfl) (c_X6_endOf hs b16) kV_X6_28 e_X6_endOf (hs 18 _ rfl) cl_X6 (by decide) rfl rfl (by decide) (by decide) (Nat.le_of_ble_eq_true rfl) rfl ?_
            refine ax_istore_n (pc := 57) (i := 3) (lv' := [(3, .int v15), (0, .ref (G.1 + 18)), (1, .int x1), (2, .int x2)]) (ax_dd KX6_split 31 rfl) rfl (by decide) rfl ?_
            refine ax_aload_n (pc := 58) (i := 0) (q := 1) (ax_dd KX6_split 32 rfl) rfl rfl ?_
            refine ax_aload_n (pc := 59) (i := 0) (q := 1) (ax_dd KX6_split 33 rfl) rfl rfl ?_
            refine ax_iload_n (pc := 60) (i := 1) (q := 2) (ax_dd KX6_split 34 rfl) rfl rfl ?_
            refine ax_iload_n (pc := 61) (i := 3) (q := 0) (ax_dd KX6_split 35 rfl) rfl rfl ?_
            obtain ⟨v17, b18, h⟩ := ob_bind h
            refine ax_kV (pc := 62) (ci := 6) (k := 18) (As := [.int x1, .int v15]) (rest := [.ref (G.1 + 18)]) (st1 := [.int v17, .ref (G.1 + 18)]) (μ1 := μ) (ax_dd KX6_split 36 rfl) (c_X6_tokenOf hs b18) kV_X6_32 e_X6_tokenOf (hs 18 _ rfl) cl_X6 (by decide) rfl rfl (by decide) (by decide) (Nat.le_of_ble_eq_true rfl) rfl ?_
            refine ax_iload_n (pc := 65) (i := 1) (q := 2) (ax_dd KX6_split 37 rfl) rfl rfl ?_
            obtain ⟨μ21, b20, h⟩ := ob_bind h
            refine ax_kV (pc := 66) (ci := 6) (k := 18) (As := [.int v17, .int x1]) (rest := []) (st1 := []) (μ1 := μ21) (ax_dd KX6_split 38 rfl) (c_X6_note hs b20) kV_X6_36 e_X6_note (hs 18 _ rfl) cl_X6 (by decide) rfl rfl (by decide) (by decide) (Nat.le_of_ble_eq_true rfl) rfl ?_
            refine ax_iload_n (pc := 69) (i := 3) (q := 0) (ax_dd KX6_split 39 rfl) rfl rfl ?_
            refine ax_istore_n (pc := 70) (i := 1) (lv' := [(1, .int v15), (3, .int v15), (0, .ref (G.1 + 18)), (2, .int x2)]) (ax_dd KX6_split 40 rfl) rfl (by decide) rfl ?_
            refine ax_iinc (pc := 71) (q := 3) (v := (x2 + 1)) (lv' := [(2, .int (x2 + 1)), (1, .int v15), (3, .int v15), (0, .ref (G.1 + 18))]) (ax_dd KX6_split 41 rfl) rfl rfl (by decide) rfl ?_
            refine ax_goto (pc := 74) (tgt := 9) (ax_dd KX6_split 42 rfl) (by decide) ?_
            refine ax_sub (lv' := [(0, .ref (G.1 + 18)), (1, .int v15), (2, .int (x2 + 1))]) [3, 1, 0] rfl ?_
            exact ih _ _ _ _ h
def m_X6_split (μ : ax_M) : Option (ax_M) :=
  m_X6_split_9 fu 0 0 (ax_w μ 18 4 0)
set_option maxRecDepth 100000 in
set_option maxHeartbeats 8000000 in
theorem c_X6_split {G : ax_G} {l : Launch} {sh : List ax_E} {μ : ax_M} (hs : ∀ (k : Nat) (e : ax_E), SHc[k]? = some e → sh[k]? = some e) {v : ax_M} (h : m_X6_split μ = some v) : ax_A G l yX6_split cX6_split 4 none 11 [.ref (G.1 + 18)] sh μ (none, sh, v) := by
  refine ax_A.of false (by decide +kernel) (fun h9 => by cases h9) (Nat.le_of_ble_eq_true rfl) (?_ : ax_X G l RX6 cX6_split 4 none false 11 (none, sh, v) 0 [(0, .ref (G.1 + 18))] [] sh μ)
  unfold m_X6_split at h
  refine ax_aload_n (pc := 0) (i := 0) (q := 0) (ax_dd KX6_split 0 rfl) rfl rfl ?_
  refine ax_iconst (pc := 1) (v := 0) (ax_dd KX6_split 1 rfl) (by decide) ?_
  refine ax_putI (pc := 2) (k := 18) (ax_dd KX6_split 2 rfl) f_X6_25 ft_X6 (hs 18 _ rfl) rfl (fun _ h9 => by cases h9; rfl) rfl rfl ?_
  refine ax_iconst (pc := 5) (v := 0) (ax_dd KX6_split 3 rfl) (by decide) ?_
  refine ax_istore_n (pc := 6) (i := 1) (lv' := [(1, .int 0), (0, .ref (G.1 + 18))]) (ax_dd KX6_split 4 rfl) rfl (by decide) rfl ?_
  refine ax_iconst (pc := 7) (v := 0) (ax_dd KX6_split 5 rfl) (by decide) ?_
  refine ax_istore_n (pc := 8) (i := 2) (lv' := [(2, .int 0), (1, .int 0), (0, .ref (G.1 + 18))]) (ax_dd KX6_split 6 rfl) rfl (by decide) rfl ?_
  refine ax_sub (lv' := [(0, .ref (G.1 + 18)), (1, .int 0), (2, .int 0)]) [2, 1, 0] rfl ?_
  exact a_X6_split_9 hs fu _ _ _ _ h
def m_X3_readOne_107 (kOne kOr kNot : Int32 → ax_M → Option ax_M) (μ : ax_M) : Option (ax_M) :=
  (ix 161 (μ 22 4)).bind fun j1 =>
  (m_X3_write (μ 20 j1) μ).bind fun μ5 =>
  (m_X3_goOn μ5).bind fun μ8 =>
  some μ8
set_option maxRecDepth 100000 in
set_option maxHeartbeats 8000000 in
theorem a_X3_readOne_107 {G : ax_G} {l : Launch} {sh : List ax_E} {μ : ax_M} {kOne kOr kNot : Int32 → ax_M → Option ax_M} {dr d : Nat} (hs : ∀ (k : Nat) (e : ax_E), SHc[k]? = some e → sh[k]? = some e) (hOne : ∀ (x1 : Int32) (μ v : ax_M), kOne x1 μ = some v → ax_A G l yX3_readOne cX3_readOne 2 none dr [.ref (G.1 + 22), .int x1] sh μ (none, sh, v)) (hOr : ∀ (x1 : Int32) (μ v : ax_M), kOr x1 μ = some v → ax_A G l yX3_readOr cX3_readOr 3 none dr [.ref (G.1 + 22), .int x1] sh μ (none, sh, v)) (hNot : ∀ (x1 : Int32) (μ v : ax_M), kNot x1 μ = some v → ax_A G l yX3_readNot cX3_readNot 3 none dr [.ref (G.1 + 22), .int x1] sh μ (none, sh, v)) (hdr : 8 ≤ dr) (hdd : dr + 1 ≤ d) {v : ax_M} (h : m_X3_readOne_107 kOne kOr kNot μ = some v) : ax_X G l RX3 cX3_readOne 2 none false d (none, sh, v) 107 [(0, .ref (G.1 + 22))] [] sh μ := by
  unfold m_X3_readOne_107 at h
  refine ax_aload_n (pc := 107) (i := 0) (q := 0) (ax_dd KX3_readOne 53 rfl) rfl rfl ?_
  refine ax_aload_n (pc := 108) (i := 0) (q := 0) (ax_dd KX3_readOne 54 rfl) rfl rfl ?_
  refine ax_getR (pc := 109) (k := 22) (q := 18) (ax_dd KX3_readOne 55 rfl) f_X3_18 (hs 22 _ rfl) rfl ?_
  refine ax_getR (pc := 112) (k := 18) (q := 20) (ax_dd KX3_readOne 56 rfl) f_X3_48 (hs 18 _ rfl) rfl ?_
  refine ax_aload_n (pc := 115) (i := 0) (q := 0) (ax_dd KX3_readOne 57 rfl) rfl rfl ?_
  refine ax_getI (pc := 116) (k := 22) (ax_dd KX3_readOne 58 rfl) f_X3_31 (hs 22 _ rfl) rfl ?_
  obtain ⟨j1, b2, h⟩ := ob_bind h
  refine ax_ild (pc := 119) (k := 20) (N := 161) (j := j1) (ax_dd KX3_readOne 59 rfl) (hs 20 _ rfl) b2 ?_
  obtain ⟨μ5, b4, h⟩ := ob_bind h
  refine ax_kV (pc := 120) (ci := 3) (k := 22) (As := [.int (μ 20 j1)]) (rest := []) (st1 := []) (μ1 := μ5) (ax_dd KX3_readOne 60 rfl) (c_X3_write hs b4) kV_X3_64 e_X3_write (hs 22 _ rfl) cl_X3 (by decide) rfl rfl (by omega) (by decide) (Nat.le_of_ble_eq_true rfl) rfl ?_
  refine ax_aload_n (pc := 123) (i := 0) (q := 0) (ax_dd KX3_readOne 61 rfl) rfl rfl ?_
  obtain ⟨μ8, b7, h⟩ := ob_bind h
  refine ax_kV (pc := 124) (ci := 3) (k := 22) (As := []) (rest := []) (st1 := []) (μ1 := μ8) (ax_dd KX3_readOne 62 rfl) (c_X3_goOn hs b7) kV_X3_55 e_X3_goOn (hs 22 _ rfl) cl_X3 (by decide) rfl rfl (by omega) (by decide) (Nat.le_of_ble_eq_true rfl) rfl ?_
  refine ax_goto (pc := 127) (tgt := 135) (ax_dd KX3_readOne 63 rfl) (by decide) ?_
  obtain rfl := Option.some.inj h
  exact ax_vret (pc := 135) (ax_dd KX3_readOne 67 rfl) rfl rfl
def m_X3_readOne (kOne kOr kNot : Int32 → ax_M → Option ax_M) (x1 : Int32) (μ : ax_M) : Option (ax_M) :=
  (m_X3_isAt 15 μ).bind fun v1 =>
  if v1 = 0 then
    (m_X3_isAt 17 μ).bind fun v4 =>
    if v4 = 0 then
      if (μ 22 5) = 0 then
        (ix 161 (μ 22 4)).bind fun j8 =>
        if 23 ≤ (μ 20 j8) then
          m_X3_readOne_107 kOne kOr kNot μ
        else
          (ix 161 (μ 22 4)).bind fun j11 =>
          if 6 ≤ (μ 20 j11) then
            some (ax_w μ 22 5 1)
          else
            m_X3_readOne_107 kOne kOr kNot μ
      else
        some (ax_w μ 22 5 1)
    else
      bind2 (m_X3_opens x1 μ) fun v14 μ16 =>
      if v14 = 0 then
        some μ16
      else
        (kOr (x1 + 1) μ16).bind fun μ20 =>
        (m_X3_demand 18 μ20).bind fun μ23 =>
        some μ23
  else
    bind2 (m_X3_opens x1 μ) fun v24 μ26 =>
    if v24 = 0 then
      some μ26
    else
      (kOne (x1 + 1) μ26).bind fun μ30 =>
      (m_X3_write 20 μ30).bind fun μ33 =>
      some μ33
set_option maxRecDepth 100000 in
set_option maxHeartbeats 8000000 in
theorem c_X3_readOne {G : ax_G} {l : Launch} {sh : List ax_E} {x1 : Int32} {μ : ax_M} {kOne kOr kNot : Int32 → ax_M → Option ax_M} {dr d : Nat} (hs : ∀ (k : Nat) (e : ax_E), SHc[k]? = some e → sh[k]? = some e) (hOne : ∀ (x1 : Int32) (μ v : ax_M), kOne x1 μ = some v → ax_A G l yX3_readOne cX3_readOne 2 none dr [.ref (G.1 + 22), .int x1] sh μ (none, sh, v)) (hOr : ∀ (x1 : Int32) (μ v : ax_M), kOr x1 μ = some v → ax_A G l yX3_readOr cX3_readOr 3 none dr [.ref (G.1 + 22), .int x1] sh μ (none, sh, v)) (hNot : ∀ (x1 : Int32) (μ v : ax_M), kNot x1 μ = some v → ax_A G l yX3_readNot cX3_readNot 3 none dr [.ref (G.1 + 22), .int x1] sh μ (none, sh, v)) (hdr : 8 ≤ dr) (hdd : dr + 1 ≤ d) {v : ax_M} (h : m_X3_readOne kOne kOr kNot x1 μ = some v) : ax_A G l yX3_readOne cX3_readOne 2 none d [.ref (G.1 + 22), .int x1] sh μ (none, sh, v) := by
  refine ax_A.of false (by decide +kernel) (fun h9 => by cases h9) (Nat.le_of_ble_eq_true rfl) (?_ : ax_X G l RX3 cX3_readOne 2 none false d (none, sh, v) 0 [(0, .ref (G.1 + 22)), (1, .int x1)] [] sh μ)
  unfold m_X3_readOne at h
  refine ax_aload_n (pc := 0) (i := 0) (q := 0) (ax_dd KX3_readOne 0 rfl) rfl rfl ?_
  refine ax_bipush (pc := 1) (v := 15) (ax_dd KX3_readOne 1 rfl) (by decide) ?_
  obtain ⟨v1, b2, h⟩ := ob_bind h
  refine ax_kV (pc := 3) (ci := 3) (k := 22) (As := [.int 15]) (rest := []) (st1 := [.int v1]) (μ1 := μ) (ax_dd KX3_readOne 2 rfl) (c_X3_isAt hs b2) kV_X3_51 e_X3_isAt (hs 22 _ rfl) cl_X3 (by decide) rfl rfl (by omega) (by decide) (Nat.le_of_ble_eq_true rfl) rfl ?_
  by_cases c3 : v1 = 0
  · rw [if_pos c3] at h
    refine ax_if_eq_t (pc := 6) (tgt := 33) (ax_dd KX3_readOne 3 rfl) (by decide) c3 ?_
    refine ax_aload_n (pc := 33) (i := 0) (q := 0) (ax_dd KX3_readOne 17 rfl) rfl rfl ?_
    refine ax_bipush (pc := 34) (v := 17) (ax_dd KX3_readOne 18 rfl) (by decide) ?_
    obtain ⟨v4, b5, h⟩ := ob_bind h
    refine ax_kV (pc := 36) (ci := 3) (k := 22) (As := [.int 17]) (rest := []) (st1 := [.int v4]) (μ1 := μ) (ax_dd KX3_readOne 19 rfl) (c_X3_isAt hs b5) kV_X3_51 e_X3_isAt (hs 22 _ rfl) cl_X3 (by decide) rfl rfl (by omega) (by decide) (Nat.le_of_ble_eq_true rfl) rfl ?_
    by_cases c6 : v4 = 0
    · rw [if_pos c6] at h
      refine ax_if_eq_t (pc := 39) (tgt := 66) (ax_dd KX3_readOne 20 rfl) (by decide) c6 ?_
      refine ax_aload_n (pc := 66) (i := 0) (q := 0) (ax_dd KX3_readOne 34 rfl) rfl rfl ?_
      refine ax_getI (pc := 67) (k := 22) (ax_dd KX3_readOne 35 rfl) f_X3_34 (hs 22 _ rfl) rfl ?_
      by_cases c7 : (μ 22 5) = 0
      · rw [if_pos c7] at h
        refine ax_if_ne_f (pc := 70) (tgt := 130) (ax_dd KX3_readOne 36 rfl) (by decide) (fun z => z c7) ?_
        refine ax_aload_n (pc := 73) (i := 0) (q := 0) (ax_dd KX3_readOne 37 rfl) rfl rfl ?_
        refine ax_getR (pc := 74) (k := 22) (q := 18) (ax_dd KX3_readOne 38 rfl) f_X3_18 (hs 22 _ rfl) rfl ?_
        refine ax_getR (pc := 77) (k := 18) (q := 20) (ax_dd KX3_readOne 39 rfl) f_X3_48 (hs 18 _ rfl) rfl ?_
        refine ax_aload_n (pc := 80) (i := 0) (q := 0) (ax_dd KX3_readOne 40 rfl) rfl rfl ?_
        refine ax_getI (pc := 81) (k := 22) (ax_dd KX3_readOne 41 rfl) f_X3_31 (hs 22 _ rfl) rfl ?_
        obtain ⟨j8, b9, h⟩ := ob_bind h
        refine ax_ild (pc := 84) (k := 20) (N := 161) (j := j8) (ax_dd KX3_readOne 42 rfl) (hs 20 _ rfl) b9 ?_
        refine ax_bipush (pc := 85) (v := 23) (ax_dd KX3_readOne 43 rfl) (by decide) ?_
        by_cases c10 : 23 ≤ (μ 20 j8)
        · rw [if_pos c10] at h
          refine ax_icmp_ge_t (pc := 87) (tgt := 107) (ax_dd KX3_readOne 44 rfl) (by decide) c10 ?_
          refine ax_sub (lv' := [(0, .ref (G.1 + 22))]) [0] rfl ?_
          exact a_X3_readOne_107 hs hOne hOr hNot hdr hdd h
        · rw [if_neg c10] at h
          refine ax_icmp_ge_f (pc := 87) (tgt := 107) (ax_dd KX3_readOne 44 rfl) (by decide) c10 ?_
          refine ax_aload_n (pc := 90) (i := 0) (q := 0) (ax_dd KX3_readOne 45 rfl) rfl rfl ?_
          refine ax_getR (pc := 91) (k := 22) (q := 18) (ax_dd KX3_readOne 46 rfl) f_X3_18 (hs 22 _ rfl) rfl ?_
          refine ax_getR (pc := 94) (k := 18) (q := 20) (ax_dd KX3_readOne 47 rfl) f_X3_48 (hs 18 _ rfl) rfl ?_
          refine ax_aload_n (pc := 97) (i := 0) (q := 0) (ax_dd KX3_readOne 48 rfl) rfl rfl ?_
          refine ax_getI (pc := 98) (k := 22) (ax_dd KX3_readOne 49 rfl) f_X3_31 (hs 22 _ rfl) rfl ?_
          obtain ⟨j11, b12, h⟩ := ob_bind h
          refine ax_ild (pc := 101) (k := 20) (N := 161) (j := j11) (ax_dd KX3_readOne 50 rfl) (hs 20 _ rfl) b12 ?_
          refine ax_bipush (pc := 102) (v := 6) (ax_dd KX3_readOne 51 rfl) (by decide) ?_
          by_cases c13 : 6 ≤ (μ 20 j11)
          · rw [if_pos c13] at h
            refine ax_icmp_ge_t (pc := 104) (tgt := 130) (ax_dd KX3_readOne 52 rfl) (by decide) c13 ?_
            refine ax_aload_n (pc := 130) (i := 0) (q := 0) (ax_dd KX3_readOne 64 rfl) rfl rfl ?_
            refine ax_iconst (pc := 131) (v := 1) (ax_dd KX3_readOne 65 rfl) (by decide) ?_
            refine ax_putI (pc := 132) (k := 22) (ax_dd KX3_readOne 66 rfl) f_X3_34 ft_X3 (hs 22 _ rfl) rfl (fun _ h9 => by cases h9; rfl) rfl rfl ?_
            obtain rfl := Option.some.inj h
            exact ax_vret (pc := 135) (ax_dd KX3_readOne 67 rfl) rfl rfl
          · rw [if_neg c13] at h
            refine ax_icmp_ge_f (pc := 104) (tgt := 130) (ax_dd KX3_readOne 52 rfl) (by decide) c13 ?_
            refine ax_sub (lv' := [(0, .ref (G.1 + 22))]) [0] rfl ?_
            exact a_X3_readOne_107 hs hOne hOr hNot hdr hdd h
      · rw [if_neg c7] at h
        refine ax_if_ne_t (pc := 70) (tgt := 130) (ax_dd KX3_readOne 36 rfl) (by decide) c7 ?_
        refine ax_aload_n (pc := 130) (i := 0) (q := 0) (ax_dd KX3_readOne 64 rfl) rfl rfl ?_
        refine ax_iconst (pc := 131) (v := 1) (ax_dd KX3_readOne 65 rfl) (by decide) ?_
        refine ax_putI (pc := 132) (k := 22) (ax_dd KX3_readOne 66 rfl) f_X3_34 ft_X3 (hs 22 _ rfl) rfl (fun _ h9 => by cases h9; rfl) rfl rfl ?_
        obtain rfl := Option.some.inj h
        exact ax_vret (pc := 135) (ax_dd KX3_readOne 67 rfl) rfl rfl
    · rw [if_neg c6] at h
      refine ax_if_eq_f (pc := 39) (tgt := 66) (ax_dd KX3_readOne 20 rfl) (by decide) c6 ?_
      refine ax_aload_n (pc := 42) (i := 0) (q := 0) (ax_dd KX3_readOne 21 rfl) rfl rfl ?_
      refine ax_iload_n (pc := 43) (i := 1) (q := 1) (ax_dd KX3_readOne 22 rfl) rfl rfl ?_
      obtain ⟨v14, μ16, b15, h⟩ := ob_bind2 h
      refine ax_kV (pc := 44) (ci := 3) (k := 22) (As := [.int x1]) (rest := []) (st1 := [.int v14]) (μ1 := μ16) (ax_dd KX3_readOne 23 rfl) (c_X3_opens hs b15) kV_X3_70 e_X3_opens (hs 22 _ rfl) cl_X3 (by decide) rfl rfl (by omega) (by decide) (Nat.le_of_ble_eq_true rfl) rfl ?_
      by_cases c17 : v14 = 0
      · rw [if_pos c17] at h
        refine ax_if_eq_t (pc := 47) (tgt := 135) (ax_dd KX3_readOne 24 rfl) (by decide) c17 ?_
        obtain rfl := Option.some.inj h
        exact ax_vret (pc := 135) (ax_dd KX3_readOne 67 rfl) rfl rfl
      · rw [if_neg c17] at h
        refine ax_if_eq_f (pc := 47) (tgt := 135) (ax_dd KX3_readOne 24 rfl) (by decide) c17 ?_
        refine ax_aload_n (pc := 50) (i := 0) (q := 0) (ax_dd KX3_readOne 25 rfl) rfl rfl ?_
        refine ax_iload_n (pc := 51) (i := 1) (q := 1) (ax_dd KX3_readOne 26 rfl) rfl rfl ?_
        refine ax_iconst (pc := 52) (v := 1) (ax_dd KX3_readOne 27 rfl) (by decide) ?_
        refine ax_iadd (pc := 53) (ax_dd KX3_readOne 28 rfl) ?_
        obtain ⟨μ20, b19, h⟩ := ob_bind h
        refine ax_kV (pc := 54) (ci := 3) (k := 22) (As := [.int (x1 + 1)]) (rest := []) (st1 := []) (μ1 := μ20) (ax_dd KX3_readOne 29 rfl) (hOr _ _ _ b19) kV_X3_42 e_X3_readOr (hs 22 _ rfl) cl_X3 (by decide) rfl rfl (by omega) (by decide) (Nat.le_of_ble_eq_true rfl) rfl ?_
        refine ax_aload_n (pc := 57) (i := 0) (q := 0) (ax_dd KX3_readOne 30 rfl) rfl rfl ?_
        refine ax_bipush (pc := 58) (v := 18) (ax_dd KX3_readOne 31 rfl) (by decide) ?_
        obtain ⟨μ23, b22, h⟩ := ob_bind h
        refine ax_kV (pc := 60) (ci := 3) (k := 22) (As := [.int 18]) (rest := []) (st1 := []) (μ1 := μ23) (ax_dd KX3_readOne 32 rfl) (c_X3_demand hs b22) kV_X3_38 e_X3_demand (hs 22 _ rfl) cl_X3 (by decide) rfl rfl (by omega) (by decide) (Nat.le_of_ble_eq_true rfl) rfl ?_
        refine ax_goto (pc := 63) (tgt := 135) (ax_dd KX3_readOne 33 rfl) (by decide) ?_
        obtain rfl := Option.some.inj h
        exact ax_vret (pc := 135) (ax_dd KX3_readOne 67 rfl) rfl rfl
  · rw [if_neg c3] at h
    refine ax_if_eq_f (pc := 6) (tgt := 33) (ax_dd KX3_readOne 3 rfl) (by decide) c3 ?_
    refine ax_aload_n (pc := 9) (i := 0) (q := 0) (ax_dd KX3_readOne 4 rfl) rfl rfl ?_
    refine ax_iload_n (pc := 10) (i := 1) (q := 1) (ax_dd KX3_readOne 5 rfl) rfl rfl ?_
    obtain ⟨v24, μ26, b25, h⟩ := ob_bind2 h
    refine ax_kV (pc := 11) (ci := 3) (k := 22) (As := [.int x1]) (rest := []) (st1 := [.int v24]) (μ1 := μ26) (ax_dd KX3_readOne 6 rfl) (c_X3_opens hs b25) kV_X3_70 e_X3_opens (hs 22 _ rfl) cl_X3 (by decide) rfl rfl (by omega) (by decide) (Nat.le_of_ble_eq_true rfl) rfl ?_
    by_cases c27 : v24 = 0
    · rw [if_pos c27] at h
      refine ax_if_eq_t (pc := 14) (tgt := 135) (ax_dd KX3_readOne 7 rfl) (by decide) c27 ?_
      obtain rfl := Option.some.inj h
      exact ax_vret (pc := 135) (ax_dd KX3_readOne 67 rfl) rfl rfl
    · rw [if_neg c27] at h
      refine ax_if_eq_f (pc := 14) (tgt := 135) (ax_dd KX3_readOne 7 rfl) (by decide) c27 ?_
      refine ax_aload_n (pc := 17) (i := 0) (q := 0) (ax_dd KX3_readOne 8 rfl) rfl rfl ?_
      refine ax_iload_n (pc := 18) (i := 1) (q := 1) (ax_dd KX3_readOne 9 rfl) rfl rfl ?_
      refine ax_iconst (pc := 19) (v := 1) (ax_dd KX3_readOne 10 rfl) (by decide) ?_
      refine ax_iadd (pc := 20) (ax_dd KX3_readOne 11 rfl) ?_
      obtain ⟨μ30, b29, h⟩ := ob_bind h
      refine ax_kV (pc := 21) (ci := 3) (k := 22) (As := [.int (x1 + 1)]) (rest := []) (st1 := []) (μ1 := μ30) (ax_dd KX3_readOne 12 rfl) (hOne _ _ _ b29) kV_X3_79 e_X3_readOne (hs 22 _ rfl) cl_X3 (by decide) rfl rfl (by omega) (by decide) (Nat.le_of_ble_eq_true rfl) rfl ?_
      refine ax_aload_n (pc := 24) (i := 0) (q := 0) (ax_dd KX3_readOne 13 rfl) rfl rfl ?_
      refine ax_bipush (pc := 25) (v := 20) (ax_dd KX3_readOne 14 rfl) (by decide) ?_
      obtain ⟨μ33, b32, h⟩ := ob_bind h
      refine ax_kV (pc := 27) (ci := 3) (k := 22) (As := [.int 20]) (rest := []) (st1 := []) (μ1 := μ33) (ax_dd KX3_readOne 15 rfl) (c_X3_write hs b32) kV_X3_64 e_X3_write (hs 22 _ rfl) cl_X3 (by decide) rfl rfl (by omega) (by decide) (Nat.le_of_ble_eq_true rfl) rfl ?_
      refine ax_goto (pc := 30) (tgt := 135) (ax_dd KX3_readOne 16 rfl) (by decide) ?_
      obtain rfl := Option.some.inj h
      exact ax_vret (pc := 135) (ax_dd KX3_readOne 67 rfl) rfl rfl
def m_X3_readTerm_7 (kOne kOr kNot : Int32 → ax_M → Option ax_M) (x1 : Int32) : Nat → Int32 → ax_M → Option (ax_M)
  | 0, _, _ => none
  | n + 1, x2, μ =>
    if 160 ≤ x2 then
      some μ
    else
      (m_X3_isAt 16 μ).bind fun v2 =>
      if v2 = 0 then
        some μ
      else
        (m_X3_goOn μ).bind fun μ7 =>
        (m_X3_readOne kOne kOr kNot x1 μ7).bind fun μ10 =>
        (m_X3_write 16 μ10).bind fun μ13 =>
        m_X3_readTerm_7 kOne kOr kNot x1 n (x2 + 1) μ13
set_option maxRecDepth 100000 in
set_option maxHeartbeats 8000000 in
theorem a_X3_readTerm_7 {G : ax_G} {l : Launch} {sh : List ax_E} {x1 : Int32} {kOne kOr kNot : Int32 → ax_M → Option ax_M} {dr d : Nat} (hs : ∀ (k : Nat) (e : ax_E), SHc[k]? = some e → sh[k]? = some e) (hOne : ∀ (x1 : Int32) (μ v : ax_M), kOne x1 μ = some v → ax_A G l yX3_readOne cX3_readOne 2 none dr [.ref (G.1 + 22), .int x1] sh μ (none, sh, v)) (hOr : ∀ (x1 : Int32) (μ v : ax_M), kOr x1 μ = some v → ax_A G l yX3_readOr cX3_readOr 3 none dr [.ref (G.1 + 22), .int x1] sh μ (none, sh, v)) (hNot : ∀ (x1 : Int32) (μ v : ax_M), kNot x1 μ = some v → ax_A G l yX3_readNot cX3_readNot 3 none dr [.ref (G.1 + 22), .int x1] sh μ (none, sh, v)) (hdr : 8 ≤ dr) (hdd : dr + 2 ≤ d) : ∀ (n : Nat) (x2 : Int32) (μ : ax_M) (v : ax_M), m_X3_readTerm_7 kOne kOr kNot x1 n x2 μ = some v → ax_X G l RX3 cX3_readTerm 3 none false d (none, sh, v) 7 [(0, .ref (G.1 + 22)), (1, .int x1), (2, .int x2)] [] sh μ := by
  intro n
  induction n with
  | zero =>
    intro x2 μ v h
    rw [m_X3_readTerm_7] at h
    cases h
  | succ n ih =>
    intro x2 μ v h
    rw [m_X3_readTerm_7] at h
    refine ax_iload_n (pc := 7) (i := 2) (q := 2) (ax_dd KX3_readTerm 5 rfl) rfl rfl ?_
    refine ax_sipush (pc := 8) (v := 160) (ax_dd KX3_readTerm 6 rfl) (by decide) ?_
    by_cases c1 : 160 ≤ x2
    · rw [if_pos c1] at h
      refine ax_icmp_ge_t (pc := 11) (tgt := 44) (ax_dd KX3_readTerm 7 rfl) (by decide) c1 ?_
      obtain rfl := Option.some.inj h
      exact ax_vret (pc := 44) (ax_dd KX3_readTerm 22 rfl) rfl rfl
    · rw [if_neg c1] at h
      refine ax_icmp_ge_f (pc := 11) (tgt := 44) (ax_dd KX3_readTerm 7 rfl) (by decide) c1 ?_
      refine ax_aload_n (pc := 14) (i := 0) (q := 0) (ax_dd KX3_readTerm 8 rfl) rfl rfl ?_
      refine ax_bipush (pc := 15) (v := 16) (ax_dd KX3_readTerm 9 rfl) (by decide) ?_
      obtain ⟨v2, b3, h⟩ := ob_bind h
      refine ax_kV (pc := 17) (ci := 3) (k := 22) (As := [.int 16]) (rest := []) (st1 := [.int v2]) (μ1 := μ) (ax_dd KX3_readTerm 10 rfl) (c_X3_isAt hs b3) kV_X3_51 e_X3_isAt (hs 22 _ rfl) cl_X3 (by decide) rfl rfl (by omega) (by decide) (Nat.le_of_ble_eq_true rfl) rfl ?_
      by_cases c4 : v2 = 0
      · rw [if_pos c4] at h
        refine ax_if_eq_t (pc := 20) (tgt := 44) (ax_dd KX3_readTerm 11 rfl) (by decide) c4 ?_
        obtain rfl := Option.some.inj h
        exact ax_vret (pc := 44) (ax_dd KX3_readTerm 22 rfl) rfl rfl
      · rw [if_neg c4] at h
        refine ax_if_eq_f (pc := 20) (tgt := 44) (ax_dd KX3_readTerm 11 rfl) (by decide) c4 ?_
        refine ax_aload_n (pc := 23) (i := 0) (q := 0) (ax_dd KX3_readTerm 12 rfl) rfl rfl ?_
        obtain ⟨μ7, b6, h⟩ := ob_bind h
        refine ax_kV (pc := 24) (ci := 3) (k := 22) (As := []) (rest := []) (st1 := []) (μ1 := μ7) (ax_dd KX3_readTerm 13 rfl) (c_X3_goOn hs b6) kV_X3_55 e_X3_goOn (hs 22 _ rfl) cl_X3 (by decide) rfl rfl (by omega) (by decide) (Nat.le_of_ble_eq_true rfl) rfl ?_
        refine ax_aload_n (pc := 27) (i := 0) (q := 0) (ax_dd KX3_readTerm 14 rfl) rfl rfl ?_
        refine ax_iload_n (pc := 28) (i := 1) (q := 1) (ax_dd KX3_readTerm 15 rfl) rfl rfl ?_
        obtain ⟨μ10, b9, h⟩ := ob_bind h
        refine ax_kV (pc := 29) (ci := 3) (k := 22) (As := [.int x1]) (rest := []) (st1 := []) (μ1 := μ10) (ax_dd KX3_readTerm 16 rfl) (c_X3_readOne (d := d - 1) hs hOne hOr hNot hdr (by omega) b9) kV_X3_79 e_X3_readOne (hs 22 _ rfl) cl_X3 (by decide) rfl rfl (by omega) (by decide) (Nat.le_of_ble_eq_true rfl) rfl ?_
        refine ax_aload_n (pc := 32) (i := 0) (q := 0) (ax_dd KX3_readTerm 17 rfl) rfl rfl ?_
        refine ax_bipush (pc := 33) (v := 16) (ax_dd KX3_readTerm 18 rfl) (by decide) ?_
        obtain ⟨μ13, b12, h⟩ := ob_bind h
        refine ax_kV (pc := 35) (ci := 3) (k := 22) (As := [.int 16]) (rest := []) (st1 := []) (μ1 := μ13) (ax_dd KX3_readTerm 19 rfl) (c_X3_write hs b12) kV_X3_64 e_X3_write (hs 22 _ rfl) cl_X3 (by decide) rfl rfl (by omega) (by decide) (Nat.le_of_ble_eq_true rfl) rfl ?_
        refine ax_iinc (pc := 38) (q := 2) (v := (x2 + 1)) (lv' := [(2, .int (x2 + 1)), (0, .ref (G.1 + 22)), (1, .int x1)]) (ax_dd KX3_readTerm 20 rfl) rfl rfl (by decide) rfl ?_
        refine ax_goto (pc := 41) (tgt := 7) (ax_dd KX3_readTerm 21 rfl) (by decide) ?_
        refine ax_sub (lv' := [(0, .ref (G.1 + 22)), (1, .int x1), (2, .int (x2 + 1))]) [1, 2, 0] rfl ?_
        exact ih _ _ _ h
def m_X3_readTerm (kOne kOr kNot : Int32 → ax_M → Option ax_M) (x1 : Int32) (μ : ax_M) : Option (ax_M) :=
  (m_X3_readOne kOne kOr kNot x1 μ).bind fun μ3 =>
  m_X3_readTerm_7 kOne kOr kNot x1 fu 0 μ3
set_option maxRecDepth 100000 in
set_option maxHeartbeats 8000000 in
theorem c_X3_readTerm {G : ax_G} {l : Launch} {sh : List ax_E} {x1 : Int32} {μ : ax_M} {kOne kOr kNot : Int32 → ax_M → Option ax_M} {dr d : Nat} (hs : ∀ (k : Nat) (e : ax_E), SHc[k]? = some e → sh[k]? = some e) (hOne : ∀ (x1 : Int32) (μ v : ax_M), kOne x1 μ = some v → ax_A G l yX3_readOne cX3_readOne 2 none dr [.ref (G.1 + 22), .int x1] sh μ (none, sh, v)) (hOr : ∀ (x1 : Int32) (μ v : ax_M), kOr x1 μ = some v → ax_A G l yX3_readOr cX3_readOr 3 none dr [.ref (G.1 + 22), .int x1] sh μ (none, sh, v)) (hNot : ∀ (x1 : Int32) (μ v : ax_M), kNot x1 μ = some v → ax_A G l yX3_readNot cX3_readNot 3 none dr [.ref (G.1 + 22), .int x1] sh μ (none, sh, v)) (hdr : 8 ≤ dr) (hdd : dr + 2 ≤ d) {v : ax_M} (h : m_X3_readTerm kOne kOr kNot x1 μ = some v) : ax_A G l yX3_readTerm cX3_readTerm 3 none d [.ref (G.1 + 22), .int x1] sh μ (none, sh, v) := by
  refine ax_A.of false (by decide +kernel) (fun h9 => by cases h9) (Nat.le_of_ble_eq_true rfl) (?_ : ax_X G l RX3 cX3_readTerm 3 none false d (none, sh, v) 0 [(0, .ref (G.1 + 22)), (1, .int x1)] [] sh μ)
  unfold m_X3_readTerm at h
  refine ax_aload_n (pc := 0) (i := 0) (q := 0) (ax_dd KX3_readTerm 0 rfl) rfl rfl ?_
  refine ax_iload_n (pc := 1) (i := 1) (q := 1) (ax_dd KX3_readTerm 1 rfl) rfl rfl ?_
  obtain ⟨μ3, b2, h⟩ := ob_bind h
  refine ax_kV (pc := 2) (ci := 3) (k := 22) (As := [.int x1]) (rest := []) (st1 := []) (μ1 := μ3) (ax_dd KX3_readTerm 2 rfl) (c_X3_readOne (d := d - 1) hs hOne hOr hNot hdr (by omega) b2) kV_X3_79 e_X3_readOne (hs 22 _ rfl) cl_X3 (by decide) rfl rfl (by omega) (by decide) (Nat.le_of_ble_eq_true rfl) rfl ?_
  refine ax_iconst (pc := 5) (v := 0) (ax_dd KX3_readTerm 3 rfl) (by decide) ?_
  refine ax_istore_n (pc := 6) (i := 2) (lv' := [(2, .int 0), (0, .ref (G.1 + 22)), (1, .int x1)]) (ax_dd KX3_readTerm 4 rfl) rfl (by decide) rfl ?_
  refine ax_sub (lv' := [(0, .ref (G.1 + 22)), (1, .int x1), (2, .int 0)]) [1, 2, 0] rfl ?_
  exact a_X3_readTerm_7 hs hOne hOr hNot hdr hdd fu _ _ _ h
def m_X3_readSum_32 (kOne kOr kNot : Int32 → ax_M → Option ax_M) (x1 : Int32) (x2 : Int32) (k7 : Int32 → ax_M → Option (ax_M)) (μ : ax_M) : Option (ax_M) :=
  (ix 161 (μ 22 4)).bind fun j1 =>
  (m_X3_goOn μ).bind fun μ5 =>
  (m_X3_readTerm kOne kOr kNot x1 μ5).bind fun μ8 =>
  (m_X3_write (μ 20 j1) μ8).bind fun μ11 =>
  k7 (x2 + 1) μ11
set_option maxRecDepth 100000 in
set_option maxHeartbeats 8000000 in
theorem a_X3_readSum_32 {G : ax_G} {l : Launch} {sh : List ax_E} {x1 : Int32} {x2 : Int32} {k7 : Int32 → ax_M → Option (ax_M)} {μ : ax_M} {kOne kOr kNot : Int32 → ax_M → Option ax_M} {dr d : Nat} (hs : ∀ (k : Nat) (e : ax_E), SHc[k]? = some e → sh[k]? = some e) (hOne : ∀ (x1 : Int32) (μ v : ax_M), kOne x1 μ = some v → ax_A G l yX3_readOne cX3_readOne 2 none dr [.ref (G.1 + 22), .int x1] sh μ (none, sh, v)) (hOr : ∀ (x1 : Int32) (μ v : ax_M), kOr x1 μ = some v → ax_A G l yX3_readOr cX3_readOr 3 none dr [.ref (G.1 + 22), .int x1] sh μ (none, sh, v)) (hNot : ∀ (x1 : Int32) (μ v : ax_M), kNot x1 μ = some v → ax_A G l yX3_readNot cX3_readNot 3 none dr [.ref (G.1 + 22), .int x1] sh μ (none, sh, v)) (hdr : 8 ≤ dr) (hdd : dr + 3 ≤ d) (hk7 : ∀ (x2 : Int32) (μ : ax_M) (v : ax_M), k7 x2 μ = some v → ax_X G l RX3 cX3_readSum 4 none false d (none, sh, v) 7 [(0, .ref (G.1 + 22)), (1, .int x1), (2, .int x2)] [] sh μ) {v : ax_M} (h : m_X3_readSum_32 kOne kOr kNot x1 x2 k7 μ = some v) : ax_X G l RX3 cX3_readSum 4 none false d (none, sh, v) 32 [(0, .ref (G.1 + 22)), (1, .int x1), (2, .int x2)] [] sh μ := by
  unfold m_X3_readSum_32 at h
  refine ax_aload_n (pc := 32) (i := 0) (q := 0) (ax_dd KX3_readSum 16 rfl) rfl rfl ?_
  refine ax_getR (pc := 33) (k := 22) (q := 18) (ax_dd KX3_readSum 17 rfl) f_X3_18 (hs 22 _ rfl) rfl ?_
  refine ax_getR (pc := 36) (k := 18) (q := 20) (ax_dd KX3_readSum 18 rfl) f_X3_48 (hs 18 _ rfl) rfl ?_
  refine ax_aload_n (pc := 39) (i := 0) (q := 0) (ax_dd KX3_readSum 19 rfl) rfl rfl ?_
  refine ax_getI (pc := 40) (k := 22) (ax_dd KX3_readSum 20 rfl) f_X3_31 (hs 22 _ rfl) rfl ?_
  obtain ⟨j1, b2, h⟩ := ob_bind h
  refine ax_ild (pc := 43) (k := 20) (N := 161) (j := j1) (ax_dd KX3_readSum 21 rfl) (hs 20 _ rfl) b2 ?_
  refine ax_istore_n (pc := 44) (i := 3) (lv' := [(3, .int (μ 20 j1)), (0, .ref (G.1 + 22)), (1, .int x1), (2, .int x2)]) (ax_dd KX3_readSum 22 rfl) rfl (by decide) rfl ?_
  refine ax_aload_n (pc := 45) (i := 0) (q := 1) (ax_dd KX3_readSum 23 rfl) rfl rfl ?_
  obtain ⟨μ5, b4, h⟩ := ob_bind h
  refine ax_kV (pc := 46) (ci := 3) (k := 22) (As := []) (rest := []) (st1 := []) (μ1 := μ5) (ax_dd KX3_readSum 24 rfl) (c_X3_goOn hs b4) kV_X3_55 e_X3_goOn (hs 22 _ rfl) cl_X3 (by decide) rfl rfl (by omega) (by decide) (Nat.le_of_ble_eq_true rfl) rfl ?_
  refine ax_aload_n (pc := 49) (i := 0) (q := 1) (ax_dd KX3_readSum 25 rfl) rfl rfl ?_
  refine ax_iload_n (pc := 50) (i := 1) (q := 2) (ax_dd KX3_readSum 26 rfl) rfl rfl ?_
  obtain ⟨μ8, b7, h⟩ := ob_bind h
  refine ax_kV (pc := 51) (ci := 3) (k := 22) (As := [.int x1]) (rest := []) (st1 := []) (μ1 := μ8) (ax_dd KX3_readSum 27 rfl) (c_X3_readTerm (d := d - 1) hs hOne hOr hNot hdr (by omega) b7) kV_X3_76 e_X3_readTerm (hs 22 _ rfl) cl_X3 (by decide) rfl rfl (by omega) (by decide) (Nat.le_of_ble_eq_true rfl) rfl ?_
  refine ax_aload_n (pc := 54) (i := 0) (q := 1) (ax_dd KX3_readSum 28 rfl) rfl rfl ?_
  refine ax_iload_n (pc := 55) (i := 3) (q := 0) (ax_dd KX3_readSum 29 rfl) rfl rfl ?_
  obtain ⟨μ11, b10, h⟩ := ob_bind h
  refine ax_kV (pc := 56) (ci := 3) (k := 22) (As := [.int (μ 20 j1)]) (rest := []) (st1 := []) (μ1 := μ11) (ax_dd KX3_readSum 30 rfl) (c_X3_write hs b10) kV_X3_64 e_X3_write (hs 22 _ rfl) cl_X3 (by decide) rfl rfl (by omega) (by decide) (Nat.le_of_ble_eq_true rfl) rfl ?_
  refine ax_iinc (pc := 59) (q := 3) (v := (x2 + 1)) (lv' := [(2, .int (x2 + 1)), (3, .int (μ 20 j1)), (0, .ref (G.1 + 22)), (1, .int x1)]) (ax_dd KX3_readSum 31 rfl) rfl rfl (by decide) rfl ?_
  refine ax_goto (pc := 62) (tgt := 7) (ax_dd KX3_readSum 32 rfl) (by decide) ?_
  refine ax_sub (lv' := [(0, .ref (G.1 + 22)), (1, .int x1), (2, .int (x2 + 1))]) [2, 3, 0] rfl ?_
  exact hk7 _ _ _ h
def m_X3_readSum_7 (kOne kOr kNot : Int32 → ax_M → Option ax_M) (x1 : Int32) : Nat → Int32 → ax_M → Option (ax_M)
  | 0, _, _ => none
  | n + 1, x2, μ =>
    if 160 ≤ x2 then
      some μ
    else
      (m_X3_isAt 14 μ).bind fun v2 =>
      if v2 = 0 then
        (m_X3_isAt 15 μ).bind fun v5 =>
        if v5 = 0 then
          some μ
        else
          m_X3_readSum_32 kOne kOr kNot x1 x2 (m_X3_readSum_7 kOne kOr kNot x1 n) μ
      else
        m_X3_readSum_32 kOne kOr kNot x1 x2 (m_X3_readSum_7 kOne kOr kNot x1 n) μ
set_option maxRecDepth 100000 in
set_option maxHeartbeats 8000000 in
theorem a_X3_readSum_7 {G : ax_G} {l : Launch} {sh : List ax_E} {x1 : Int32} {kOne kOr kNot : Int32 → ax_M → Option ax_M} {dr d : Nat} (hs : ∀ (k : Nat) (e : ax_E), SHc[k]? = some e → sh[k]? = some e) (hOne : ∀ (x1 : Int32) (μ v : ax_M), kOne x1 μ = some v → ax_A G l yX3_readOne cX3_readOne 2 none dr [.ref (G.1 + 22), .int x1] sh μ (none, sh, v)) (hOr : ∀ (x1 : Int32) (μ v : ax_M), kOr x1 μ = some v → ax_A G l yX3_readOr cX3_readOr 3 none dr [.ref (G.1 + 22), .int x1] sh μ (none, sh, v)) (hNot : ∀ (x1 : Int32) (μ v : ax_M), kNot x1 μ = some v → ax_A G l yX3_readNot cX3_readNot 3 none dr [.ref (G.1 + 22), .int x1] sh μ (none, sh, v)) (hdr : 8 ≤ dr) (hdd : dr + 3 ≤ d) : ∀ (n : Nat) (x2 : Int32) (μ : ax_M) (v : ax_M), m_X3_readSum_7 kOne kOr kNot x1 n x2 μ = some v → ax_X G l RX3 cX3_readSum 4 none false d (none, sh, v) 7 [(0, .ref (G.1 + 22)), (1, .int x1), (2, .int x2)] [] sh μ := by
  intro n
  induction n with
  | zero =>
    intro x2 μ v h
    rw [m_X3_readSum_7] at h
    cases h
  | succ n ih =>
    intro x2 μ v h
    rw [m_X3_readSum_7] at h
    refine ax_iload_n (pc := 7) (i := 2) (q := 2) (ax_dd KX3_readSum 5 rfl) rfl rfl ?_
    refine ax_sipush (pc := 8) (v := 160) (ax_dd KX3_readSum 6 rfl) (by decide) ?_
    by_cases c1 : 160 ≤ x2
    · rw [if_pos c1] at h
      refine ax_icmp_ge_t (pc := 11) (tgt := 65) (ax_dd KX3_readSum 7 rfl) (by decide) c1 ?_
      obtain rfl := Option.some.inj h
      exact ax_vret (pc := 65) (ax_dd KX3_readSum 33 rfl) rfl rfl
    · rw [if_neg c1] at h
      refine ax_icmp_ge_f (pc := 11) (tgt := 65) (ax_dd KX3_readSum 7 rfl) (by decide) c1 ?_
      refine ax_aload_n (pc := 14) (i := 0) (q := 0) (ax_dd KX3_readSum 8 rfl) rfl rfl ?_
      refine ax_bipush (pc := 15) (v := 14) (ax_dd KX3_readSum 9 rfl) (by decide) ?_
      obtain ⟨v2, b3, h⟩ := ob_bind h
      refine ax_kV (pc := 17) (ci := 3) (k := 22) (As := [.int 14]) (rest := []) (st1 := [.int v2]) (μ1 := μ) (ax_dd KX3_readSum 10 rfl) (c_X3_isAt hs b3) kV_X3_51 e_X3_isAt (hs 22 _ rfl) cl_X3 (by decide) rfl rfl (by omega) (by decide) (Nat.le_of_ble_eq_true rfl) rfl ?_
      by_cases c4 : v2 = 0
      · rw [if_pos c4] at h
        refine ax_if_ne_f (pc := 20) (tgt := 32) (ax_dd KX3_readSum 11 rfl) (by decide) (fun z => z c4) ?_
        refine ax_aload_n (pc := 23) (i := 0) (q := 0) (ax_dd KX3_readSum 12 rfl) rfl rfl ?_
        refine ax_bipush (pc := 24) (v := 15) (ax_dd KX3_readSum 13 rfl) (by decide) ?_
        obtain ⟨v5, b6, h⟩ := ob_bind h
        refine ax_kV (pc := 26) (ci := 3) (k := 22) (As := [.int 15]) (rest := []) (st1 := [.int v5]) (μ1 := μ) (ax_dd KX3_readSum 14 rfl) (c_X3_isAt hs b6) kV_X3_51 e_X3_isAt (hs 22 _ rfl) cl_X3 (by decide) rfl rfl (by omega) (by decide) (Nat.le_of_ble_eq_true rfl) rfl ?_
        by_cases c7 : v5 = 0
        · rw [if_pos c7] at h
          refine ax_if_eq_t (pc := 29) (tgt := 65) (ax_dd KX3_readSum 15 rfl) (by decide) c7 ?_
          obtain rfl := Option.some.inj h
          exact ax_vret (pc := 65) (ax_dd KX3_readSum 33 rfl) rfl rfl
        · rw [if_neg c7] at h
          refine ax_if_eq_f (pc := 29) (tgt := 65) (ax_dd KX3_readSum 15 rfl) (by decide) c7 ?_
          exact a_X3_readSum_32 hs hOne hOr hNot hdr hdd ih h
      · rw [if_neg c4] at h
        refine ax_if_ne_t (pc := 20) (tgt := 32) (ax_dd KX3_readSum 11 rfl) (by decide) c4 ?_
        exact a_X3_readSum_32 hs hOne hOr hNot hdr hdd ih h
def m_X3_readSum (kOne kOr kNot : Int32 → ax_M → Option ax_M) (x1 : Int32) (μ : ax_M) : Option (ax_M) :=
  (m_X3_readTerm kOne kOr kNot x1 μ).bind fun μ3 =>
  m_X3_readSum_7 kOne kOr kNot x1 fu 0 μ3
set_option maxRecDepth 100000 in
set_option maxHeartbeats 8000000 in
theorem c_X3_readSum {G : ax_G} {l : Launch} {sh : List ax_E} {x1 : Int32} {μ : ax_M} {kOne kOr kNot : Int32 → ax_M → Option ax_M} {dr d : Nat} (hs : ∀ (k : Nat) (e : ax_E), SHc[k]? = some e → sh[k]? = some e) (hOne : ∀ (x1 : Int32) (μ v : ax_M), kOne x1 μ = some v → ax_A G l yX3_readOne cX3_readOne 2 none dr [.ref (G.1 + 22), .int x1] sh μ (none, sh, v)) (hOr : ∀ (x1 : Int32) (μ v : ax_M), kOr x1 μ = some v → ax_A G l yX3_readOr cX3_readOr 3 none dr [.ref (G.1 + 22), .int x1] sh μ (none, sh, v)) (hNot : ∀ (x1 : Int32) (μ v : ax_M), kNot x1 μ = some v → ax_A G l yX3_readNot cX3_readNot 3 none dr [.ref (G.1 + 22), .int x1] sh μ (none, sh, v)) (hdr : 8 ≤ dr) (hdd : dr + 3 ≤ d) {v : ax_M} (h : m_X3_readSum kOne kOr kNot x1 μ = some v) : ax_A G l yX3_readSum cX3_readSum 4 none d [.ref (G.1 + 22), .int x1] sh μ (none, sh, v) := by
  refine ax_A.of false (by decide +kernel) (fun h9 => by cases h9) (Nat.le_of_ble_eq_true rfl) (?_ : ax_X G l RX3 cX3_readSum 4 none false d (none, sh, v) 0 [(0, .ref (G.1 + 22)), (1, .int x1)] [] sh μ)
  unfold m_X3_readSum at h
  refine ax_aload_n (pc := 0) (i := 0) (q := 0) (ax_dd KX3_readSum 0 rfl) rfl rfl ?_
  refine ax_iload_n (pc := 1) (i := 1) (q := 1) (ax_dd KX3_readSum 1 rfl) rfl rfl ?_
  obtain ⟨μ3, b2, h⟩ := ob_bind h
  refine ax_kV (pc := 2) (ci := 3) (k := 22) (As := [.int x1]) (rest := []) (st1 := []) (μ1 := μ3) (ax_dd KX3_readSum 2 rfl) (c_X3_readTerm (d := d - 1) hs hOne hOr hNot hdr (by omega) b2) kV_X3_76 e_X3_readTerm (hs 22 _ rfl) cl_X3 (by decide) rfl rfl (by omega) (by decide) (Nat.le_of_ble_eq_true rfl) rfl ?_
  refine ax_iconst (pc := 5) (v := 0) (ax_dd KX3_readSum 3 rfl) (by decide) ?_
  refine ax_istore_n (pc := 6) (i := 2) (lv' := [(2, .int 0), (0, .ref (G.1 + 22)), (1, .int x1)]) (ax_dd KX3_readSum 4 rfl) rfl (by decide) rfl ?_
  refine ax_sub (lv' := [(0, .ref (G.1 + 22)), (1, .int x1), (2, .int 0)]) [1, 2, 0] rfl ?_
  exact a_X3_readSum_7 hs hOne hOr hNot hdr hdd fu _ _ _ h
def m_X3_readNot_54 (kOne kOr kNot : Int32 → ax_M → Option ax_M) (x1 : Int32) (μ : ax_M) : Option (ax_M) :=
  (ix 161 (μ 22 4)).bind fun j1 =>
  (m_X3_goOn μ).bind fun μ5 =>
  (m_X3_readSum kOne kOr kNot x1 μ5).bind fun μ8 =>
  (m_X3_write (μ 20 j1) μ8).bind fun μ11 =>
  some μ11
set_option maxRecDepth 100000 in
set_option maxHeartbeats 8000000 in
theorem a_X3_readNot_54 {G : ax_G} {l : Launch} {sh : List ax_E} {x1 : Int32} {μ : ax_M} {kOne kOr kNot : Int32 → ax_M → Option ax_M} {dr d : Nat} (hs : ∀ (k : Nat) (e : ax_E), SHc[k]? = some e → sh[k]? = some e) (hOne : ∀ (x1 : Int32) (μ v : ax_M), kOne x1 μ = some v → ax_A G l yX3_readOne cX3_readOne 2 none dr [.ref (G.1 + 22), .int x1] sh μ (none, sh, v)) (hOr : ∀ (x1 : Int32) (μ v : ax_M), kOr x1 μ = some v → ax_A G l yX3_readOr cX3_readOr 3 none dr [.ref (G.1 + 22), .int x1] sh μ (none, sh, v)) (hNot : ∀ (x1 : Int32) (μ v : ax_M), kNot x1 μ = some v → ax_A G l yX3_readNot cX3_readNot 3 none dr [.ref (G.1 + 22), .int x1] sh μ (none, sh, v)) (hdr : 8 ≤ dr) (hdd : dr + 4 ≤ d) {v : ax_M} (h : m_X3_readNot_54 kOne kOr kNot x1 μ = some v) : ax_X G l RX3 cX3_readNot 3 none false d (none, sh, v) 54 [(0, .ref (G.1 + 22)), (1, .int x1)] [] sh μ := by
  unfold m_X3_readNot_54 at h
  refine ax_aload_n (pc := 54) (i := 0) (q := 0) (ax_dd KX3_readNot 28 rfl) rfl rfl ?_
  refine ax_getR (pc := 55) (k := 22) (q := 18) (ax_dd KX3_readNot 29 rfl) f_X3_18 (hs 22 _ rfl) rfl ?_
  refine ax_getR (pc := 58) (k := 18) (q := 20) (ax_dd KX3_readNot 30 rfl) f_X3_48 (hs 18 _ rfl) rfl ?_
  refine ax_aload_n (pc := 61) (i := 0) (q := 0) (ax_dd KX3_readNot 31 rfl) rfl rfl ?_
  refine ax_getI (pc := 62) (k := 22) (ax_dd KX3_readNot 32 rfl) f_X3_31 (hs 22 _ rfl) rfl ?_
  obtain ⟨j1, b2, h⟩ := ob_bind h
  refine ax_ild (pc := 65) (k := 20) (N := 161) (j := j1) (ax_dd KX3_readNot 33 rfl) (hs 20 _ rfl) b2 ?_
  refine ax_istore_n (pc := 66) (i := 2) (lv' := [(2, .int (μ 20 j1)), (0, .ref (G.1 + 22)), (1, .int x1)]) (ax_dd KX3_readNot 34 rfl) rfl (by decide) rfl ?_
  refine ax_aload_n (pc := 67) (i := 0) (q := 1) (ax_dd KX3_readNot 35 rfl) rfl rfl ?_
  obtain ⟨μ5, b4, h⟩ := ob_bind h
  refine ax_kV (pc := 68) (ci := 3) (k := 22) (As := []) (rest := []) (st1 := []) (μ1 := μ5) (ax_dd KX3_readNot 36 rfl) (c_X3_goOn hs b4) kV_X3_55 e_X3_goOn (hs 22 _ rfl) cl_X3 (by decide) rfl rfl (by omega) (by decide) (Nat.le_of_ble_eq_true rfl) rfl ?_
  refine ax_aload_n (pc := 71) (i := 0) (q := 1) (ax_dd KX3_readNot 37 rfl) rfl rfl ?_
  refine ax_iload_n (pc := 72) (i := 1) (q := 2) (ax_dd KX3_readNot 38 rfl) rfl rfl ?_
  obtain ⟨μ8, b7, h⟩ := ob_bind h
  refine ax_kV (pc := 73) (ci := 3) (k := 22) (As := [.int x1]) (rest := []) (st1 := []) (μ1 := μ8) (ax_dd KX3_readNot 39 rfl) (c_X3_readSum (d := d - 1) hs hOne hOr hNot hdr (by omega) b7) kV_X3_73 e_X3_readSum (hs 22 _ rfl) cl_X3 (by decide) rfl rfl (by omega) (by decide) (Nat.le_of_ble_eq_true rfl) rfl ?_
  refine ax_aload_n (pc := 76) (i := 0) (q := 1) (ax_dd KX3_readNot 40 rfl) rfl rfl ?_
  refine ax_iload_n (pc := 77) (i := 2) (q := 0) (ax_dd KX3_readNot 41 rfl) rfl rfl ?_
  obtain ⟨μ11, b10, h⟩ := ob_bind h
  refine ax_kV (pc := 78) (ci := 3) (k := 22) (As := [.int (μ 20 j1)]) (rest := []) (st1 := []) (μ1 := μ11) (ax_dd KX3_readNot 42 rfl) (c_X3_write hs b10) kV_X3_64 e_X3_write (hs 22 _ rfl) cl_X3 (by decide) rfl rfl (by omega) (by decide) (Nat.le_of_ble_eq_true rfl) rfl ?_
  obtain rfl := Option.some.inj h
  exact ax_vret (pc := 81) (ax_dd KX3_readNot 43 rfl) rfl rfl
