def m_X10_text_26 : Nat → Int32 → Int32 → ax_M → Option (Int32 × ax_M)
  | 0, _, _, _ => none
  | n + 1, x1, x2, μ =>
    if 3 ≤ x2 then
      m_X10_text_101 x1 μ
    else
      if x1 = 0 then
        m_X10_text_101 x1 μ
      else
        (m_X10_next μ).bind fun μ5 =>
        if (μ5 51 20) = 3 then
          if (μ5 51 21) = x2 then
            m_X10_text_60 x2 1 (m_X10_text_26 n) μ5
          else
            m_X10_text_60 x2 0 (m_X10_text_26 n) μ5
        else
          m_X10_text_60 x2 0 (m_X10_text_26 n) μ5
set_option maxRecDepth 100000 in
set_option maxHeartbeats 8000000 in
theorem a_X10_text_26 {G : ax_G} {l : Launch} {sh : List ax_E} (hs : ∀ (k : Nat) (e : ax_E), SHF[k]? = some e → sh[k]? = some e) : ∀ (n : Nat) (x1 : Int32) (x2 : Int32) (μ : ax_M) (v : Int32 × ax_M), m_X10_text_26 n x1 x2 μ = some v → ax_X G l RX10 cX10_text 3 (some .int) false 6 (some (.int v.1), sh, v.2) 26 [(0, .ref (G.1 + 51)), (1, .int x1), (2, .int x2)] [] sh μ := by
  intro n
  induction n with
  | zero =>
    intro x1 x2 μ v h
    rw [m_X10_text_26] at h
    cases h
  | succ n ih =>
    intro x1 x2 μ v h
    rw [m_X10_text_26] at h
    refine ax_iload_n (pc := 26) (i := 2) (q := 2) (ax_dd KX10_text 16 rfl) rfl rfl ?_
    refine ax_iconst (pc := 27) (v := 3) (ax_dd KX10_text 17 rfl) (by decide) ?_
    by_cases c1 : 3 ≤ x2
    · rw [if_pos c1] at h
      refine ax_icmp_ge_t (pc := 28) (tgt := 101) (ax_dd KX10_text 18 rfl) (by decide) c1 ?_
      refine ax_sub (lv' := [(0, .ref (G.1 + 51)), (1, .int x1)]) [0, 1] rfl ?_
      exact a_X10_text_101 hs h
    · rw [if_neg c1] at h
      refine ax_icmp_ge_f (pc := 28) (tgt := 101) (ax_dd KX10_text 18 rfl) (by decide) c1 ?_
      refine ax_iload_n (pc := 31) (i := 1) (q := 1) (ax_dd KX10_text 19 rfl) rfl rfl ?_
      by_cases c2 : x1 = 0
      · rw [if_pos c2] at h
        refine ax_if_eq_t (pc := 32) (tgt := 101) (ax_dd KX10_text 20 rfl) (by decide) c2 ?_
        refine ax_sub (lv' := [(0, .ref (G.1 + 51)), (1, .int x1)]) [0, 1] rfl ?_
        exact a_X10_text_101 hs h
      · rw [if_neg c2] at h
        refine ax_if_eq_f (pc := 32) (tgt := 101) (ax_dd KX10_text 20 rfl) (by decide) c2 ?_
        refine ax_aload_n (pc := 35) (i := 0) (q := 0) (ax_dd KX10_text 21 rfl) rfl rfl ?_
        obtain ⟨μ5, b4, h⟩ := ob_bind h
        refine ax_kV (pc := 36) (ci := 10) (k := 51) (As := []) (rest := []) (st1 := []) (μ1 := μ5) (ax_dd KX10_text 22 rfl) (c_X10_next hs b4) kV_X10_137 e_X10_next (hs 51 _ rfl) cl_X10 (by decide) rfl rfl (by decide) (by decide) (Nat.le_of_ble_eq_true rfl) rfl ?_
        refine ax_aload_n (pc := 39) (i := 0) (q := 0) (ax_dd KX10_text 23 rfl) rfl rfl ?_
        refine ax_getI (pc := 40) (k := 51) (ax_dd KX10_text 24 rfl) f_X10_105 (hs 51 _ rfl) rfl ?_
        refine ax_iconst (pc := 43) (v := 3) (ax_dd KX10_text 25 rfl) (by decide) ?_
        by_cases c6 : (μ5 51 20) = 3
        · rw [if_pos c6] at h
          refine ax_icmp_ne_f (pc := 44) (tgt := 59) (ax_dd KX10_text 26 rfl) (by decide) (fun z => z c6) ?_
          refine ax_aload_n (pc := 47) (i := 0) (q := 0) (ax_dd KX10_text 27 rfl) rfl rfl ?_
          refine ax_getI (pc := 48) (k := 51) (ax_dd KX10_text 28 rfl) f_X10_108 (hs 51 _ rfl) rfl ?_
          refine ax_iload_n (pc := 51) (i := 2) (q := 2) (ax_dd KX10_text 29 rfl) rfl rfl ?_
          by_cases c7 : (μ5 51 21) = x2
          · rw [if_pos c7] at h
            refine ax_icmp_ne_f (pc := 52) (tgt := 59) (ax_dd KX10_text 30 rfl) (by decide) (fun z => z c7) ?_
            refine ax_iconst (pc := 55) (v := 1) (ax_dd KX10_text 31 rfl) (by decide) ?_
            refine ax_goto (pc := 56) (tgt := 60) (ax_dd KX10_text 32 rfl) (by decide) ?_
            refine ax_sub (lv' := [(0, .ref (G.1 + 51)), (2, .int x2)]) [0, 2] rfl ?_
            exact a_X10_text_60 hs ih h
          · rw [if_neg c7] at h
            refine ax_icmp_ne_t (pc := 52) (tgt := 59) (ax_dd KX10_text 30 rfl) (by decide) c7 ?_
            refine ax_iconst (pc := 59) (v := 0) (ax_dd KX10_text 33 rfl) (by decide) ?_
            refine ax_sub (lv' := [(0, .ref (G.1 + 51)), (2, .int x2)]) [0, 2] rfl ?_
            exact a_X10_text_60 hs ih h
        · rw [if_neg c6] at h
          refine ax_icmp_ne_t (pc := 44) (tgt := 59) (ax_dd KX10_text 26 rfl) (by decide) c6 ?_
          refine ax_iconst (pc := 59) (v := 0) (ax_dd KX10_text 33 rfl) (by decide) ?_
          refine ax_sub (lv' := [(0, .ref (G.1 + 51)), (2, .int x2)]) [0, 2] rfl ?_
          exact a_X10_text_60 hs ih h
def m_X10_text (μ : ax_M) : Option (Int32 × ax_M) :=
  if (μ 51 9) = 6 then
    some ((-4), μ)
  else
    m_X10_text_26 fu 1 0 (ax_w (ax_w μ 51 18 0) 51 26 0)
set_option maxRecDepth 100000 in
set_option maxHeartbeats 8000000 in
theorem c_X10_text {G : ax_G} {l : Launch} {sh : List ax_E} {μ : ax_M} (hs : ∀ (k : Nat) (e : ax_E), SHF[k]? = some e → sh[k]? = some e) {v : Int32 × ax_M} (h : m_X10_text μ = some v) : ax_A G l yX10_text cX10_text 3 (some .int) 6 [.ref (G.1 + 51)] sh μ (some (.int v.1), sh, v.2) := by
  refine ax_A.of false (by decide +kernel) (fun h9 => by cases h9) (Nat.le_of_ble_eq_true rfl) (?_ : ax_X G l RX10 cX10_text 3 (some .int) false 6 (some (.int v.1), sh, v.2) 0 [(0, .ref (G.1 + 51))] [] sh μ)
  unfold m_X10_text at h
  refine ax_aload_n (pc := 0) (i := 0) (q := 0) (ax_dd KX10_text 0 rfl) rfl rfl ?_
  refine ax_getI (pc := 1) (k := 51) (ax_dd KX10_text 1 rfl) f_X10_89 (hs 51 _ rfl) rfl ?_
  refine ax_bipush (pc := 4) (v := 6) (ax_dd KX10_text 2 rfl) (by decide) ?_
  by_cases c1 : (μ 51 9) = 6
  · rw [if_pos c1] at h
    refine ax_icmp_ne_f (pc := 6) (tgt := 12) (ax_dd KX10_text 3 rfl) (by decide) (fun z => z c1) ?_
    refine ax_bipush (pc := 9) (v := (-4)) (ax_dd KX10_text 4 rfl) (by decide) ?_
    obtain rfl := Option.some.inj h
    exact ax_ireti (pc := 11) (ax_dd KX10_text 5 rfl) ⟨_, rfl, rfl⟩ rfl
  · rw [if_neg c1] at h
    refine ax_icmp_ne_t (pc := 6) (tgt := 12) (ax_dd KX10_text 3 rfl) (by decide) c1 ?_
    refine ax_aload_n (pc := 12) (i := 0) (q := 0) (ax_dd KX10_text 6 rfl) rfl rfl ?_
    refine ax_iconst (pc := 13) (v := 0) (ax_dd KX10_text 7 rfl) (by decide) ?_
    refine ax_putI (pc := 14) (k := 51) (ax_dd KX10_text 8 rfl) f_X10_99 ft_X10 (hs 51 _ rfl) rfl (fun _ h9 => by cases h9; rfl) rfl rfl ?_
    refine ax_aload_n (pc := 17) (i := 0) (q := 0) (ax_dd KX10_text 9 rfl) rfl rfl ?_
    refine ax_iconst (pc := 18) (v := 0) (ax_dd KX10_text 10 rfl) (by decide) ?_
    refine ax_putI (pc := 19) (k := 51) (ax_dd KX10_text 11 rfl) f_X10_114 ft_X10 (hs 51 _ rfl) rfl (fun _ h9 => by cases h9; rfl) rfl rfl ?_
    refine ax_iconst (pc := 22) (v := 1) (ax_dd KX10_text 12 rfl) (by decide) ?_
    refine ax_istore_n (pc := 23) (i := 1) (lv' := [(1, .int 1), (0, .ref (G.1 + 51))]) (ax_dd KX10_text 13 rfl) rfl (by decide) rfl ?_
    refine ax_iconst (pc := 24) (v := 0) (ax_dd KX10_text 14 rfl) (by decide) ?_
    refine ax_istore_n (pc := 25) (i := 2) (lv' := [(2, .int 0), (1, .int 1), (0, .ref (G.1 + 51))]) (ax_dd KX10_text 15 rfl) rfl (by decide) rfl ?_
    refine ax_sub (lv' := [(0, .ref (G.1 + 51)), (1, .int 1), (2, .int 0)]) [2, 1, 0] rfl ?_
    exact a_X10_text_26 hs fu _ _ _ _ h
def m_X10_within (x0 : Int32) (x1 : Int32) (x2 : Int32) (μ : ax_M) : Option (Int32) :=
  if x1 ≤ x0 then
    if x0 ≤ x2 then
      some x0
    else
      some x2
  else
    some x1
set_option maxRecDepth 100000 in
set_option maxHeartbeats 8000000 in
theorem c_X10_within {G : ax_G} {l : Launch} {sh : List ax_E} {x0 : Int32} {x1 : Int32} {x2 : Int32} {μ : ax_M} (hs : ∀ (k : Nat) (e : ax_E), SHF[k]? = some e → sh[k]? = some e) {v : Int32} (h : m_X10_within x0 x1 x2 μ = some v) : ax_A G l yX10_within cX10_within 3 (some .int) 2 [.int x0, .int x1, .int x2] sh μ (some (.int v), sh, μ) := by
  refine ax_A.of false (by decide +kernel) (fun h9 => by cases h9) (Nat.le_of_ble_eq_true rfl) (?_ : ax_X G l RX10 cX10_within 3 (some .int) false 2 (some (.int v), sh, μ) 0 [(0, .int x0), (1, .int x1), (2, .int x2)] [] sh μ)
  unfold m_X10_within at h
  refine ax_iload_n (pc := 0) (i := 0) (q := 0) (ax_dd KX10_within 0 rfl) rfl rfl ?_
  refine ax_iload_n (pc := 1) (i := 1) (q := 1) (ax_dd KX10_within 1 rfl) rfl rfl ?_
  by_cases c1 : x1 ≤ x0
  · rw [if_pos c1] at h
    refine ax_icmp_ge_t (pc := 2) (tgt := 9) (ax_dd KX10_within 2 rfl) (by decide) c1 ?_
    refine ax_iload_n (pc := 9) (i := 0) (q := 0) (ax_dd KX10_within 5 rfl) rfl rfl ?_
    refine ax_iload_n (pc := 10) (i := 2) (q := 2) (ax_dd KX10_within 6 rfl) rfl rfl ?_
    by_cases c2 : x0 ≤ x2
    · rw [if_pos c2] at h
      refine ax_icmp_le_t (pc := 11) (tgt := 18) (ax_dd KX10_within 7 rfl) (by decide) c2 ?_
      refine ax_iload_n (pc := 18) (i := 0) (q := 0) (ax_dd KX10_within 10 rfl) rfl rfl ?_
      obtain rfl := Option.some.inj h
      exact ax_ireti (pc := 19) (ax_dd KX10_within 11 rfl) ⟨_, rfl, rfl⟩ rfl
    · rw [if_neg c2] at h
      refine ax_icmp_le_f (pc := 11) (tgt := 18) (ax_dd KX10_within 7 rfl) (by decide) c2 ?_
      refine ax_iload_n (pc := 14) (i := 2) (q := 2) (ax_dd KX10_within 8 rfl) rfl rfl ?_
      refine ax_goto (pc := 15) (tgt := 19) (ax_dd KX10_within 9 rfl) (by decide) ?_
      obtain rfl := Option.some.inj h
      exact ax_ireti (pc := 19) (ax_dd KX10_within 11 rfl) ⟨_, rfl, rfl⟩ rfl
  · rw [if_neg c1] at h
    refine ax_icmp_ge_f (pc := 2) (tgt := 9) (ax_dd KX10_within 2 rfl) (by decide) c1 ?_
    refine ax_iload_n (pc := 5) (i := 1) (q := 1) (ax_dd KX10_within 3 rfl) rfl rfl ?_
    refine ax_goto (pc := 6) (tgt := 19) (ax_dd KX10_within 4 rfl) (by decide) ?_
    obtain rfl := Option.some.inj h
    exact ax_ireti (pc := 19) (ax_dd KX10_within 11 rfl) ⟨_, rfl, rfl⟩ rfl
def m_X10_isRug (x1 : Int32) (μ : ax_M) : Option (Int32) :=
  (m_X10_in x1 0 ((μ 51 0) - 1) μ).bind fun v1 =>
  if v1 = 0 ∨ v1 = 1 then
    some v1
  else
    none
set_option maxRecDepth 100000 in
set_option maxHeartbeats 8000000 in
theorem c_X10_isRug {G : ax_G} {l : Launch} {sh : List ax_E} {x1 : Int32} {μ : ax_M} (hs : ∀ (k : Nat) (e : ax_E), SHF[k]? = some e → sh[k]? = some e) {v : Int32} (h : m_X10_isRug x1 μ = some v) : ax_A G l yX10_isRug cX10_isRug 2 (some .boolean) 3 [.ref (G.1 + 51), .int x1] sh μ (some (.int v), sh, μ) := by
  refine ax_A.of false (by decide +kernel) (fun h9 => by cases h9) (Nat.le_of_ble_eq_true rfl) (?_ : ax_X G l RX10 cX10_isRug 2 (some .boolean) false 3 (some (.int v), sh, μ) 0 [(0, .ref (G.1 + 51)), (1, .int x1)] [] sh μ)
  unfold m_X10_isRug at h
  refine ax_iload_n (pc := 0) (i := 1) (q := 1) (ax_dd KX10_isRug 0 rfl) rfl rfl ?_
  refine ax_iconst (pc := 1) (v := 0) (ax_dd KX10_isRug 1 rfl) (by decide) ?_
  refine ax_aload_n (pc := 2) (i := 0) (q := 0) (ax_dd KX10_isRug 2 rfl) rfl rfl ?_
  refine ax_getI (pc := 3) (k := 51) (ax_dd KX10_isRug 3 rfl) f_X10_78 (hs 51 _ rfl) rfl ?_
  refine ax_iconst (pc := 6) (v := 1) (ax_dd KX10_isRug 4 rfl) (by decide) ?_
  refine ax_isub (pc := 7) (ax_dd KX10_isRug 5 rfl) ?_
  obtain ⟨v1, b2, h⟩ := ob_bind h
  refine ax_kS (pc := 8) (As := [.int x1, .int 0, .int ((μ 51 0) - 1)]) (rest := []) (st1 := [.int v1]) (μ1 := μ) (ax_dd KX10_isRug 6 rfl) (c_X10_in hs b2) kS_X10_81 e_X10_in rfl rfl (by decide) (by decide) (Nat.le_of_ble_eq_true rfl) rfl ?_
  by_cases c3 : v1 = 0 ∨ v1 = 1
  · rw [if_pos c3] at h
    obtain rfl := Option.some.inj h
    exact ax_ireti (pc := 11) (ax_dd KX10_isRug 7 rfl) ⟨_, rfl, ax_nb c3⟩ rfl
  · rw [if_neg c3] at h
    cases h
def m_X10_isCell (x0 : Int32) (μ : ax_M) : Option (Int32) :=
  (m_X10_in x0 0 35 μ).bind fun v1 =>
  if v1 = 0 ∨ v1 = 1 then
    some v1
  else
    none
set_option maxRecDepth 100000 in
set_option maxHeartbeats 8000000 in
theorem c_X10_isCell {G : ax_G} {l : Launch} {sh : List ax_E} {x0 : Int32} {μ : ax_M} (hs : ∀ (k : Nat) (e : ax_E), SHF[k]? = some e → sh[k]? = some e) {v : Int32} (h : m_X10_isCell x0 μ = some v) : ax_A G l yX10_isCell cX10_isCell 1 (some .boolean) 3 [.int x0] sh μ (some (.int v), sh, μ) := by
  refine ax_A.of false (by decide +kernel) (fun h9 => by cases h9) (Nat.le_of_ble_eq_true rfl) (?_ : ax_X G l RX10 cX10_isCell 1 (some .boolean) false 3 (some (.int v), sh, μ) 0 [(0, .int x0)] [] sh μ)
  unfold m_X10_isCell at h
  refine ax_iload_n (pc := 0) (i := 0) (q := 0) (ax_dd KX10_isCell 0 rfl) rfl rfl ?_
  refine ax_iconst (pc := 1) (v := 0) (ax_dd KX10_isCell 1 rfl) (by decide) ?_
  refine ax_bipush (pc := 2) (v := 35) (ax_dd KX10_isCell 2 rfl) (by decide) ?_
  obtain ⟨v1, b2, h⟩ := ob_bind h
  refine ax_kS (pc := 4) (As := [.int x0, .int 0, .int 35]) (rest := []) (st1 := [.int v1]) (μ1 := μ) (ax_dd KX10_isCell 3 rfl) (c_X10_in hs b2) kS_X10_81 e_X10_in rfl rfl (by decide) (by decide) (Nat.le_of_ble_eq_true rfl) rfl ?_
  by_cases c3 : v1 = 0 ∨ v1 = 1
  · rw [if_pos c3] at h
    obtain rfl := Option.some.inj h
    exact ax_ireti (pc := 7) (ax_dd KX10_isCell 4 rfl) ⟨_, rfl, ax_nb c3⟩ rfl
  · rw [if_neg c3] at h
    cases h
def m_X10_areCorners (x0 : Int32) (μ : ax_M) : Option (Int32) :=
  (m_X10_in x0 0 3535 μ).bind fun v1 =>
  if v1 = 0 then
    some 0
  else
    if (rmI x0 100) < 36 then
      if (rmI (rmI x0 100) 6) < (rmI (x0 / 100) 6) then
        some 0
      else
        if ((rmI x0 100) / 6) < ((x0 / 100) / 6) then
          some 0
        else
          some 1
    else
      some 0
set_option maxRecDepth 100000 in
set_option maxHeartbeats 8000000 in
theorem c_X10_areCorners {G : ax_G} {l : Launch} {sh : List ax_E} {x0 : Int32} {μ : ax_M} (hs : ∀ (k : Nat) (e : ax_E), SHF[k]? = some e → sh[k]? = some e) {v : Int32} (h : m_X10_areCorners x0 μ = some v) : ax_A G l yX10_areCorners cX10_areCorners 3 (some .boolean) 3 [.int x0] sh μ (some (.int v), sh, μ) := by
  refine ax_A.of false (by decide +kernel) (fun h9 => by cases h9) (Nat.le_of_ble_eq_true rfl) (?_ : ax_X G l RX10 cX10_areCorners 3 (some .boolean) false 3 (some (.int v), sh, μ) 0 [(0, .int x0)] [] sh μ)
  unfold m_X10_areCorners at h
  refine ax_iload_n (pc := 0) (i := 0) (q := 0) (ax_dd KX10_areCorners 0 rfl) rfl rfl ?_
  refine ax_iconst (pc := 1) (v := 0) (ax_dd KX10_areCorners 1 rfl) (by decide) ?_
  refine ax_sipush (pc := 2) (v := 3535) (ax_dd KX10_areCorners 2 rfl) (by decide) ?_
  obtain ⟨v1, b2, h⟩ := ob_bind h
  refine ax_kS (pc := 5) (As := [.int x0, .int 0, .int 3535]) (rest := []) (st1 := [.int v1]) (μ1 := μ) (ax_dd KX10_areCorners 3 rfl) (c_X10_in hs b2) kS_X10_81 e_X10_in rfl rfl (by decide) (by decide) (Nat.le_of_ble_eq_true rfl) rfl ?_
  by_cases c3 : v1 = 0
  · rw [if_pos c3] at h
    refine ax_if_eq_t (pc := 8) (tgt := 20) (ax_dd KX10_areCorners 4 rfl) (by decide) c3 ?_
    refine ax_iconst (pc := 20) (v := 0) (ax_dd KX10_areCorners 10 rfl) (by decide) ?_
    obtain rfl := Option.some.inj h
    exact ax_ireti (pc := 21) (ax_dd KX10_areCorners 11 rfl) ⟨_, rfl, rfl⟩ rfl
  · rw [if_neg c3] at h
    refine ax_if_eq_f (pc := 8) (tgt := 20) (ax_dd KX10_areCorners 4 rfl) (by decide) c3 ?_
    refine ax_iload_n (pc := 11) (i := 0) (q := 0) (ax_dd KX10_areCorners 5 rfl) rfl rfl ?_
    refine ax_bipush (pc := 12) (v := 100) (ax_dd KX10_areCorners 6 rfl) (by decide) ?_
    refine ax_irem (pc := 14) (ax_dd KX10_areCorners 7 rfl) (by decide) ?_
    refine ax_bipush (pc := 15) (v := 36) (ax_dd KX10_areCorners 8 rfl) (by decide) ?_
    by_cases c4 : (rmI x0 100) < 36
    · rw [if_pos c4] at h
      refine ax_icmp_lt_t (pc := 17) (tgt := 22) (ax_dd KX10_areCorners 9 rfl) (by decide) c4 ?_
      refine ax_iload_n (pc := 22) (i := 0) (q := 0) (ax_dd KX10_areCorners 12 rfl) rfl rfl ?_
      refine ax_bipush (pc := 23) (v := 100) (ax_dd KX10_areCorners 13 rfl) (by decide) ?_
      refine ax_idiv (pc := 25) (ax_dd KX10_areCorners 14 rfl) (by decide) ?_
      refine ax_istore_n (pc := 26) (i := 1) (lv' := [(1, .int (x0 / 100)), (0, .int x0)]) (ax_dd KX10_areCorners 15 rfl) rfl (by decide) rfl ?_
      refine ax_iload_n (pc := 27) (i := 0) (q := 1) (ax_dd KX10_areCorners 16 rfl) rfl rfl ?_
      refine ax_bipush (pc := 28) (v := 100) (ax_dd KX10_areCorners 17 rfl) (by decide) ?_
      refine ax_irem (pc := 30) (ax_dd KX10_areCorners 18 rfl) (by decide) ?_
      refine ax_istore_n (pc := 31) (i := 2) (lv' := [(2, .int (rmI x0 100)), (1, .int (x0 / 100)), (0, .int x0)]) (ax_dd KX10_areCorners 19 rfl) rfl (by decide) rfl ?_
      refine ax_iload_n (pc := 32) (i := 1) (q := 1) (ax_dd KX10_areCorners 20 rfl) rfl rfl ?_
      refine ax_bipush (pc := 33) (v := 6) (ax_dd KX10_areCorners 21 rfl) (by decide) ?_
      refine ax_irem (pc := 35) (ax_dd KX10_areCorners 22 rfl) (by decide) ?_
      refine ax_iload_n (pc := 36) (i := 2) (q := 0) (ax_dd KX10_areCorners 23 rfl) rfl rfl ?_
      refine ax_bipush (pc := 37) (v := 6) (ax_dd KX10_areCorners 24 rfl) (by decide) ?_
      refine ax_irem (pc := 39) (ax_dd KX10_areCorners 25 rfl) (by decide) ?_
      by_cases c5 : (rmI (rmI x0 100) 6) < (rmI (x0 / 100) 6)
      · rw [if_pos c5] at h
        refine ax_icmp_gt_t (pc := 40) (tgt := 58) (ax_dd KX10_areCorners 26 rfl) (by decide) c5 ?_
        refine ax_iconst (pc := 58) (v := 0) (ax_dd KX10_areCorners 36 rfl) (by decide) ?_
        obtain rfl := Option.some.inj h
        exact ax_ireti (pc := 59) (ax_dd KX10_areCorners 37 rfl) ⟨_, rfl, rfl⟩ rfl
      · rw [if_neg c5] at h
        refine ax_icmp_gt_f (pc := 40) (tgt := 58) (ax_dd KX10_areCorners 26 rfl) (by decide) c5 ?_
        refine ax_iload_n (pc := 43) (i := 1) (q := 1) (ax_dd KX10_areCorners 27 rfl) rfl rfl ?_
        refine ax_bipush (pc := 44) (v := 6) (ax_dd KX10_areCorners 28 rfl) (by decide) ?_
        refine ax_idiv (pc := 46) (ax_dd KX10_areCorners 29 rfl) (by decide) ?_
        refine ax_iload_n (pc := 47) (i := 2) (q := 0) (ax_dd KX10_areCorners 30 rfl) rfl rfl ?_
        refine ax_bipush (pc := 48) (v := 6) (ax_dd KX10_areCorners 31 rfl) (by decide) ?_
        refine ax_idiv (pc := 50) (ax_dd KX10_areCorners 32 rfl) (by decide) ?_
        by_cases c6 : ((rmI x0 100) / 6) < ((x0 / 100) / 6)
        · rw [if_pos c6] at h
          refine ax_icmp_gt_t (pc := 51) (tgt := 58) (ax_dd KX10_areCorners 33 rfl) (by decide) c6 ?_
          refine ax_iconst (pc := 58) (v := 0) (ax_dd KX10_areCorners 36 rfl) (by decide) ?_
          obtain rfl := Option.some.inj h
          exact ax_ireti (pc := 59) (ax_dd KX10_areCorners 37 rfl) ⟨_, rfl, rfl⟩ rfl
        · rw [if_neg c6] at h
          refine ax_icmp_gt_f (pc := 51) (tgt := 58) (ax_dd KX10_areCorners 33 rfl) (by decide) c6 ?_
          refine ax_iconst (pc := 54) (v := 1) (ax_dd KX10_areCorners 34 rfl) (by decide) ?_
          refine ax_goto (pc := 55) (tgt := 59) (ax_dd KX10_areCorners 35 rfl) (by decide) ?_
          obtain rfl := Option.some.inj h
          exact ax_ireti (pc := 59) (ax_dd KX10_areCorners 37 rfl) ⟨_, rfl, rfl⟩ rfl
    · rw [if_neg c4] at h
      refine ax_icmp_lt_f (pc := 17) (tgt := 22) (ax_dd KX10_areCorners 9 rfl) (by decide) c4 ?_
      refine ax_iconst (pc := 20) (v := 0) (ax_dd KX10_areCorners 10 rfl) (by decide) ?_
      obtain rfl := Option.some.inj h
      exact ax_ireti (pc := 21) (ax_dd KX10_areCorners 11 rfl) ⟨_, rfl, rfl⟩ rfl
def m_X10_without0 (x0 : Int32) (x1 : Int32) (μ : ax_M) : Option (Int32) :=
  if x1 ≤ x0 then
    some (x0 - x1)
  else
    some (x1 - x0)
set_option maxRecDepth 100000 in
set_option maxHeartbeats 8000000 in
theorem c_X10_without0 {G : ax_G} {l : Launch} {sh : List ax_E} {x0 : Int32} {x1 : Int32} {μ : ax_M} (hs : ∀ (k : Nat) (e : ax_E), SHF[k]? = some e → sh[k]? = some e) {v : Int32} (h : m_X10_without0 x0 x1 μ = some v) : ax_A G l yX10_without0 cX10_without0 2 (some .int) 2 [.int x0, .int x1] sh μ (some (.int v), sh, μ) := by
  refine ax_A.of false (by decide +kernel) (fun h9 => by cases h9) (Nat.le_of_ble_eq_true rfl) (?_ : ax_X G l RX10 cX10_without0 2 (some .int) false 2 (some (.int v), sh, μ) 0 [(0, .int x0), (1, .int x1)] [] sh μ)
  unfold m_X10_without0 at h
  refine ax_iload_n (pc := 0) (i := 0) (q := 0) (ax_dd KX10_without0 0 rfl) rfl rfl ?_
  refine ax_iload_n (pc := 1) (i := 1) (q := 1) (ax_dd KX10_without0 1 rfl) rfl rfl ?_
  by_cases c1 : x1 ≤ x0
  · rw [if_pos c1] at h
    refine ax_icmp_ge_t (pc := 2) (tgt := 11) (ax_dd KX10_without0 2 rfl) (by decide) c1 ?_
    refine ax_iload_n (pc := 11) (i := 0) (q := 0) (ax_dd KX10_without0 7 rfl) rfl rfl ?_
    refine ax_iload_n (pc := 12) (i := 1) (q := 1) (ax_dd KX10_without0 8 rfl) rfl rfl ?_
    refine ax_isub (pc := 13) (ax_dd KX10_without0 9 rfl) ?_
    obtain rfl := Option.some.inj h
    exact ax_ireti (pc := 14) (ax_dd KX10_without0 10 rfl) ⟨_, rfl, rfl⟩ rfl
  · rw [if_neg c1] at h
    refine ax_icmp_ge_f (pc := 2) (tgt := 11) (ax_dd KX10_without0 2 rfl) (by decide) c1 ?_
    refine ax_iload_n (pc := 5) (i := 1) (q := 1) (ax_dd KX10_without0 3 rfl) rfl rfl ?_
    refine ax_iload_n (pc := 6) (i := 0) (q := 0) (ax_dd KX10_without0 4 rfl) rfl rfl ?_
    refine ax_isub (pc := 7) (ax_dd KX10_without0 5 rfl) ?_
    refine ax_goto (pc := 8) (tgt := 14) (ax_dd KX10_without0 6 rfl) (by decide) ?_
    obtain rfl := Option.some.inj h
    exact ax_ireti (pc := 14) (ax_dd KX10_without0 10 rfl) ⟨_, rfl, rfl⟩ rfl
def m_X10_isBeside (x0 : Int32) (x1 : Int32) (μ : ax_M) : Option (Int32) :=
  (m_X10_without0 (rmI x0 6) (rmI x1 6) μ).bind fun v1 =>
  (m_X10_without0 (x0 / 6) (x1 / 6) μ).bind fun v3 =>
  if (v1 + v3) = 1 then
    some 1
  else
    some 0
set_option maxRecDepth 100000 in
set_option maxHeartbeats 8000000 in
theorem c_X10_isBeside {G : ax_G} {l : Launch} {sh : List ax_E} {x0 : Int32} {x1 : Int32} {μ : ax_M} (hs : ∀ (k : Nat) (e : ax_E), SHF[k]? = some e → sh[k]? = some e) {v : Int32} (h : m_X10_isBeside x0 x1 μ = some v) : ax_A G l yX10_isBeside cX10_isBeside 2 (some .boolean) 3 [.int x0, .int x1] sh μ (some (.int v), sh, μ) := by
  refine ax_A.of false (by decide +kernel) (fun h9 => by cases h9) (Nat.le_of_ble_eq_true rfl) (?_ : ax_X G l RX10 cX10_isBeside 2 (some .boolean) false 3 (some (.int v), sh, μ) 0 [(0, .int x0), (1, .int x1)] [] sh μ)
  unfold m_X10_isBeside at h
  refine ax_iload_n (pc := 0) (i := 0) (q := 0) (ax_dd KX10_isBeside 0 rfl) rfl rfl ?_
  refine ax_bipush (pc := 1) (v := 6) (ax_dd KX10_isBeside 1 rfl) (by decide) ?_
  refine ax_irem (pc := 3) (ax_dd KX10_isBeside 2 rfl) (by decide) ?_
  refine ax_iload_n (pc := 4) (i := 1) (q := 1) (ax_dd KX10_isBeside 3 rfl) rfl rfl ?_
  refine ax_bipush (pc := 5) (v := 6) (ax_dd KX10_isBeside 4 rfl) (by decide) ?_
  refine ax_irem (pc := 7) (ax_dd KX10_isBeside 5 rfl) (by decide) ?_
  obtain ⟨v1, b2, h⟩ := ob_bind h
  refine ax_kS (pc := 8) (As := [.int (rmI x0 6), .int (rmI x1 6)]) (rest := []) (st1 := [.int v1]) (μ1 := μ) (ax_dd KX10_isBeside 6 rfl) (c_X10_without0 hs b2) kS_X10_85 e_X10_without0 rfl rfl (by decide) (by decide) (Nat.le_of_ble_eq_true rfl) rfl ?_
  refine ax_iload_n (pc := 11) (i := 0) (q := 0) (ax_dd KX10_isBeside 7 rfl) rfl rfl ?_
  refine ax_bipush (pc := 12) (v := 6) (ax_dd KX10_isBeside 8 rfl) (by decide) ?_
  refine ax_idiv (pc := 14) (ax_dd KX10_isBeside 9 rfl) (by decide) ?_
  refine ax_iload_n (pc := 15) (i := 1) (q := 1) (ax_dd KX10_isBeside 10 rfl) rfl rfl ?_
  refine ax_bipush (pc := 16) (v := 6) (ax_dd KX10_isBeside 11 rfl) (by decide) ?_
  refine ax_idiv (pc := 18) (ax_dd KX10_isBeside 12 rfl) (by decide) ?_
  obtain ⟨v3, b4, h⟩ := ob_bind h
  refine ax_kS (pc := 19) (As := [.int (x0 / 6), .int (x1 / 6)]) (rest := [.int v1]) (st1 := [.int v3, .int v1]) (μ1 := μ) (ax_dd KX10_isBeside 13 rfl) (c_X10_without0 hs b4) kS_X10_85 e_X10_without0 rfl rfl (by decide) (by decide) (Nat.le_of_ble_eq_true rfl) rfl ?_
  refine ax_iadd (pc := 22) (ax_dd KX10_isBeside 14 rfl) ?_
  refine ax_iconst (pc := 23) (v := 1) (ax_dd KX10_isBeside 15 rfl) (by decide) ?_
  by_cases c5 : (v1 + v3) = 1
  · rw [if_pos c5] at h
    refine ax_icmp_ne_f (pc := 24) (tgt := 31) (ax_dd KX10_isBeside 16 rfl) (by decide) (fun z => z c5) ?_
    refine ax_iconst (pc := 27) (v := 1) (ax_dd KX10_isBeside 17 rfl) (by decide) ?_
    refine ax_goto (pc := 28) (tgt := 32) (ax_dd KX10_isBeside 18 rfl) (by decide) ?_
    obtain rfl := Option.some.inj h
    exact ax_ireti (pc := 32) (ax_dd KX10_isBeside 20 rfl) ⟨_, rfl, rfl⟩ rfl
  · rw [if_neg c5] at h
    refine ax_icmp_ne_t (pc := 24) (tgt := 31) (ax_dd KX10_isBeside 16 rfl) (by decide) c5 ?_
    refine ax_iconst (pc := 31) (v := 0) (ax_dd KX10_isBeside 19 rfl) (by decide) ?_
    obtain rfl := Option.some.inj h
    exact ax_ireti (pc := 32) (ax_dd KX10_isBeside 20 rfl) ⟨_, rfl, rfl⟩ rfl
def m_X10_lies (x1 : Int32) (x2 : Int32) (μ : ax_M) : Option (Int32) :=
  (ix 18 ((3 : Int32) * x1)).bind fun j1 =>
  (ix 18 (((3 : Int32) * x1) + 1)).bind fun j3 =>
  (m_X10_in (rmI x2 6) (rmI (μ 54 j1) 6) (rmI (μ 54 j3) 6) μ).bind fun v5 =>
  if v5 = 0 then
    some 0
  else
    (m_X10_in (x2 / 6) ((μ 54 j1) / 6) ((μ 54 j3) / 6) μ).bind fun v8 =>
    if v8 = 0 then
      some 0
    else
      some 1
set_option maxRecDepth 100000 in
set_option maxHeartbeats 8000000 in
theorem c_X10_lies {G : ax_G} {l : Launch} {sh : List ax_E} {x1 : Int32} {x2 : Int32} {μ : ax_M} (hs : ∀ (k : Nat) (e : ax_E), SHF[k]? = some e → sh[k]? = some e) {v : Int32} (h : m_X10_lies x1 x2 μ = some v) : ax_A G l yX10_lies cX10_lies 5 (some .boolean) 3 [.ref (G.1 + 51), .int x1, .int x2] sh μ (some (.int v), sh, μ) := by
  refine ax_A.of false (by decide +kernel) (fun h9 => by cases h9) (Nat.le_of_ble_eq_true rfl) (?_ : ax_X G l RX10 cX10_lies 5 (some .boolean) false 3 (some (.int v), sh, μ) 0 [(0, .ref (G.1 + 51)), (1, .int x1), (2, .int x2)] [] sh μ)
  unfold m_X10_lies at h
  refine ax_aload_n (pc := 0) (i := 0) (q := 0) (ax_dd KX10_lies 0 rfl) rfl rfl ?_
  refine ax_getR (pc := 1) (k := 51) (q := 54) (ax_dd KX10_lies 1 rfl) f_X10_16 (hs 51 _ rfl) rfl ?_
  refine ax_iconst (pc := 4) (v := 3) (ax_dd KX10_lies 2 rfl) (by decide) ?_
  refine ax_iload_n (pc := 5) (i := 1) (q := 1) (ax_dd KX10_lies 3 rfl) rfl rfl ?_
  refine ax_imul (pc := 6) (ax_dd KX10_lies 4 rfl) ?_
  obtain ⟨j1, b2, h⟩ := ob_bind h
  refine ax_ild (pc := 7) (k := 54) (N := 18) (j := j1) (ax_dd KX10_lies 5 rfl) (hs 54 _ rfl) b2 ?_
  refine ax_istore_n (pc := 8) (i := 3) (lv' := [(3, .int (μ 54 j1)), (0, .ref (G.1 + 51)), (1, .int x1), (2, .int x2)]) (ax_dd KX10_lies 6 rfl) rfl (by decide) rfl ?_
  refine ax_aload_n (pc := 9) (i := 0) (q := 1) (ax_dd KX10_lies 7 rfl) rfl rfl ?_
  refine ax_getR (pc := 10) (k := 51) (q := 54) (ax_dd KX10_lies 8 rfl) f_X10_16 (hs 51 _ rfl) rfl ?_
  refine ax_iconst (pc := 13) (v := 3) (ax_dd KX10_lies 9 rfl) (by decide) ?_
  refine ax_iload_n (pc := 14) (i := 1) (q := 2) (ax_dd KX10_lies 10 rfl) rfl rfl ?_
  refine ax_imul (pc := 15) (ax_dd KX10_lies 11 rfl) ?_
  refine ax_iconst (pc := 16) (v := 1) (ax_dd KX10_lies 12 rfl) (by decide) ?_
  refine ax_iadd (pc := 17) (ax_dd KX10_lies 13 rfl) ?_
  obtain ⟨j3, b4, h⟩ := ob_bind h
  refine ax_ild (pc := 18) (k := 54) (N := 18) (j := j3) (ax_dd KX10_lies 14 rfl) (hs 54 _ rfl) b4 ?_
  refine ax_istore (pc := 19) (lv' := [(4, .int (μ 54 j3)), (3, .int (μ 54 j1)), (0, .ref (G.1 + 51)), (1, .int x1), (2, .int x2)]) (ax_dd KX10_lies 15 rfl) (by decide) rfl ?_
  refine ax_iload_n (pc := 21) (i := 2) (q := 4) (ax_dd KX10_lies 16 rfl) rfl rfl ?_
  refine ax_bipush (pc := 22) (v := 6) (ax_dd KX10_lies 17 rfl) (by decide) ?_
  refine ax_irem (pc := 24) (ax_dd KX10_lies 18 rfl) (by decide) ?_
  refine ax_iload_n (pc := 25) (i := 3) (q := 1) (ax_dd KX10_lies 19 rfl) rfl rfl ?_
  refine ax_bipush (pc := 26) (v := 6) (ax_dd KX10_lies 20 rfl) (by decide) ?_
  refine ax_irem (pc := 28) (ax_dd KX10_lies 21 rfl) (by decide) ?_
  refine ax_iload (pc := 29) (q := 0) (ax_dd KX10_lies 22 rfl) rfl ?_
  refine ax_bipush (pc := 31) (v := 6) (ax_dd KX10_lies 23 rfl) (by decide) ?_
  refine ax_irem (pc := 33) (ax_dd KX10_lies 24 rfl) (by decide) ?_
  obtain ⟨v5, b6, h⟩ := ob_bind h
  refine ax_kS (pc := 34) (As := [.int (rmI x2 6), .int (rmI (μ 54 j1) 6), .int (rmI (μ 54 j3) 6)]) (rest := []) (st1 := [.int v5]) (μ1 := μ) (ax_dd KX10_lies 25 rfl) (c_X10_in hs b6) kS_X10_81 e_X10_in rfl rfl (by decide) (by decide) (Nat.le_of_ble_eq_true rfl) rfl ?_
  by_cases c7 : v5 = 0
  · rw [if_pos c7] at h
    refine ax_if_eq_t (pc := 37) (tgt := 63) (ax_dd KX10_lies 26 rfl) (by decide) c7 ?_
    refine ax_iconst (pc := 63) (v := 0) (ax_dd KX10_lies 40 rfl) (by decide) ?_
    obtain rfl := Option.some.inj h
    exact ax_ireti (pc := 64) (ax_dd KX10_lies 41 rfl) ⟨_, rfl, rfl⟩ rfl
  · rw [if_neg c7] at h
    refine ax_if_eq_f (pc := 37) (tgt := 63) (ax_dd KX10_lies 26 rfl) (by decide) c7 ?_
    refine ax_iload_n (pc := 40) (i := 2) (q := 4) (ax_dd KX10_lies 27 rfl) rfl rfl ?_
    refine ax_bipush (pc := 41) (v := 6) (ax_dd KX10_lies 28 rfl) (by decide) ?_
    refine ax_idiv (pc := 43) (ax_dd KX10_lies 29 rfl) (by decide) ?_
    refine ax_iload_n (pc := 44) (i := 3) (q := 1) (ax_dd KX10_lies 30 rfl) rfl rfl ?_
    refine ax_bipush (pc := 45) (v := 6) (ax_dd KX10_lies 31 rfl) (by decide) ?_
    refine ax_idiv (pc := 47) (ax_dd KX10_lies 32 rfl) (by decide) ?_
    refine ax_iload (pc := 48) (q := 0) (ax_dd KX10_lies 33 rfl) rfl ?_
    refine ax_bipush (pc := 50) (v := 6) (ax_dd KX10_lies 34 rfl) (by decide) ?_
    refine ax_idiv (pc := 52) (ax_dd KX10_lies 35 rfl) (by decide) ?_
    obtain ⟨v8, b9, h⟩ := ob_bind h
    refine ax_kS (pc := 53) (As := [.int (x2 / 6), .int ((μ 54 j1) / 6), .int ((μ 54 j3) / 6)]) (rest := []) (st1 := [.int v8]) (μ1 := μ) (ax_dd KX10_lies 36 rfl) (c_X10_in hs b9) kS_X10_81 e_X10_in rfl rfl (by decide) (by decide) (Nat.le_of_ble_eq_true rfl) rfl ?_
    by_cases c10 : v8 = 0
    · rw [if_pos c10] at h
      refine ax_if_eq_t (pc := 56) (tgt := 63) (ax_dd KX10_lies 37 rfl) (by decide) c10 ?_
      refine ax_iconst (pc := 63) (v := 0) (ax_dd KX10_lies 40 rfl) (by decide) ?_
      obtain rfl := Option.some.inj h
      exact ax_ireti (pc := 64) (ax_dd KX10_lies 41 rfl) ⟨_, rfl, rfl⟩ rfl
    · rw [if_neg c10] at h
      refine ax_if_eq_f (pc := 56) (tgt := 63) (ax_dd KX10_lies 37 rfl) (by decide) c10 ?_
      refine ax_iconst (pc := 59) (v := 1) (ax_dd KX10_lies 38 rfl) (by decide) ?_
      refine ax_goto (pc := 60) (tgt := 64) (ax_dd KX10_lies 39 rfl) (by decide) ?_
      obtain rfl := Option.some.inj h
      exact ax_ireti (pc := 64) (ax_dd KX10_lies 41 rfl) ⟨_, rfl, rfl⟩ rfl
def m_X10_isFringe_49 (x2 : Int32) (x3 : Int32) (x4 : Int32) (s0 : Int32) (μ : ax_M) : Option (Int32) :=
  if s0 = 0 then
    if (x2 / 6) = (x3 / 6) then
      some 1
    else
      if (x2 / 6) = (x4 / 6) then
        some 1
      else
        some 0
  else
    some 1
set_option maxRecDepth 100000 in
set_option maxHeartbeats 8000000 in
theorem a_X10_isFringe_49 {G : ax_G} {l : Launch} {sh : List ax_E} {x2 : Int32} {x3 : Int32} {x4 : Int32} {s0 : Int32} {μ : ax_M} (hs : ∀ (k : Nat) (e : ax_E), SHF[k]? = some e → sh[k]? = some e) {v : Int32} (h : m_X10_isFringe_49 x2 x3 x4 s0 μ = some v) : ax_X G l RX10 cX10_isFringe 6 (some .boolean) false 2 (some (.int v), sh, μ) 49 [(2, .int x2), (3, .int x3), (4, .int x4)] [.int s0] sh μ := by
  unfold m_X10_isFringe_49 at h
  refine ax_istore (pc := 49) (lv' := [(5, .int s0), (2, .int x2), (3, .int x3), (4, .int x4)]) (ax_dd KX10_isFringe 33 rfl) (by decide) rfl ?_
  refine ax_iload (pc := 51) (q := 0) (ax_dd KX10_isFringe 34 rfl) rfl ?_
  by_cases c1 : s0 = 0
  · rw [if_pos c1] at h
    refine ax_if_ne_f (pc := 53) (tgt := 79) (ax_dd KX10_isFringe 35 rfl) (by decide) (fun z => z c1) ?_
    refine ax_iload_n (pc := 56) (i := 2) (q := 1) (ax_dd KX10_isFringe 36 rfl) rfl rfl ?_
    refine ax_bipush (pc := 57) (v := 6) (ax_dd KX10_isFringe 37 rfl) (by decide) ?_
    refine ax_idiv (pc := 59) (ax_dd KX10_isFringe 38 rfl) (by decide) ?_
    refine ax_iload_n (pc := 60) (i := 3) (q := 2) (ax_dd KX10_isFringe 39 rfl) rfl rfl ?_
    refine ax_bipush (pc := 61) (v := 6) (ax_dd KX10_isFringe 40 rfl) (by decide) ?_
    refine ax_idiv (pc := 63) (ax_dd KX10_isFringe 41 rfl) (by decide) ?_
    by_cases c2 : (x2 / 6) = (x3 / 6)
    · rw [if_pos c2] at h
      refine ax_icmp_eq_t (pc := 64) (tgt := 79) (ax_dd KX10_isFringe 42 rfl) (by decide) c2 ?_
      refine ax_iconst (pc := 79) (v := 1) (ax_dd KX10_isFringe 50 rfl) (by decide) ?_
      refine ax_goto (pc := 80) (tgt := 84) (ax_dd KX10_isFringe 51 rfl) (by decide) ?_
      obtain rfl := Option.some.inj h
      exact ax_ireti (pc := 84) (ax_dd KX10_isFringe 53 rfl) ⟨_, rfl, rfl⟩ rfl
    · rw [if_neg c2] at h
      refine ax_icmp_eq_f (pc := 64) (tgt := 79) (ax_dd KX10_isFringe 42 rfl) (by decide) c2 ?_
      refine ax_iload_n (pc := 67) (i := 2) (q := 1) (ax_dd KX10_isFringe 43 rfl) rfl rfl ?_
      refine ax_bipush (pc := 68) (v := 6) (ax_dd KX10_isFringe 44 rfl) (by decide) ?_
      refine ax_idiv (pc := 70) (ax_dd KX10_isFringe 45 rfl) (by decide) ?_
      refine ax_iload (pc := 71) (q := 3) (ax_dd KX10_isFringe 46 rfl) rfl ?_
      refine ax_bipush (pc := 73) (v := 6) (ax_dd KX10_isFringe 47 rfl) (by decide) ?_
      refine ax_idiv (pc := 75) (ax_dd KX10_isFringe 48 rfl) (by decide) ?_
      by_cases c3 : (x2 / 6) = (x4 / 6)
      · rw [if_pos c3] at h
        refine ax_icmp_ne_f (pc := 76) (tgt := 83) (ax_dd KX10_isFringe 49 rfl) (by decide) (fun z => z c3) ?_
        refine ax_iconst (pc := 79) (v := 1) (ax_dd KX10_isFringe 50 rfl) (by decide) ?_
        refine ax_goto (pc := 80) (tgt := 84) (ax_dd KX10_isFringe 51 rfl) (by decide) ?_
        obtain rfl := Option.some.inj h
        exact ax_ireti (pc := 84) (ax_dd KX10_isFringe 53 rfl) ⟨_, rfl, rfl⟩ rfl
      · rw [if_neg c3] at h
        refine ax_icmp_ne_t (pc := 76) (tgt := 83) (ax_dd KX10_isFringe 49 rfl) (by decide) c3 ?_
        refine ax_iconst (pc := 83) (v := 0) (ax_dd KX10_isFringe 52 rfl) (by decide) ?_
        obtain rfl := Option.some.inj h
        exact ax_ireti (pc := 84) (ax_dd KX10_isFringe 53 rfl) ⟨_, rfl, rfl⟩ rfl
  · rw [if_neg c1] at h
    refine ax_if_ne_t (pc := 53) (tgt := 79) (ax_dd KX10_isFringe 35 rfl) (by decide) c1 ?_
    refine ax_iconst (pc := 79) (v := 1) (ax_dd KX10_isFringe 50 rfl) (by decide) ?_
    refine ax_goto (pc := 80) (tgt := 84) (ax_dd KX10_isFringe 51 rfl) (by decide) ?_
    obtain rfl := Option.some.inj h
    exact ax_ireti (pc := 84) (ax_dd KX10_isFringe 53 rfl) ⟨_, rfl, rfl⟩ rfl
def m_X10_isFringe (x1 : Int32) (x2 : Int32) (μ : ax_M) : Option (Int32) :=
  (ix 18 ((3 : Int32) * x1)).bind fun j1 =>
  (ix 18 (((3 : Int32) * x1) + 1)).bind fun j3 =>
  if (rmI x2 6) = (rmI (μ 54 j1) 6) then
    m_X10_isFringe_49 x2 (μ 54 j1) (μ 54 j3) 1 μ
  else
    if (rmI x2 6) = (rmI (μ 54 j3) 6) then
      m_X10_isFringe_49 x2 (μ 54 j1) (μ 54 j3) 1 μ
    else
      m_X10_isFringe_49 x2 (μ 54 j1) (μ 54 j3) 0 μ
set_option maxRecDepth 100000 in
set_option maxHeartbeats 8000000 in
theorem c_X10_isFringe {G : ax_G} {l : Launch} {sh : List ax_E} {x1 : Int32} {x2 : Int32} {μ : ax_M} (hs : ∀ (k : Nat) (e : ax_E), SHF[k]? = some e → sh[k]? = some e) {v : Int32} (h : m_X10_isFringe x1 x2 μ = some v) : ax_A G l yX10_isFringe cX10_isFringe 6 (some .boolean) 2 [.ref (G.1 + 51), .int x1, .int x2] sh μ (some (.int v), sh, μ) := by
  refine ax_A.of false (by decide +kernel) (fun h9 => by cases h9) (Nat.le_of_ble_eq_true rfl) (?_ : ax_X G l RX10 cX10_isFringe 6 (some .boolean) false 2 (some (.int v), sh, μ) 0 [(0, .ref (G.1 + 51)), (1, .int x1), (2, .int x2)] [] sh μ)
  unfold m_X10_isFringe at h
  refine ax_aload_n (pc := 0) (i := 0) (q := 0) (ax_dd KX10_isFringe 0 rfl) rfl rfl ?_
  refine ax_getR (pc := 1) (k := 51) (q := 54) (ax_dd KX10_isFringe 1 rfl) f_X10_16 (hs 51 _ rfl) rfl ?_
  refine ax_iconst (pc := 4) (v := 3) (ax_dd KX10_isFringe 2 rfl) (by decide) ?_
  refine ax_iload_n (pc := 5) (i := 1) (q := 1) (ax_dd KX10_isFringe 3 rfl) rfl rfl ?_
  refine ax_imul (pc := 6) (ax_dd KX10_isFringe 4 rfl) ?_
  obtain ⟨j1, b2, h⟩ := ob_bind h
  refine ax_ild (pc := 7) (k := 54) (N := 18) (j := j1) (ax_dd KX10_isFringe 5 rfl) (hs 54 _ rfl) b2 ?_
  refine ax_istore_n (pc := 8) (i := 3) (lv' := [(3, .int (μ 54 j1)), (0, .ref (G.1 + 51)), (1, .int x1), (2, .int x2)]) (ax_dd KX10_isFringe 6 rfl) rfl (by decide) rfl ?_
  refine ax_aload_n (pc := 9) (i := 0) (q := 1) (ax_dd KX10_isFringe 7 rfl) rfl rfl ?_
  refine ax_getR (pc := 10) (k := 51) (q := 54) (ax_dd KX10_isFringe 8 rfl) f_X10_16 (hs 51 _ rfl) rfl ?_
  refine ax_iconst (pc := 13) (v := 3) (ax_dd KX10_isFringe 9 rfl) (by decide) ?_
  refine ax_iload_n (pc := 14) (i := 1) (q := 2) (ax_dd KX10_isFringe 10 rfl) rfl rfl ?_
  refine ax_imul (pc := 15) (ax_dd KX10_isFringe 11 rfl) ?_
  refine ax_iconst (pc := 16) (v := 1) (ax_dd KX10_isFringe 12 rfl) (by decide) ?_
  refine ax_iadd (pc := 17) (ax_dd KX10_isFringe 13 rfl) ?_
  obtain ⟨j3, b4, h⟩ := ob_bind h
  refine ax_ild (pc := 18) (k := 54) (N := 18) (j := j3) (ax_dd KX10_isFringe 14 rfl) (hs 54 _ rfl) b4 ?_
  refine ax_istore (pc := 19) (lv' := [(4, .int (μ 54 j3)), (3, .int (μ 54 j1)), (0, .ref (G.1 + 51)), (1, .int x1), (2, .int x2)]) (ax_dd KX10_isFringe 15 rfl) (by decide) rfl ?_
  refine ax_iload_n (pc := 21) (i := 2) (q := 4) (ax_dd KX10_isFringe 16 rfl) rfl rfl ?_
  refine ax_bipush (pc := 22) (v := 6) (ax_dd KX10_isFringe 17 rfl) (by decide) ?_
  refine ax_irem (pc := 24) (ax_dd KX10_isFringe 18 rfl) (by decide) ?_
  refine ax_iload_n (pc := 25) (i := 3) (q := 1) (ax_dd KX10_isFringe 19 rfl) rfl rfl ?_
  refine ax_bipush (pc := 26) (v := 6) (ax_dd KX10_isFringe 20 rfl) (by decide) ?_
  refine ax_irem (pc := 28) (ax_dd KX10_isFringe 21 rfl) (by decide) ?_
  by_cases c5 : (rmI x2 6) = (rmI (μ 54 j1) 6)
  · rw [if_pos c5] at h
    refine ax_icmp_eq_t (pc := 29) (tgt := 44) (ax_dd KX10_isFringe 22 rfl) (by decide) c5 ?_
    refine ax_iconst (pc := 44) (v := 1) (ax_dd KX10_isFringe 30 rfl) (by decide) ?_
    refine ax_goto (pc := 45) (tgt := 49) (ax_dd KX10_isFringe 31 rfl) (by decide) ?_
    refine ax_sub (lv' := [(2, .int x2), (3, .int (μ 54 j1)), (4, .int (μ 54 j3))]) [4, 1, 0] rfl ?_
    exact a_X10_isFringe_49 hs h
  · rw [if_neg c5] at h
    refine ax_icmp_eq_f (pc := 29) (tgt := 44) (ax_dd KX10_isFringe 22 rfl) (by decide) c5 ?_
    refine ax_iload_n (pc := 32) (i := 2) (q := 4) (ax_dd KX10_isFringe 23 rfl) rfl rfl ?_
    refine ax_bipush (pc := 33) (v := 6) (ax_dd KX10_isFringe 24 rfl) (by decide) ?_
    refine ax_irem (pc := 35) (ax_dd KX10_isFringe 25 rfl) (by decide) ?_
    refine ax_iload (pc := 36) (q := 0) (ax_dd KX10_isFringe 26 rfl) rfl ?_
    refine ax_bipush (pc := 38) (v := 6) (ax_dd KX10_isFringe 27 rfl) (by decide) ?_
    refine ax_irem (pc := 40) (ax_dd KX10_isFringe 28 rfl) (by decide) ?_
    by_cases c6 : (rmI x2 6) = (rmI (μ 54 j3) 6)
    · rw [if_pos c6] at h
      refine ax_icmp_ne_f (pc := 41) (tgt := 48) (ax_dd KX10_isFringe 29 rfl) (by decide) (fun z => z c6) ?_
      refine ax_iconst (pc := 44) (v := 1) (ax_dd KX10_isFringe 30 rfl) (by decide) ?_
      refine ax_goto (pc := 45) (tgt := 49) (ax_dd KX10_isFringe 31 rfl) (by decide) ?_
      refine ax_sub (lv' := [(2, .int x2), (3, .int (μ 54 j1)), (4, .int (μ 54 j3))]) [4, 1, 0] rfl ?_
      exact a_X10_isFringe_49 hs h
    · rw [if_neg c6] at h
      refine ax_icmp_ne_t (pc := 41) (tgt := 48) (ax_dd KX10_isFringe 29 rfl) (by decide) c6 ?_
      refine ax_iconst (pc := 48) (v := 0) (ax_dd KX10_isFringe 32 rfl) (by decide) ?_
      refine ax_sub (lv' := [(2, .int x2), (3, .int (μ 54 j1)), (4, .int (μ 54 j3))]) [4, 1, 0] rfl ?_
      exact a_X10_isFringe_49 hs h
def m_X10_sizeOf (x1 : Int32) (μ : ax_M) : Option (Int32) :=
  (ix 18 ((3 : Int32) * x1)).bind fun j1 =>
  (ix 18 (((3 : Int32) * x1) + 1)).bind fun j3 =>
  some ((((rmI (μ 54 j3) 6) - (rmI (μ 54 j1) 6)) + 1) * ((((μ 54 j3) / 6) - ((μ 54 j1) / 6)) + 1))
set_option maxRecDepth 100000 in
set_option maxHeartbeats 8000000 in
theorem c_X10_sizeOf {G : ax_G} {l : Launch} {sh : List ax_E} {x1 : Int32} {μ : ax_M} (hs : ∀ (k : Nat) (e : ax_E), SHF[k]? = some e → sh[k]? = some e) {v : Int32} (h : m_X10_sizeOf x1 μ = some v) : ax_A G l yX10_sizeOf cX10_sizeOf 4 (some .int) 2 [.ref (G.1 + 51), .int x1] sh μ (some (.int v), sh, μ) := by
  refine ax_A.of false (by decide +kernel) (fun h9 => by cases h9) (Nat.le_of_ble_eq_true rfl) (?_ : ax_X G l RX10 cX10_sizeOf 4 (some .int) false 2 (some (.int v), sh, μ) 0 [(0, .ref (G.1 + 51)), (1, .int x1)] [] sh μ)
  unfold m_X10_sizeOf at h
  refine ax_aload_n (pc := 0) (i := 0) (q := 0) (ax_dd KX10_sizeOf 0 rfl) rfl rfl ?_
  refine ax_getR (pc := 1) (k := 51) (q := 54) (ax_dd KX10_sizeOf 1 rfl) f_X10_16 (hs 51 _ rfl) rfl ?_
  refine ax_iconst (pc := 4) (v := 3) (ax_dd KX10_sizeOf 2 rfl) (by decide) ?_
  refine ax_iload_n (pc := 5) (i := 1) (q := 1) (ax_dd KX10_sizeOf 3 rfl) rfl rfl ?_
  refine ax_imul (pc := 6) (ax_dd KX10_sizeOf 4 rfl) ?_
  obtain ⟨j1, b2, h⟩ := ob_bind h
  refine ax_ild (pc := 7) (k := 54) (N := 18) (j := j1) (ax_dd KX10_sizeOf 5 rfl) (hs 54 _ rfl) b2 ?_
  refine ax_istore_n (pc := 8) (i := 2) (lv' := [(2, .int (μ 54 j1)), (0, .ref (G.1 + 51)), (1, .int x1)]) (ax_dd KX10_sizeOf 6 rfl) rfl (by decide) rfl ?_
  refine ax_aload_n (pc := 9) (i := 0) (q := 1) (ax_dd KX10_sizeOf 7 rfl) rfl rfl ?_
  refine ax_getR (pc := 10) (k := 51) (q := 54) (ax_dd KX10_sizeOf 8 rfl) f_X10_16 (hs 51 _ rfl) rfl ?_
  refine ax_iconst (pc := 13) (v := 3) (ax_dd KX10_sizeOf 9 rfl) (by decide) ?_
  refine ax_iload_n (pc := 14) (i := 1) (q := 2) (ax_dd KX10_sizeOf 10 rfl) rfl rfl ?_
  refine ax_imul (pc := 15) (ax_dd KX10_sizeOf 11 rfl) ?_
  refine ax_iconst (pc := 16) (v := 1) (ax_dd KX10_sizeOf 12 rfl) (by decide) ?_
  refine ax_iadd (pc := 17) (ax_dd KX10_sizeOf 13 rfl) ?_
  obtain ⟨j3, b4, h⟩ := ob_bind h
  refine ax_ild (pc := 18) (k := 54) (N := 18) (j := j3) (ax_dd KX10_sizeOf 14 rfl) (hs 54 _ rfl) b4 ?_
  refine ax_istore_n (pc := 19) (i := 3) (lv' := [(3, .int (μ 54 j3)), (2, .int (μ 54 j1)), (0, .ref (G.1 + 51)), (1, .int x1)]) (ax_dd KX10_sizeOf 15 rfl) rfl (by decide) rfl ?_
  refine ax_iload_n (pc := 20) (i := 3) (q := 0) (ax_dd KX10_sizeOf 16 rfl) rfl rfl ?_
  refine ax_bipush (pc := 21) (v := 6) (ax_dd KX10_sizeOf 17 rfl) (by decide) ?_
  refine ax_irem (pc := 23) (ax_dd KX10_sizeOf 18 rfl) (by decide) ?_
  refine ax_iload_n (pc := 24) (i := 2) (q := 1) (ax_dd KX10_sizeOf 19 rfl) rfl rfl ?_
  refine ax_bipush (pc := 25) (v := 6) (ax_dd KX10_sizeOf 20 rfl) (by decide) ?_
  refine ax_irem (pc := 27) (ax_dd KX10_sizeOf 21 rfl) (by decide) ?_
  refine ax_isub (pc := 28) (ax_dd KX10_sizeOf 22 rfl) ?_
  refine ax_iconst (pc := 29) (v := 1) (ax_dd KX10_sizeOf 23 rfl) (by decide) ?_
  refine ax_iadd (pc := 30) (ax_dd KX10_sizeOf 24 rfl) ?_
  refine ax_iload_n (pc := 31) (i := 3) (q := 0) (ax_dd KX10_sizeOf 25 rfl) rfl rfl ?_
  refine ax_bipush (pc := 32) (v := 6) (ax_dd KX10_sizeOf 26 rfl) (by decide) ?_
  refine ax_idiv (pc := 34) (ax_dd KX10_sizeOf 27 rfl) (by decide) ?_
  refine ax_iload_n (pc := 35) (i := 2) (q := 1) (ax_dd KX10_sizeOf 28 rfl) rfl rfl ?_
  refine ax_bipush (pc := 36) (v := 6) (ax_dd KX10_sizeOf 29 rfl) (by decide) ?_
  refine ax_idiv (pc := 38) (ax_dd KX10_sizeOf 30 rfl) (by decide) ?_
  refine ax_isub (pc := 39) (ax_dd KX10_sizeOf 31 rfl) ?_
  refine ax_iconst (pc := 40) (v := 1) (ax_dd KX10_sizeOf 32 rfl) (by decide) ?_
  refine ax_iadd (pc := 41) (ax_dd KX10_sizeOf 33 rfl) ?_
  refine ax_imul (pc := 42) (ax_dd KX10_sizeOf 34 rfl) ?_
  obtain rfl := Option.some.inj h
  exact ax_ireti (pc := 43) (ax_dd KX10_sizeOf 35 rfl) ⟨_, rfl, rfl⟩ rfl
def m_X10_count (x1 : Int32) (μ : ax_M) : Option (Int32) :=
  if x1 = 0 then
    some (μ 51 0)
  else
    if x1 = 1 then
      some (μ 51 4)
    else
      if x1 = 2 then
        some (μ 51 9)
      else
        if x1 = 3 then
          some (μ 51 10)
        else
          if x1 = 4 then
            some (μ 51 6)
          else
            some (-2)
set_option maxRecDepth 100000 in
set_option maxHeartbeats 8000000 in
theorem c_X10_count {G : ax_G} {l : Launch} {sh : List ax_E} {x1 : Int32} {μ : ax_M} (hs : ∀ (k : Nat) (e : ax_E), SHF[k]? = some e → sh[k]? = some e) {v : Int32} (h : m_X10_count x1 μ = some v) : ax_A G l yX10_count cX10_count 2 (some .int) 2 [.ref (G.1 + 51), .int x1] sh μ (some (.int v), sh, μ) := by
  refine ax_A.of false (by decide +kernel) (fun h9 => by cases h9) (Nat.le_of_ble_eq_true rfl) (?_ : ax_X G l RX10 cX10_count 2 (some .int) false 2 (some (.int v), sh, μ) 0 [(0, .ref (G.1 + 51)), (1, .int x1)] [] sh μ)
  unfold m_X10_count at h
  refine ax_iload_n (pc := 0) (i := 1) (q := 1) (ax_dd KX10_count 0 rfl) rfl rfl ?_
  by_cases c1 : x1 = 0
  · rw [if_pos c1] at h
    refine ax_tab (pc := 1) (off := 35) (tgt := 36) (ax_dd KX10_count 1 rfl) (by rw [c1]; decide) (by rw [c1]; decide) (by rw [c1]; rfl) (by decide) ?_
    refine ax_aload_n (pc := 36) (i := 0) (q := 0) (ax_dd KX10_count 2 rfl) rfl rfl ?_
    refine ax_getI (pc := 37) (k := 51) (ax_dd KX10_count 3 rfl) f_X10_78 (hs 51 _ rfl) rfl ?_
    obtain rfl := Option.some.inj h
    exact ax_ireti (pc := 40) (ax_dd KX10_count 4 rfl) ⟨_, rfl, rfl⟩ rfl
  · rw [if_neg c1] at h
    by_cases c2 : x1 = 1
    · rw [if_pos c2] at h
      refine ax_tab (pc := 1) (off := 40) (tgt := 41) (ax_dd KX10_count 1 rfl) (by rw [c2]; decide) (by rw [c2]; decide) (by rw [c2]; rfl) (by decide) ?_
      refine ax_aload_n (pc := 41) (i := 0) (q := 0) (ax_dd KX10_count 5 rfl) rfl rfl ?_
      refine ax_getI (pc := 42) (k := 51) (ax_dd KX10_count 6 rfl) f_X10_19 (hs 51 _ rfl) rfl ?_
      obtain rfl := Option.some.inj h
      exact ax_ireti (pc := 45) (ax_dd KX10_count 7 rfl) ⟨_, rfl, rfl⟩ rfl
    · rw [if_neg c2] at h
      by_cases c3 : x1 = 2
      · rw [if_pos c3] at h
        refine ax_tab (pc := 1) (off := 45) (tgt := 46) (ax_dd KX10_count 1 rfl) (by rw [c3]; decide) (by rw [c3]; decide) (by rw [c3]; rfl) (by decide) ?_
        refine ax_aload_n (pc := 46) (i := 0) (q := 0) (ax_dd KX10_count 8 rfl) rfl rfl ?_
        refine ax_getI (pc := 47) (k := 51) (ax_dd KX10_count 9 rfl) f_X10_89 (hs 51 _ rfl) rfl ?_
        obtain rfl := Option.some.inj h
        exact ax_ireti (pc := 50) (ax_dd KX10_count 10 rfl) ⟨_, rfl, rfl⟩ rfl
      · rw [if_neg c3] at h
        by_cases c4 : x1 = 3
        · rw [if_pos c4] at h
          refine ax_tab (pc := 1) (off := 50) (tgt := 51) (ax_dd KX10_count 1 rfl) (by rw [c4]; decide) (by rw [c4]; decide) (by rw [c4]; rfl) (by decide) ?_
          refine ax_aload_n (pc := 51) (i := 0) (q := 0) (ax_dd KX10_count 11 rfl) rfl rfl ?_
          refine ax_getI (pc := 52) (k := 51) (ax_dd KX10_count 12 rfl) f_X10_92 (hs 51 _ rfl) rfl ?_
          obtain rfl := Option.some.inj h
          exact ax_ireti (pc := 55) (ax_dd KX10_count 13 rfl) ⟨_, rfl, rfl⟩ rfl
        · rw [if_neg c4] at h
          by_cases c5 : x1 = 4
          · rw [if_pos c5] at h
            refine ax_tab (pc := 1) (off := 55) (tgt := 56) (ax_dd KX10_count 1 rfl) (by rw [c5]; decide) (by rw [c5]; decide) (by rw [c5]; rfl) (by decide) ?_
            refine ax_aload_n (pc := 56) (i := 0) (q := 0) (ax_dd KX10_count 14 rfl) rfl rfl ?_
            refine ax_getI (pc := 57) (k := 51) (ax_dd KX10_count 15 rfl) f_X10_71 (hs 51 _ rfl) rfl ?_
            obtain rfl := Option.some.inj h
            exact ax_ireti (pc := 60) (ax_dd KX10_count 16 rfl) ⟨_, rfl, rfl⟩ rfl
          · rw [if_neg c5] at h
            refine ax_tabD (pc := 1) (tgt := 61) (ax_dd KX10_count 1 rfl) (by have e0 := ax_ne c1 (a := 0) rfl; have e1 := ax_ne c2 (a := 1) rfl; have e2 := ax_ne c3 (a := 2) rfl; have e3 := ax_ne c4 (a := 3) rfl; have e4 := ax_ne c5 (a := 4) rfl; omega) (by decide) ?_
            refine ax_bipush (pc := 61) (v := (-2)) (ax_dd KX10_count 17 rfl) (by decide) ?_
            obtain rfl := Option.some.inj h
            exact ax_ireti (pc := 63) (ax_dd KX10_count 18 rfl) ⟨_, rfl, rfl⟩ rfl
def m_X10_strikes (x1 : Int32) (μ : ax_M) : Option (Int32 × ax_M) :=
  (m_X10_in x1 0 23 μ).bind fun v1 =>
  if v1 = 0 then
    some ((-2), μ)
  else
    some ((μ 51 4), ax_w μ 51 4 x1)
set_option maxRecDepth 100000 in
set_option maxHeartbeats 8000000 in
theorem c_X10_strikes {G : ax_G} {l : Launch} {sh : List ax_E} {x1 : Int32} {μ : ax_M} (hs : ∀ (k : Nat) (e : ax_E), SHF[k]? = some e → sh[k]? = some e) {v : Int32 × ax_M} (h : m_X10_strikes x1 μ = some v) : ax_A G l yX10_strikes cX10_strikes 3 (some .int) 3 [.ref (G.1 + 51), .int x1] sh μ (some (.int v.1), sh, v.2) := by
  refine ax_A.of false (by decide +kernel) (fun h9 => by cases h9) (Nat.le_of_ble_eq_true rfl) (?_ : ax_X G l RX10 cX10_strikes 3 (some .int) false 3 (some (.int v.1), sh, v.2) 0 [(0, .ref (G.1 + 51)), (1, .int x1)] [] sh μ)
  unfold m_X10_strikes at h
  refine ax_iload_n (pc := 0) (i := 1) (q := 1) (ax_dd KX10_strikes 0 rfl) rfl rfl ?_
  refine ax_iconst (pc := 1) (v := 0) (ax_dd KX10_strikes 1 rfl) (by decide) ?_
  refine ax_bipush (pc := 2) (v := 23) (ax_dd KX10_strikes 2 rfl) (by decide) ?_
  obtain ⟨v1, b2, h⟩ := ob_bind h
  refine ax_kS (pc := 4) (As := [.int x1, .int 0, .int 23]) (rest := []) (st1 := [.int v1]) (μ1 := μ) (ax_dd KX10_strikes 3 rfl) (c_X10_in hs b2) kS_X10_81 e_X10_in rfl rfl (by decide) (by decide) (Nat.le_of_ble_eq_true rfl) rfl ?_
  by_cases c3 : v1 = 0
  · rw [if_pos c3] at h
    refine ax_if_ne_f (pc := 7) (tgt := 13) (ax_dd KX10_strikes 4 rfl) (by decide) (fun z => z c3) ?_
    refine ax_bipush (pc := 10) (v := (-2)) (ax_dd KX10_strikes 5 rfl) (by decide) ?_
    obtain rfl := Option.some.inj h
    exact ax_ireti (pc := 12) (ax_dd KX10_strikes 6 rfl) ⟨_, rfl, rfl⟩ rfl
  · rw [if_neg c3] at h
    refine ax_if_ne_t (pc := 7) (tgt := 13) (ax_dd KX10_strikes 4 rfl) (by decide) c3 ?_
    refine ax_aload_n (pc := 13) (i := 0) (q := 0) (ax_dd KX10_strikes 7 rfl) rfl rfl ?_
    refine ax_getI (pc := 14) (k := 51) (ax_dd KX10_strikes 8 rfl) f_X10_19 (hs 51 _ rfl) rfl ?_
    refine ax_istore_n (pc := 17) (i := 2) (lv' := [(2, .int (μ 51 4)), (0, .ref (G.1 + 51)), (1, .int x1)]) (ax_dd KX10_strikes 9 rfl) rfl (by decide) rfl ?_
    refine ax_aload_n (pc := 18) (i := 0) (q := 1) (ax_dd KX10_strikes 10 rfl) rfl rfl ?_
    refine ax_iload_n (pc := 19) (i := 1) (q := 2) (ax_dd KX10_strikes 11 rfl) rfl rfl ?_
    refine ax_putI (pc := 20) (k := 51) (ax_dd KX10_strikes 12 rfl) f_X10_19 ft_X10 (hs 51 _ rfl) rfl (fun _ h9 => by cases h9; rfl) rfl rfl ?_
    refine ax_iload_n (pc := 23) (i := 2) (q := 0) (ax_dd KX10_strikes 13 rfl) rfl rfl ?_
    obtain rfl := Option.some.inj h
    exact ax_ireti (pc := 24) (ax_dd KX10_strikes 14 rfl) ⟨_, rfl, rfl⟩ rfl
def m_X10_isByte (x0 : Int32) (μ : ax_M) : Option (Int32) :=
  (m_X10_in x0 0 255 μ).bind fun v1 =>
  if v1 = 0 ∨ v1 = 1 then
    some v1
  else
    none
set_option maxRecDepth 100000 in
set_option maxHeartbeats 8000000 in
theorem c_X10_isByte {G : ax_G} {l : Launch} {sh : List ax_E} {x0 : Int32} {μ : ax_M} (hs : ∀ (k : Nat) (e : ax_E), SHF[k]? = some e → sh[k]? = some e) {v : Int32} (h : m_X10_isByte x0 μ = some v) : ax_A G l yX10_isByte cX10_isByte 1 (some .boolean) 3 [.int x0] sh μ (some (.int v), sh, μ) := by
  refine ax_A.of false (by decide +kernel) (fun h9 => by cases h9) (Nat.le_of_ble_eq_true rfl) (?_ : ax_X G l RX10 cX10_isByte 1 (some .boolean) false 3 (some (.int v), sh, μ) 0 [(0, .int x0)] [] sh μ)
  unfold m_X10_isByte at h
  refine ax_iload_n (pc := 0) (i := 0) (q := 0) (ax_dd KX10_isByte 0 rfl) rfl rfl ?_
  refine ax_iconst (pc := 1) (v := 0) (ax_dd KX10_isByte 1 rfl) (by decide) ?_
  refine ax_sipush (pc := 2) (v := 255) (ax_dd KX10_isByte 2 rfl) (by decide) ?_
  obtain ⟨v1, b2, h⟩ := ob_bind h
  refine ax_kS (pc := 5) (As := [.int x0, .int 0, .int 255]) (rest := []) (st1 := [.int v1]) (μ1 := μ) (ax_dd KX10_isByte 3 rfl) (c_X10_in hs b2) kS_X10_81 e_X10_in rfl rfl (by decide) (by decide) (Nat.le_of_ble_eq_true rfl) rfl ?_
  by_cases c3 : v1 = 0 ∨ v1 = 1
  · rw [if_pos c3] at h
    obtain rfl := Option.some.inj h
    exact ax_ireti (pc := 8) (ax_dd KX10_isByte 4 rfl) ⟨_, rfl, ax_nb c3⟩ rfl
  · rw [if_neg c3] at h
    cases h
def m_X10_feed_125 (x1 : Int32) (x2 : Int32) (x3 : Int32) (x4 : Int32) (x5 : Int32) (x6 : Int32) (x7 : Int32) (s1 : Int32) (s2 : Int32) (k68 : Int32 → ax_M → Option (Int32 × ax_M)) (μ : ax_M) : Option (Int32 × ax_M) :=
  (ix 160 s1).bind fun j1 =>
  k68 (x7 + 1) (ax_w (ax_w μ 55 j1 s2) 51 6 (((ax_w μ 55 j1 s2) 51 6) + 1))
set_option maxRecDepth 100000 in
set_option maxHeartbeats 8000000 in
theorem a_X10_feed_125 {G : ax_G} {l : Launch} {sh : List ax_E} {x1 : Int32} {x2 : Int32} {x3 : Int32} {x4 : Int32} {x5 : Int32} {x6 : Int32} {x7 : Int32} {s1 : Int32} {s2 : Int32} {k68 : Int32 → ax_M → Option (Int32 × ax_M)} {μ : ax_M} (hs : ∀ (k : Nat) (e : ax_E), SHF[k]? = some e → sh[k]? = some e) (hk68 : ∀ (x7 : Int32) (μ : ax_M) (v : Int32 × ax_M), k68 x7 μ = some v → ax_X G l RX10 cX10_feed 8 (some .int) false 4 (some (.int v.1), sh, v.2) 68 [(0, .ref (G.1 + 51)), (1, .int x1), (2, .int x2), (3, .int x3), (4, .int x4), (5, .int x5), (6, .int x6), (7, .int x7)] [] sh μ) {v : Int32 × ax_M} (h : m_X10_feed_125 x1 x2 x3 x4 x5 x6 x7 s1 s2 k68 μ = some v) : ax_X G l RX10 cX10_feed 8 (some .int) false 4 (some (.int v.1), sh, v.2) 125 [(0, .ref (G.1 + 51)), (1, .int x1), (2, .int x2), (3, .int x3), (4, .int x4), (5, .int x5), (6, .int x6), (7, .int x7)] [.int s2, .int s1, .ref (G.1 + 55)] sh μ := by
  unfold m_X10_feed_125 at h
  obtain ⟨j1, b2, h⟩ := ob_bind h
  refine ax_ist (pc := 125) (k := 55) (N := 160) (j := j1) (ax_dd KX10_feed 59 rfl) (hs 55 _ rfl) b2 ?_
  refine ax_aload_n (pc := 126) (i := 0) (q := 0) (ax_dd KX10_feed 60 rfl) rfl rfl ?_
  refine ax_dup (pc := 127) (ax_dd KX10_feed 61 rfl) rfl ?_
  refine ax_getI (pc := 128) (k := 51) (ax_dd KX10_feed 62 rfl) f_X10_71 (hs 51 _ rfl) rfl ?_
  refine ax_iconst (pc := 131) (v := 1) (ax_dd KX10_feed 63 rfl) (by decide) ?_
  refine ax_iadd (pc := 132) (ax_dd KX10_feed 64 rfl) ?_
  refine ax_putI (pc := 133) (k := 51) (ax_dd KX10_feed 65 rfl) f_X10_71 ft_X10 (hs 51 _ rfl) rfl (fun _ h9 => by cases h9; rfl) rfl rfl ?_
  refine ax_iinc (pc := 136) (q := 7) (v := (x7 + 1)) (lv' := [(7, .int (x7 + 1)), (0, .ref (G.1 + 51)), (1, .int x1), (2, .int x2), (3, .int x3), (4, .int x4), (5, .int x5), (6, .int x6)]) (ax_dd KX10_feed 66 rfl) rfl rfl (by decide) rfl ?_
  refine ax_goto (pc := 139) (tgt := 68) (ax_dd KX10_feed 67 rfl) (by decide) ?_
  refine ax_sub (lv' := [(0, .ref (G.1 + 51)), (1, .int x1), (2, .int x2), (3, .int x3), (4, .int x4), (5, .int x5), (6, .int x6), (7, .int (x7 + 1))]) [1, 2, 3, 4, 5, 6, 7, 0] rfl ?_
  exact hk68 _ _ _ h
def m_X10_feed_68 (x1 : Int32) (x2 : Int32) (x3 : Int32) (x4 : Int32) (x5 : Int32) (x6 : Int32) : Nat → Int32 → ax_M → Option (Int32 × ax_M)
  | 0, _, _ => none
  | n + 1, x7, μ =>
    if x1 ≤ x7 then
      some ((μ 51 6), μ)
    else
      if x7 = 0 then
        m_X10_feed_125 x1 x2 x3 x4 x5 x6 x7 (μ 51 6) x2 (m_X10_feed_68 x1 x2 x3 x4 x5 x6 n) μ
      else
        if x7 = 1 then
          m_X10_feed_125 x1 x2 x3 x4 x5 x6 x7 (μ 51 6) x3 (m_X10_feed_68 x1 x2 x3 x4 x5 x6 n) μ
        else
          if x7 = 2 then
            m_X10_feed_125 x1 x2 x3 x4 x5 x6 x7 (μ 51 6) x4 (m_X10_feed_68 x1 x2 x3 x4 x5 x6 n) μ
          else
            if x7 = 3 then
              m_X10_feed_125 x1 x2 x3 x4 x5 x6 x7 (μ 51 6) x5 (m_X10_feed_68 x1 x2 x3 x4 x5 x6 n) μ
            else
              m_X10_feed_125 x1 x2 x3 x4 x5 x6 x7 (μ 51 6) x6 (m_X10_feed_68 x1 x2 x3 x4 x5 x6 n) μ
set_option maxRecDepth 100000 in
set_option maxHeartbeats 8000000 in
theorem a_X10_feed_68 {G : ax_G} {l : Launch} {sh : List ax_E} {x1 : Int32} {x2 : Int32} {x3 : Int32} {x4 : Int32} {x5 : Int32} {x6 : Int32} (hs : ∀ (k : Nat) (e : ax_E), SHF[k]? = some e → sh[k]? = some e) : ∀ (n : Nat) (x7 : Int32) (μ : ax_M) (v : Int32 × ax_M), m_X10_feed_68 x1 x2 x3 x4 x5 x6 n x7 μ = some v → ax_X G l RX10 cX10_feed 8 (some .int) false 4 (some (.int v.1), sh, v.2) 68 [(0, .ref (G.1 + 51)), (1, .int x1), (2, .int x2), (3, .int x3), (4, .int x4), (5, .int x5), (6, .int x6), (7, .int x7)] [] sh μ := by
  intro n
  induction n with
  | zero =>
    intro x7 μ v h
    rw [m_X10_feed_68] at h
    cases h
  | succ n ih =>
    intro x7 μ v h
    rw [m_X10_feed_68] at h
    refine ax_iload (pc := 68) (q := 7) (ax_dd KX10_feed 32 rfl) rfl ?_
    refine ax_iload_n (pc := 70) (i := 1) (q := 1) (ax_dd KX10_feed 33 rfl) rfl rfl ?_
    by_cases c1 : x1 ≤ x7
    · rw [if_pos c1] at h
      refine ax_icmp_ge_t (pc := 71) (tgt := 142) (ax_dd KX10_feed 34 rfl) (by decide) c1 ?_
      refine ax_aload_n (pc := 142) (i := 0) (q := 0) (ax_dd KX10_feed 68 rfl) rfl rfl ?_
      refine ax_getI (pc := 143) (k := 51) (ax_dd KX10_feed 69 rfl) f_X10_71 (hs 51 _ rfl) rfl ?_
      obtain rfl := Option.some.inj h
      exact ax_ireti (pc := 146) (ax_dd KX10_feed 70 rfl) ⟨_, rfl, rfl⟩ rfl
    · rw [if_neg c1] at h
      refine ax_icmp_ge_f (pc := 71) (tgt := 142) (ax_dd KX10_feed 34 rfl) (by decide) c1 ?_
      refine ax_aload_n (pc := 74) (i := 0) (q := 0) (ax_dd KX10_feed 35 rfl) rfl rfl ?_
      refine ax_getR (pc := 75) (k := 51) (q := 55) (ax_dd KX10_feed 36 rfl) f_X10_23 (hs 51 _ rfl) rfl ?_
      refine ax_aload_n (pc := 78) (i := 0) (q := 0) (ax_dd KX10_feed 37 rfl) rfl rfl ?_
      refine ax_getI (pc := 79) (k := 51) (ax_dd KX10_feed 38 rfl) f_X10_71 (hs 51 _ rfl) rfl ?_
      refine ax_iload (pc := 82) (q := 7) (ax_dd KX10_feed 39 rfl) rfl ?_
      by_cases c2 : x7 = 0
      · rw [if_pos c2] at h
        refine ax_if_ne_f (pc := 84) (tgt := 91) (ax_dd KX10_feed 40 rfl) (by decide) (fun z => z c2) ?_
        refine ax_iload_n (pc := 87) (i := 2) (q := 2) (ax_dd KX10_feed 41 rfl) rfl rfl ?_
        refine ax_goto (pc := 88) (tgt := 125) (ax_dd KX10_feed 42 rfl) (by decide) ?_
        exact a_X10_feed_125 hs ih h
      · rw [if_neg c2] at h
        refine ax_if_ne_t (pc := 84) (tgt := 91) (ax_dd KX10_feed 40 rfl) (by decide) c2 ?_
        refine ax_iload (pc := 91) (q := 7) (ax_dd KX10_feed 43 rfl) rfl ?_
        refine ax_iconst (pc := 93) (v := 1) (ax_dd KX10_feed 44 rfl) (by decide) ?_
        by_cases c3 : x7 = 1
        · rw [if_pos c3] at h
          refine ax_icmp_ne_f (pc := 94) (tgt := 101) (ax_dd KX10_feed 45 rfl) (by decide) (fun z => z c3) ?_
          refine ax_iload_n (pc := 97) (i := 3) (q := 3) (ax_dd KX10_feed 46 rfl) rfl rfl ?_
          refine ax_goto (pc := 98) (tgt := 125) (ax_dd KX10_feed 47 rfl) (by decide) ?_
          exact a_X10_feed_125 hs ih h
        · rw [if_neg c3] at h
          refine ax_icmp_ne_t (pc := 94) (tgt := 101) (ax_dd KX10_feed 45 rfl) (by decide) c3 ?_
          refine ax_iload (pc := 101) (q := 7) (ax_dd KX10_feed 48 rfl) rfl ?_
          refine ax_iconst (pc := 103) (v := 2) (ax_dd KX10_feed 49 rfl) (by decide) ?_
          by_cases c4 : x7 = 2
          · rw [if_pos c4] at h
            refine ax_icmp_ne_f (pc := 104) (tgt := 112) (ax_dd KX10_feed 50 rfl) (by decide) (fun z => z c4) ?_
            refine ax_iload (pc := 107) (q := 4) (ax_dd KX10_feed 51 rfl) rfl ?_
            refine ax_goto (pc := 109) (tgt := 125) (ax_dd KX10_feed 52 rfl) (by decide) ?_
            exact a_X10_feed_125 hs ih h
          · rw [if_neg c4] at h
            refine ax_icmp_ne_t (pc := 104) (tgt := 112) (ax_dd KX10_feed 50 rfl) (by decide) c4 ?_
            refine ax_iload (pc := 112) (q := 7) (ax_dd KX10_feed 53 rfl) rfl ?_
            refine ax_iconst (pc := 114) (v := 3) (ax_dd KX10_feed 54 rfl) (by decide) ?_
            by_cases c5 : x7 = 3
            · rw [if_pos c5] at h
              refine ax_icmp_ne_f (pc := 115) (tgt := 123) (ax_dd KX10_feed 55 rfl) (by decide) (fun z => z c5) ?_
              refine ax_iload (pc := 118) (q := 5) (ax_dd KX10_feed 56 rfl) rfl ?_
              refine ax_goto (pc := 120) (tgt := 125) (ax_dd KX10_feed 57 rfl) (by decide) ?_
              exact a_X10_feed_125 hs ih h
            · rw [if_neg c5] at h
              refine ax_icmp_ne_t (pc := 115) (tgt := 123) (ax_dd KX10_feed 55 rfl) (by decide) c5 ?_
              refine ax_iload (pc := 123) (q := 6) (ax_dd KX10_feed 58 rfl) rfl ?_
              exact a_X10_feed_125 hs ih h
def m_X10_feed (x1 : Int32) (x2 : Int32) (x3 : Int32) (x4 : Int32) (x5 : Int32) (x6 : Int32) (μ : ax_M) : Option (Int32 × ax_M) :=
  (m_X10_in x1 1 5 μ).bind fun v1 =>
  if v1 = 0 then
    some ((-2), μ)
  else
    (m_X10_isByte x2 μ).bind fun v4 =>
    if v4 = 0 then
      some ((-2), μ)
    else
      (m_X10_isByte x3 μ).bind fun v7 =>
      if v7 = 0 then
        some ((-2), μ)
      else
        (m_X10_isByte x4 μ).bind fun v10 =>
        if v10 = 0 then
          some ((-2), μ)
        else
          (m_X10_isByte x5 μ).bind fun v13 =>
          if v13 = 0 then
            some ((-2), μ)
          else
            (m_X10_isByte x6 μ).bind fun v16 =>
            if v16 = 0 then
              some ((-2), μ)
            else
              if ((μ 51 6) + x1) ≤ 160 then
                m_X10_feed_68 x1 x2 x3 x4 x5 x6 fu 0 μ
              else
                some ((-4), μ)
set_option maxRecDepth 100000 in
set_option maxHeartbeats 8000000 in
theorem c_X10_feed {G : ax_G} {l : Launch} {sh : List ax_E} {x1 : Int32} {x2 : Int32} {x3 : Int32} {x4 : Int32} {x5 : Int32} {x6 : Int32} {μ : ax_M} (hs : ∀ (k : Nat) (e : ax_E), SHF[k]? = some e → sh[k]? = some e) {v : Int32 × ax_M} (h : m_X10_feed x1 x2 x3 x4 x5 x6 μ = some v) : ax_A G l yX10_feed cX10_feed 8 (some .int) 4 [.ref (G.1 + 51), .int x1, .int x2, .int x3, .int x4, .int x5, .int x6] sh μ (some (.int v.1), sh, v.2) := by
  refine ax_A.of false (by decide +kernel) (fun h9 => by cases h9) (Nat.le_of_ble_eq_true rfl) (?_ : ax_X G l RX10 cX10_feed 8 (some .int) false 4 (some (.int v.1), sh, v.2) 0 [(0, .ref (G.1 + 51)), (1, .int x1), (2, .int x2), (3, .int x3), (4, .int x4), (5, .int x5), (6, .int x6)] [] sh μ)
  unfold m_X10_feed at h
  refine ax_iload_n (pc := 0) (i := 1) (q := 1) (ax_dd KX10_feed 0 rfl) rfl rfl ?_
  refine ax_iconst (pc := 1) (v := 1) (ax_dd KX10_feed 1 rfl) (by decide) ?_
  refine ax_iconst (pc := 2) (v := 5) (ax_dd KX10_feed 2 rfl) (by decide) ?_
  obtain ⟨v1, b2, h⟩ := ob_bind h
  refine ax_kS (pc := 3) (As := [.int x1, .int 1, .int 5]) (rest := []) (st1 := [.int v1]) (μ1 := μ) (ax_dd KX10_feed 3 rfl) (c_X10_in hs b2) kS_X10_81 e_X10_in rfl rfl (by decide) (by decide) (Nat.le_of_ble_eq_true rfl) rfl ?_
  by_cases c3 : v1 = 0
  · rw [if_pos c3] at h
    refine ax_if_eq_t (pc := 6) (tgt := 47) (ax_dd KX10_feed 4 rfl) (by decide) c3 ?_
    refine ax_bipush (pc := 47) (v := (-2)) (ax_dd KX10_feed 20 rfl) (by decide) ?_
    obtain rfl := Option.some.inj h
    exact ax_ireti (pc := 49) (ax_dd KX10_feed 21 rfl) ⟨_, rfl, rfl⟩ rfl
  · rw [if_neg c3] at h
    refine ax_if_eq_f (pc := 6) (tgt := 47) (ax_dd KX10_feed 4 rfl) (by decide) c3 ?_
    refine ax_iload_n (pc := 9) (i := 2) (q := 2) (ax_dd KX10_feed 5 rfl) rfl rfl ?_
    obtain ⟨v4, b5, h⟩ := ob_bind h
    refine ax_kS (pc := 10) (As := [.int x2]) (rest := []) (st1 := [.int v4]) (μ1 := μ) (ax_dd KX10_feed 6 rfl) (c_X10_isByte hs b5) kS_X10_95 e_X10_isByte rfl rfl (by decide) (by decide) (Nat.le_of_ble_eq_true rfl) rfl ?_
    by_cases c6 : v4 = 0
    · rw [if_pos c6] at h
      refine ax_if_eq_t (pc := 13) (tgt := 47) (ax_dd KX10_feed 7 rfl) (by decide) c6 ?_
      refine ax_bipush (pc := 47) (v := (-2)) (ax_dd KX10_feed 20 rfl) (by decide) ?_
      obtain rfl := Option.some.inj h
      exact ax_ireti (pc := 49) (ax_dd KX10_feed 21 rfl) ⟨_, rfl, rfl⟩ rfl
    · rw [if_neg c6] at h
      refine ax_if_eq_f (pc := 13) (tgt := 47) (ax_dd KX10_feed 7 rfl) (by decide) c6 ?_
      refine ax_iload_n (pc := 16) (i := 3) (q := 3) (ax_dd KX10_feed 8 rfl) rfl rfl ?_
      obtain ⟨v7, b8, h⟩ := ob_bind h
      refine ax_kS (pc := 17) (As := [.int x3]) (rest := []) (st1 := [.int v7]) (μ1 := μ) (ax_dd KX10_feed 9 rfl) (c_X10_isByte hs b8) kS_X10_95 e_X10_isByte rfl rfl (by decide) (by decide) (Nat.le_of_ble_eq_true rfl) rfl ?_
      by_cases c9 : v7 = 0
      · rw [if_pos c9] at h
        refine ax_if_eq_t (pc := 20) (tgt := 47) (ax_dd KX10_feed 10 rfl) (by decide) c9 ?_
        refine ax_bipush (pc := 47) (v := (-2)) (ax_dd KX10_feed 20 rfl) (by decide) ?_
        obtain rfl := Option.some.inj h
        exact ax_ireti (pc := 49) (ax_dd KX10_feed 21 rfl) ⟨_, rfl, rfl⟩ rfl
      · rw [if_neg c9] at h
        refine ax_if_eq_f (pc := 20) (tgt := 47) (ax_dd KX10_feed 10 rfl) (by decide) c9 ?_
        refine ax_iload (pc := 23) (q := 4) (ax_dd KX10_feed 11 rfl) rfl ?_
        obtain ⟨v10, b11, h⟩ := ob_bind h
        refine ax_kS (pc := 25) (As := [.int x4]) (rest := []) (st1 := [.int v10]) (μ1 := μ) (ax_dd KX10_feed 12 rfl) (c_X10_isByte hs b11) kS_X10_95 e_X10_isByte rfl rfl (by decide) (by decide) (Nat.le_of_ble_eq_true rfl) rfl ?_
        by_cases c12 : v10 = 0
        · rw [if_pos c12] at h
          refine ax_if_eq_t (pc := 28) (tgt := 47) (ax_dd KX10_feed 13 rfl) (by decide) c12 ?_
          refine ax_bipush (pc := 47) (v := (-2)) (ax_dd KX10_feed 20 rfl) (by decide) ?_
          obtain rfl := Option.some.inj h
          exact ax_ireti (pc := 49) (ax_dd KX10_feed 21 rfl) ⟨_, rfl, rfl⟩ rfl
        · rw [if_neg c12] at h
          refine ax_if_eq_f (pc := 28) (tgt := 47) (ax_dd KX10_feed 13 rfl) (by decide) c12 ?_
          refine ax_iload (pc := 31) (q := 5) (ax_dd KX10_feed 14 rfl) rfl ?_
          obtain ⟨v13, b14, h⟩ := ob_bind h
          refine ax_kS (pc := 33) (As := [.int x5]) (rest := []) (st1 := [.int v13]) (μ1 := μ) (ax_dd KX10_feed 15 rfl) (c_X10_isByte hs b14) kS_X10_95 e_X10_isByte rfl rfl (by decide) (by decide) (Nat.le_of_ble_eq_true rfl) rfl ?_
          by_cases c15 : v13 = 0
          · rw [if_pos c15] at h
            refine ax_if_eq_t (pc := 36) (tgt := 47) (ax_dd KX10_feed 16 rfl) (by decide) c15 ?_
            refine ax_bipush (pc := 47) (v := (-2)) (ax_dd KX10_feed 20 rfl) (by decide) ?_
            obtain rfl := Option.some.inj h
            exact ax_ireti (pc := 49) (ax_dd KX10_feed 21 rfl) ⟨_, rfl, rfl⟩ rfl
          · rw [if_neg c15] at h
            refine ax_if_eq_f (pc := 36) (tgt := 47) (ax_dd KX10_feed 16 rfl) (by decide) c15 ?_
            refine ax_iload (pc := 39) (q := 6) (ax_dd KX10_feed 17 rfl) rfl ?_
            obtain ⟨v16, b17, h⟩ := ob_bind h
            refine ax_kS (pc := 41) (As := [.int x6]) (rest := []) (st1 := [.int v16]) (μ1 := μ) (ax_dd KX10_feed 18 rfl) (c_X10_isByte hs b17) kS_X10_95 e_X10_isByte rfl rfl (by decide) (by decide) (Nat.le_of_ble_eq_true rfl) rfl ?_
            by_cases c18 : v16 = 0
            · rw [if_pos c18] at h
              refine ax_if_ne_f (pc := 44) (tgt := 50) (ax_dd KX10_feed 19 rfl) (by decide) (fun z => z c18) ?_
              refine ax_bipush (pc := 47) (v := (-2)) (ax_dd KX10_feed 20 rfl) (by decide) ?_
              obtain rfl := Option.some.inj h
              exact ax_ireti (pc := 49) (ax_dd KX10_feed 21 rfl) ⟨_, rfl, rfl⟩ rfl
            · rw [if_neg c18] at h
              refine ax_if_ne_t (pc := 44) (tgt := 50) (ax_dd KX10_feed 19 rfl) (by decide) c18 ?_
              refine ax_aload_n (pc := 50) (i := 0) (q := 0) (ax_dd KX10_feed 22 rfl) rfl rfl ?_
              refine ax_getI (pc := 51) (k := 51) (ax_dd KX10_feed 23 rfl) f_X10_71 (hs 51 _ rfl) rfl ?_
              refine ax_iload_n (pc := 54) (i := 1) (q := 1) (ax_dd KX10_feed 24 rfl) rfl rfl ?_
              refine ax_iadd (pc := 55) (ax_dd KX10_feed 25 rfl) ?_
              refine ax_sipush (pc := 56) (v := 160) (ax_dd KX10_feed 26 rfl) (by decide) ?_
              by_cases c19 : ((μ 51 6) + x1) ≤ 160
              · rw [if_pos c19] at h
                refine ax_icmp_le_t (pc := 59) (tgt := 65) (ax_dd KX10_feed 27 rfl) (by decide) c19 ?_
                refine ax_iconst (pc := 65) (v := 0) (ax_dd KX10_feed 30 rfl) (by decide) ?_
                refine ax_istore (pc := 66) (lv' := [(7, .int 0), (0, .ref (G.1 + 51)), (1, .int x1), (2, .int x2), (3, .int x3), (4, .int x4), (5, .int x5), (6, .int x6)]) (ax_dd KX10_feed 31 rfl) (by decide) rfl ?_
                refine ax_sub (lv' := [(0, .ref (G.1 + 51)), (1, .int x1), (2, .int x2), (3, .int x3), (4, .int x4), (5, .int x5), (6, .int x6), (7, .int 0)]) [1, 2, 3, 4, 5, 6, 7, 0] rfl ?_
                exact a_X10_feed_68 hs fu _ _ _ h
              · rw [if_neg c19] at h
                refine ax_icmp_le_f (pc := 59) (tgt := 65) (ax_dd KX10_feed 27 rfl) (by decide) c19 ?_
                refine ax_bipush (pc := 62) (v := (-4)) (ax_dd KX10_feed 28 rfl) (by decide) ?_
                obtain rfl := Option.some.inj h
                exact ax_ireti (pc := 64) (ax_dd KX10_feed 29 rfl) ⟨_, rfl, rfl⟩ rfl
