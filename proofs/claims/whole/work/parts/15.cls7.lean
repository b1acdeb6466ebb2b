def m_X9_text (μ : ax_M) : Option (Int32 × ax_M) :=
  if (μ 1 0) < 6 then
    bind2 (m_X9_readTape μ) fun v2 μ4 =>
    some (v2, μ4)
  else
    some ((-4), μ)
set_option maxRecDepth 100000 in
set_option maxHeartbeats 8000000 in
theorem c_X9_text {G : ax_G} {l : Launch} {sh : List ax_E} {μ : ax_M} (hs : ∀ (k : Nat) (e : ax_E), SHc[k]? = some e → sh[k]? = some e) {v : Int32 × ax_M} (h : m_X9_text μ = some v) : ax_A G l yX9_text cX9_text 1 (some .int) 123 [.ref (G.1 + 0)] sh μ (some (.int v.1), sh, v.2) := by
  refine ax_A.of false (by decide +kernel) (fun h9 => by cases h9) (Nat.le_of_ble_eq_true rfl) (?_ : ax_X G l RX9 cX9_text 1 (some .int) false 123 (some (.int v.1), sh, v.2) 0 [(0, .ref (G.1 + 0))] [] sh μ)
  unfold m_X9_text at h
  refine ax_aload_n (pc := 0) (i := 0) (q := 0) (ax_dd KX9_text 0 rfl) rfl rfl ?_
  refine ax_getR (pc := 1) (k := 0) (q := 1) (ax_dd KX9_text 1 rfl) f_X9_10 (hs 0 _ rfl) rfl ?_
  refine ax_getI (pc := 4) (k := 1) (ax_dd KX9_text 2 rfl) f_X9_104 (hs 1 _ rfl) rfl ?_
  refine ax_bipush (pc := 7) (v := 6) (ax_dd KX9_text 3 rfl) (by decide) ?_
  by_cases c1 : (μ 1 0) < 6
  · rw [if_pos c1] at h
    refine ax_icmp_lt_t (pc := 9) (tgt := 17) (ax_dd KX9_text 4 rfl) (by decide) c1 ?_
    refine ax_aload_n (pc := 17) (i := 0) (q := 0) (ax_dd KX9_text 7 rfl) rfl rfl ?_
    obtain ⟨v2, μ4, b3, h⟩ := ob_bind2 h
    refine ax_kV (pc := 18) (ci := 9) (k := 0) (As := []) (rest := []) (st1 := [.int v2]) (μ1 := μ4) (ax_dd KX9_text 8 rfl) (c_X9_readTape hs b3) kV_X9_94 e_X9_readTape (hs 0 _ rfl) cl_X9 (by decide) rfl rfl (by decide) (by decide) (Nat.le_of_ble_eq_true rfl) rfl ?_
    obtain rfl := Option.some.inj h
    exact ax_ireti (pc := 21) (ax_dd KX9_text 9 rfl) ⟨_, rfl, rfl⟩ rfl
  · rw [if_neg c1] at h
    refine ax_icmp_lt_f (pc := 9) (tgt := 17) (ax_dd KX9_text 4 rfl) (by decide) c1 ?_
    refine ax_bipush (pc := 12) (v := (-4)) (ax_dd KX9_text 5 rfl) (by decide) ?_
    refine ax_goto (pc := 14) (tgt := 21) (ax_dd KX9_text 6 rfl) (by decide) ?_
    obtain rfl := Option.some.inj h
    exact ax_ireti (pc := 21) (ax_dd KX9_text 9 rfl) ⟨_, rfl, rfl⟩ rfl
def m_X9_force (x1 : Int32) (μ : ax_M) : Option (Int32 × ax_M) :=
  if x1 < 0 then
    some ((-2), μ)
  else
    if x1 < (μ 1 0) then
      some ((μ 25 3), ax_w μ 25 3 x1)
    else
      some ((-2), μ)
set_option maxRecDepth 100000 in
set_option maxHeartbeats 8000000 in
theorem c_X9_force {G : ax_G} {l : Launch} {sh : List ax_E} {x1 : Int32} {μ : ax_M} (hs : ∀ (k : Nat) (e : ax_E), SHc[k]? = some e → sh[k]? = some e) {v : Int32 × ax_M} (h : m_X9_force x1 μ = some v) : ax_A G l yX9_force cX9_force 3 (some .int) 2 [.ref (G.1 + 0), .int x1] sh μ (some (.int v.1), sh, v.2) := by
  refine ax_A.of false (by decide +kernel) (fun h9 => by cases h9) (Nat.le_of_ble_eq_true rfl) (?_ : ax_X G l RX9 cX9_force 3 (some .int) false 2 (some (.int v.1), sh, v.2) 0 [(0, .ref (G.1 + 0)), (1, .int x1)] [] sh μ)
  unfold m_X9_force at h
  refine ax_iload_n (pc := 0) (i := 1) (q := 1) (ax_dd KX9_force 0 rfl) rfl rfl ?_
  by_cases c1 : x1 < 0
  · rw [if_pos c1] at h
    refine ax_if_lt_t (pc := 1) (tgt := 15) (ax_dd KX9_force 1 rfl) (by decide) c1 ?_
    refine ax_bipush (pc := 15) (v := (-2)) (ax_dd KX9_force 7 rfl) (by decide) ?_
    obtain rfl := Option.some.inj h
    exact ax_ireti (pc := 17) (ax_dd KX9_force 8 rfl) ⟨_, rfl, rfl⟩ rfl
  · rw [if_neg c1] at h
    refine ax_if_lt_f (pc := 1) (tgt := 15) (ax_dd KX9_force 1 rfl) (by decide) c1 ?_
    refine ax_iload_n (pc := 4) (i := 1) (q := 1) (ax_dd KX9_force 2 rfl) rfl rfl ?_
    refine ax_aload_n (pc := 5) (i := 0) (q := 0) (ax_dd KX9_force 3 rfl) rfl rfl ?_
    refine ax_getR (pc := 6) (k := 0) (q := 1) (ax_dd KX9_force 4 rfl) f_X9_10 (hs 0 _ rfl) rfl ?_
    refine ax_getI (pc := 9) (k := 1) (ax_dd KX9_force 5 rfl) f_X9_104 (hs 1 _ rfl) rfl ?_
    by_cases c2 : x1 < (μ 1 0)
    · rw [if_pos c2] at h
      refine ax_icmp_lt_t (pc := 12) (tgt := 18) (ax_dd KX9_force 6 rfl) (by decide) c2 ?_
      refine ax_aload_n (pc := 18) (i := 0) (q := 0) (ax_dd KX9_force 9 rfl) rfl rfl ?_
      refine ax_getR (pc := 19) (k := 0) (q := 25) (ax_dd KX9_force 10 rfl) f_X9_37 (hs 0 _ rfl) rfl ?_
      refine ax_getI (pc := 22) (k := 25) (ax_dd KX9_force 11 rfl) f_X9_107 (hs 25 _ rfl) rfl ?_
      refine ax_istore_n (pc := 25) (i := 2) (lv' := [(2, .int (μ 25 3)), (0, .ref (G.1 + 0)), (1, .int x1)]) (ax_dd KX9_force 12 rfl) rfl (by decide) rfl ?_
      refine ax_aload_n (pc := 26) (i := 0) (q := 1) (ax_dd KX9_force 13 rfl) rfl rfl ?_
      refine ax_getR (pc := 27) (k := 0) (q := 25) (ax_dd KX9_force 14 rfl) f_X9_37 (hs 0 _ rfl) rfl ?_
      refine ax_iload_n (pc := 30) (i := 1) (q := 2) (ax_dd KX9_force 15 rfl) rfl rfl ?_
      refine ax_putI (pc := 31) (k := 25) (ax_dd KX9_force 16 rfl) f_X9_107 ft_X0 (hs 25 _ rfl) rfl (fun _ h9 => by cases h9; rfl) rfl rfl ?_
      refine ax_iload_n (pc := 34) (i := 2) (q := 0) (ax_dd KX9_force 17 rfl) rfl rfl ?_
      obtain rfl := Option.some.inj h
      exact ax_ireti (pc := 35) (ax_dd KX9_force 18 rfl) ⟨_, rfl, rfl⟩ rfl
    · rw [if_neg c2] at h
      refine ax_icmp_lt_f (pc := 12) (tgt := 18) (ax_dd KX9_force 6 rfl) (by decide) c2 ?_
      refine ax_bipush (pc := 15) (v := (-2)) (ax_dd KX9_force 7 rfl) (by decide) ?_
      obtain rfl := Option.some.inj h
      exact ax_ireti (pc := 17) (ax_dd KX9_force 8 rfl) ⟨_, rfl, rfl⟩ rfl
def m_X9_isCell (x0 : Int32) (μ : ax_M) : Option (Int32) :=
  if x0 < 0 then
    some 0
  else
    if 36 ≤ x0 then
      some 0
    else
      some 1
set_option maxRecDepth 100000 in
set_option maxHeartbeats 8000000 in
theorem c_X9_isCell {G : ax_G} {l : Launch} {sh : List ax_E} {x0 : Int32} {μ : ax_M} (hs : ∀ (k : Nat) (e : ax_E), SHc[k]? = some e → sh[k]? = some e) {v : Int32} (h : m_X9_isCell x0 μ = some v) : ax_A G l yX9_isCell cX9_isCell 1 (some .boolean) 2 [.int x0] sh μ (some (.int v), sh, μ) := by
  refine ax_A.of false (by decide +kernel) (fun h9 => by cases h9) (Nat.le_of_ble_eq_true rfl) (?_ : ax_X G l RX9 cX9_isCell 1 (some .boolean) false 2 (some (.int v), sh, μ) 0 [(0, .int x0)] [] sh μ)
  unfold m_X9_isCell at h
  refine ax_iload_n (pc := 0) (i := 0) (q := 0) (ax_dd KX9_isCell 0 rfl) rfl rfl ?_
  by_cases c1 : x0 < 0
  · rw [if_pos c1] at h
    refine ax_if_lt_t (pc := 1) (tgt := 14) (ax_dd KX9_isCell 1 rfl) (by decide) c1 ?_
    refine ax_iconst (pc := 14) (v := 0) (ax_dd KX9_isCell 7 rfl) (by decide) ?_
    obtain rfl := Option.some.inj h
    exact ax_ireti (pc := 15) (ax_dd KX9_isCell 8 rfl) ⟨_, rfl, rfl⟩ rfl
  · rw [if_neg c1] at h
    refine ax_if_lt_f (pc := 1) (tgt := 14) (ax_dd KX9_isCell 1 rfl) (by decide) c1 ?_
    refine ax_iload_n (pc := 4) (i := 0) (q := 0) (ax_dd KX9_isCell 2 rfl) rfl rfl ?_
    refine ax_bipush (pc := 5) (v := 36) (ax_dd KX9_isCell 3 rfl) (by decide) ?_
    by_cases c2 : 36 ≤ x0
    · rw [if_pos c2] at h
      refine ax_icmp_ge_t (pc := 7) (tgt := 14) (ax_dd KX9_isCell 4 rfl) (by decide) c2 ?_
      refine ax_iconst (pc := 14) (v := 0) (ax_dd KX9_isCell 7 rfl) (by decide) ?_
      obtain rfl := Option.some.inj h
      exact ax_ireti (pc := 15) (ax_dd KX9_isCell 8 rfl) ⟨_, rfl, rfl⟩ rfl
    · rw [if_neg c2] at h
      refine ax_icmp_ge_f (pc := 7) (tgt := 14) (ax_dd KX9_isCell 4 rfl) (by decide) c2 ?_
      refine ax_iconst (pc := 10) (v := 1) (ax_dd KX9_isCell 5 rfl) (by decide) ?_
      refine ax_goto (pc := 11) (tgt := 15) (ax_dd KX9_isCell 6 rfl) (by decide) ?_
      obtain rfl := Option.some.inj h
      exact ax_ireti (pc := 15) (ax_dd KX9_isCell 8 rfl) ⟨_, rfl, rfl⟩ rfl
def m_X9_asks (x1 : Int32) (x2 : Int32) (x3 : Int32) (μ : ax_M) : Option (Int32 × ax_M) :=
  if x1 < 0 then
    some ((-2), μ)
  else
    if 3 ≤ x1 then
      some ((-2), μ)
    else
      (m_X0_isRug x2 μ).bind fun v3 =>
      if v3 = 0 then
        some ((-2), μ)
      else
        (m_X9_isCell x3 μ).bind fun v6 =>
        if v6 = 0 then
          some ((-2), μ)
        else
          bind2 (m_X0_says x1 x2 x3 (μ 25 2) μ) fun v9 μ11 =>
          some (v9, μ11)
set_option maxRecDepth 100000 in
set_option maxHeartbeats 8000000 in
theorem c_X9_asks {G : ax_G} {l : Launch} {sh : List ax_E} {x1 : Int32} {x2 : Int32} {x3 : Int32} {μ : ax_M} (hs : ∀ (k : Nat) (e : ax_E), SHc[k]? = some e → sh[k]? = some e) {v : Int32 × ax_M} (h : m_X9_asks x1 x2 x3 μ = some v) : ax_A G l yX9_asks cX9_asks 4 (some .int) 4 [.ref (G.1 + 0), .int x1, .int x2, .int x3] sh μ (some (.int v.1), sh, v.2) := by
  refine ax_A.of false (by decide +kernel) (fun h9 => by cases h9) (Nat.le_of_ble_eq_true rfl) (?_ : ax_X G l RX9 cX9_asks 4 (some .int) false 4 (some (.int v.1), sh, v.2) 0 [(0, .ref (G.1 + 0)), (1, .int x1), (2, .int x2), (3, .int x3)] [] sh μ)
  unfold m_X9_asks at h
  refine ax_iload_n (pc := 0) (i := 1) (q := 1) (ax_dd KX9_asks 0 rfl) rfl rfl ?_
  by_cases c1 : x1 < 0
  · rw [if_pos c1] at h
    refine ax_if_lt_t (pc := 1) (tgt := 27) (ax_dd KX9_asks 1 rfl) (by decide) c1 ?_
    refine ax_bipush (pc := 27) (v := (-2)) (ax_dd KX9_asks 13 rfl) (by decide) ?_
    obtain rfl := Option.some.inj h
    exact ax_ireti (pc := 29) (ax_dd KX9_asks 14 rfl) ⟨_, rfl, rfl⟩ rfl
  · rw [if_neg c1] at h
    refine ax_if_lt_f (pc := 1) (tgt := 27) (ax_dd KX9_asks 1 rfl) (by decide) c1 ?_
    refine ax_iload_n (pc := 4) (i := 1) (q := 1) (ax_dd KX9_asks 2 rfl) rfl rfl ?_
    refine ax_iconst (pc := 5) (v := 3) (ax_dd KX9_asks 3 rfl) (by decide) ?_
    by_cases c2 : 3 ≤ x1
    · rw [if_pos c2] at h
      refine ax_icmp_ge_t (pc := 6) (tgt := 27) (ax_dd KX9_asks 4 rfl) (by decide) c2 ?_
      refine ax_bipush (pc := 27) (v := (-2)) (ax_dd KX9_asks 13 rfl) (by decide) ?_
      obtain rfl := Option.some.inj h
      exact ax_ireti (pc := 29) (ax_dd KX9_asks 14 rfl) ⟨_, rfl, rfl⟩ rfl
    · rw [if_neg c2] at h
      refine ax_icmp_ge_f (pc := 6) (tgt := 27) (ax_dd KX9_asks 4 rfl) (by decide) c2 ?_
      refine ax_aload_n (pc := 9) (i := 0) (q := 0) (ax_dd KX9_asks 5 rfl) rfl rfl ?_
      refine ax_getR (pc := 10) (k := 0) (q := 25) (ax_dd KX9_asks 6 rfl) f_X9_37 (hs 0 _ rfl) rfl ?_
      refine ax_iload_n (pc := 13) (i := 2) (q := 2) (ax_dd KX9_asks 7 rfl) rfl rfl ?_
      obtain ⟨v3, b4, h⟩ := ob_bind h
      refine ax_kV (pc := 14) (ci := 0) (k := 25) (As := [.int x2]) (rest := []) (st1 := [.int v3]) (μ1 := μ) (ax_dd KX9_asks 8 rfl) (c_X0_isRug hs b4) kV_X9_117 e_X0_isRug (hs 25 _ rfl) cl_X0 (by decide) rfl rfl (by decide) (by decide) (Nat.le_of_ble_eq_true rfl) rfl ?_
      by_cases c5 : v3 = 0
      · rw [if_pos c5] at h
        refine ax_if_eq_t (pc := 17) (tgt := 27) (ax_dd KX9_asks 9 rfl) (by decide) c5 ?_
        refine ax_bipush (pc := 27) (v := (-2)) (ax_dd KX9_asks 13 rfl) (by decide) ?_
        obtain rfl := Option.some.inj h
        exact ax_ireti (pc := 29) (ax_dd KX9_asks 14 rfl) ⟨_, rfl, rfl⟩ rfl
      · rw [if_neg c5] at h
        refine ax_if_eq_f (pc := 17) (tgt := 27) (ax_dd KX9_asks 9 rfl) (by decide) c5 ?_
        refine ax_iload_n (pc := 20) (i := 3) (q := 3) (ax_dd KX9_asks 10 rfl) rfl rfl ?_
        obtain ⟨v6, b7, h⟩ := ob_bind h
        refine ax_kS (pc := 21) (As := [.int x3]) (rest := []) (st1 := [.int v6]) (μ1 := μ) (ax_dd KX9_asks 11 rfl) (c_X9_isCell hs b7) kS_X9_120 e_X9_isCell rfl rfl (by decide) (by decide) (Nat.le_of_ble_eq_true rfl) rfl ?_
        by_cases c8 : v6 = 0
        · rw [if_pos c8] at h
          refine ax_if_ne_f (pc := 24) (tgt := 30) (ax_dd KX9_asks 12 rfl) (by decide) (fun z => z c8) ?_
          refine ax_bipush (pc := 27) (v := (-2)) (ax_dd KX9_asks 13 rfl) (by decide) ?_
          obtain rfl := Option.some.inj h
          exact ax_ireti (pc := 29) (ax_dd KX9_asks 14 rfl) ⟨_, rfl, rfl⟩ rfl
        · rw [if_neg c8] at h
          refine ax_if_ne_t (pc := 24) (tgt := 30) (ax_dd KX9_asks 12 rfl) (by decide) c8 ?_
          refine ax_aload_n (pc := 30) (i := 0) (q := 0) (ax_dd KX9_asks 15 rfl) rfl rfl ?_
          refine ax_getR (pc := 31) (k := 0) (q := 25) (ax_dd KX9_asks 16 rfl) f_X9_37 (hs 0 _ rfl) rfl ?_
          refine ax_iload_n (pc := 34) (i := 1) (q := 1) (ax_dd KX9_asks 17 rfl) rfl rfl ?_
          refine ax_iload_n (pc := 35) (i := 2) (q := 2) (ax_dd KX9_asks 18 rfl) rfl rfl ?_
          refine ax_iload_n (pc := 36) (i := 3) (q := 3) (ax_dd KX9_asks 19 rfl) rfl rfl ?_
          refine ax_aload_n (pc := 37) (i := 0) (q := 0) (ax_dd KX9_asks 20 rfl) rfl rfl ?_
          refine ax_getR (pc := 38) (k := 0) (q := 25) (ax_dd KX9_asks 21 rfl) f_X9_37 (hs 0 _ rfl) rfl ?_
          refine ax_getI (pc := 41) (k := 25) (ax_dd KX9_asks 22 rfl) f_X9_101 (hs 25 _ rfl) rfl ?_
          obtain ⟨v9, μ11, b10, h⟩ := ob_bind2 h
          refine ax_kV (pc := 44) (ci := 0) (k := 25) (As := [.int x1, .int x2, .int x3, .int (μ 25 2)]) (rest := []) (st1 := [.int v9]) (μ1 := μ11) (ax_dd KX9_asks 23 rfl) (c_X0_says hs b10) kV_X9_123 e_X0_says (hs 25 _ rfl) cl_X0 (by decide) rfl rfl (by decide) (by decide) (Nat.le_of_ble_eq_true rfl) rfl ?_
          obtain rfl := Option.some.inj h
          exact ax_ireti (pc := 47) (ax_dd KX9_asks 24 rfl) ⟨_, rfl, rfl⟩ rfl
def m_X9_areCorners (x0 : Int32) (μ : ax_M) : Option (Int32) :=
  if x0 < 0 then
    some 0
  else
    (m_X9_isCell (x0 / 100) μ).bind fun v2 =>
    if v2 = 0 then
      some 0
    else
      (m_X9_isCell (rmI x0 100) μ).bind fun v5 =>
      if v5 = 0 then
        some 0
      else
        (m_X9_columnOf (rmI x0 100) μ).bind fun v8 =>
        (m_X9_columnOf (x0 / 100) μ).bind fun v10 =>
        if v8 < v10 then
          some 0
        else
          (m_X9_rowOf (rmI x0 100) μ).bind fun v13 =>
          (m_X9_rowOf (x0 / 100) μ).bind fun v15 =>
          if v13 < v15 then
            some 0
          else
            some 1
set_option maxRecDepth 100000 in
set_option maxHeartbeats 8000000 in
theorem c_X9_areCorners {G : ax_G} {l : Launch} {sh : List ax_E} {x0 : Int32} {μ : ax_M} (hs : ∀ (k : Nat) (e : ax_E), SHc[k]? = some e → sh[k]? = some e) {v : Int32} (h : m_X9_areCorners x0 μ = some v) : ax_A G l yX9_areCorners cX9_areCorners 1 (some .boolean) 3 [.int x0] sh μ (some (.int v), sh, μ) := by
  refine ax_A.of false (by decide +kernel) (fun h9 => by cases h9) (Nat.le_of_ble_eq_true rfl) (?_ : ax_X G l RX9 cX9_areCorners 1 (some .boolean) false 3 (some (.int v), sh, μ) 0 [(0, .int x0)] [] sh μ)
  unfold m_X9_areCorners at h
  refine ax_iload_n (pc := 0) (i := 0) (q := 0) (ax_dd KX9_areCorners 0 rfl) rfl rfl ?_
  by_cases c1 : x0 < 0
  · rw [if_pos c1] at h
    refine ax_if_lt_t (pc := 1) (tgt := 24) (ax_dd KX9_areCorners 1 rfl) (by decide) c1 ?_
    refine ax_iconst (pc := 24) (v := 0) (ax_dd KX9_areCorners 12 rfl) (by decide) ?_
    obtain rfl := Option.some.inj h
    exact ax_ireti (pc := 25) (ax_dd KX9_areCorners 13 rfl) ⟨_, rfl, rfl⟩ rfl
  · rw [if_neg c1] at h
    refine ax_if_lt_f (pc := 1) (tgt := 24) (ax_dd KX9_areCorners 1 rfl) (by decide) c1 ?_
    refine ax_iload_n (pc := 4) (i := 0) (q := 0) (ax_dd KX9_areCorners 2 rfl) rfl rfl ?_
    refine ax_bipush (pc := 5) (v := 100) (ax_dd KX9_areCorners 3 rfl) (by decide) ?_
    refine ax_idiv (pc := 7) (ax_dd KX9_areCorners 4 rfl) (by decide) ?_
    obtain ⟨v2, b3, h⟩ := ob_bind h
    refine ax_kS (pc := 8) (As := [.int (x0 / 100)]) (rest := []) (st1 := [.int v2]) (μ1 := μ) (ax_dd KX9_areCorners 5 rfl) (c_X9_isCell hs b3) kS_X9_120 e_X9_isCell rfl rfl (by decide) (by decide) (Nat.le_of_ble_eq_true rfl) rfl ?_
    by_cases c4 : v2 = 0
    · rw [if_pos c4] at h
      refine ax_if_eq_t (pc := 11) (tgt := 24) (ax_dd KX9_areCorners 6 rfl) (by decide) c4 ?_
      refine ax_iconst (pc := 24) (v := 0) (ax_dd KX9_areCorners 12 rfl) (by decide) ?_
      obtain rfl := Option.some.inj h
      exact ax_ireti (pc := 25) (ax_dd KX9_areCorners 13 rfl) ⟨_, rfl, rfl⟩ rfl
    · rw [if_neg c4] at h
      refine ax_if_eq_f (pc := 11) (tgt := 24) (ax_dd KX9_areCorners 6 rfl) (by decide) c4 ?_
      refine ax_iload_n (pc := 14) (i := 0) (q := 0) (ax_dd KX9_areCorners 7 rfl) rfl rfl ?_
      refine ax_bipush (pc := 15) (v := 100) (ax_dd KX9_areCorners 8 rfl) (by decide) ?_
      refine ax_irem (pc := 17) (ax_dd KX9_areCorners 9 rfl) (by decide) ?_
      obtain ⟨v5, b6, h⟩ := ob_bind h
      refine ax_kS (pc := 18) (As := [.int (rmI x0 100)]) (rest := []) (st1 := [.int v5]) (μ1 := μ) (ax_dd KX9_areCorners 10 rfl) (c_X9_isCell hs b6) kS_X9_120 e_X9_isCell rfl rfl (by decide) (by decide) (Nat.le_of_ble_eq_true rfl) rfl ?_
      by_cases c7 : v5 = 0
      · rw [if_pos c7] at h
        refine ax_if_ne_f (pc := 21) (tgt := 26) (ax_dd KX9_areCorners 11 rfl) (by decide) (fun z => z c7) ?_
        refine ax_iconst (pc := 24) (v := 0) (ax_dd KX9_areCorners 12 rfl) (by decide) ?_
        obtain rfl := Option.some.inj h
        exact ax_ireti (pc := 25) (ax_dd KX9_areCorners 13 rfl) ⟨_, rfl, rfl⟩ rfl
      · rw [if_neg c7] at h
        refine ax_if_ne_t (pc := 21) (tgt := 26) (ax_dd KX9_areCorners 11 rfl) (by decide) c7 ?_
        refine ax_iload_n (pc := 26) (i := 0) (q := 0) (ax_dd KX9_areCorners 14 rfl) rfl rfl ?_
        refine ax_bipush (pc := 27) (v := 100) (ax_dd KX9_areCorners 15 rfl) (by decide) ?_
        refine ax_irem (pc := 29) (ax_dd KX9_areCorners 16 rfl) (by decide) ?_
        obtain ⟨v8, b9, h⟩ := ob_bind h
        refine ax_kS (pc := 30) (As := [.int (rmI x0 100)]) (rest := []) (st1 := [.int v8]) (μ1 := μ) (ax_dd KX9_areCorners 17 rfl) (c_X9_columnOf hs b9) kS_X9_228 e_X9_columnOf rfl rfl (by decide) (by decide) (Nat.le_of_ble_eq_true rfl) rfl ?_
        refine ax_iload_n (pc := 33) (i := 0) (q := 0) (ax_dd KX9_areCorners 18 rfl) rfl rfl ?_
        refine ax_bipush (pc := 34) (v := 100) (ax_dd KX9_areCorners 19 rfl) (by decide) ?_
        refine ax_idiv (pc := 36) (ax_dd KX9_areCorners 20 rfl) (by decide) ?_
        obtain ⟨v10, b11, h⟩ := ob_bind h
        refine ax_kS (pc := 37) (As := [.int (x0 / 100)]) (rest := [.int v8]) (st1 := [.int v10, .int v8]) (μ1 := μ) (ax_dd KX9_areCorners 21 rfl) (c_X9_columnOf hs b11) kS_X9_228 e_X9_columnOf rfl rfl (by decide) (by decide) (Nat.le_of_ble_eq_true rfl) rfl ?_
        by_cases c12 : v8 < v10
        · rw [if_pos c12] at h
          refine ax_icmp_lt_t (pc := 40) (tgt := 64) (ax_dd KX9_areCorners 22 rfl) (by decide) c12 ?_
          refine ax_iconst (pc := 64) (v := 0) (ax_dd KX9_areCorners 34 rfl) (by decide) ?_
          obtain rfl := Option.some.inj h
          exact ax_ireti (pc := 65) (ax_dd KX9_areCorners 35 rfl) ⟨_, rfl, rfl⟩ rfl
        · rw [if_neg c12] at h
          refine ax_icmp_lt_f (pc := 40) (tgt := 64) (ax_dd KX9_areCorners 22 rfl) (by decide) c12 ?_
          refine ax_iload_n (pc := 43) (i := 0) (q := 0) (ax_dd KX9_areCorners 23 rfl) rfl rfl ?_
          refine ax_bipush (pc := 44) (v := 100) (ax_dd KX9_areCorners 24 rfl) (by decide) ?_
          refine ax_irem (pc := 46) (ax_dd KX9_areCorners 25 rfl) (by decide) ?_
          obtain ⟨v13, b14, h⟩ := ob_bind h
          refine ax_kS (pc := 47) (As := [.int (rmI x0 100)]) (rest := []) (st1 := [.int v13]) (μ1 := μ) (ax_dd KX9_areCorners 26 rfl) (c_X9_rowOf hs b14) kS_X9_330 e_X9_rowOf rfl rfl (by decide) (by decide) (Nat.le_of_ble_eq_true rfl) rfl ?_
          refine ax_iload_n (pc := 50) (i := 0) (q := 0) (ax_dd KX9_areCorners 27 rfl) rfl rfl ?_
          refine ax_bipush (pc := 51) (v := 100) (ax_dd KX9_areCorners 28 rfl) (by decide) ?_
          refine ax_idiv (pc := 53) (ax_dd KX9_areCorners 29 rfl) (by decide) ?_
          obtain ⟨v15, b16, h⟩ := ob_bind h
          refine ax_kS (pc := 54) (As := [.int (x0 / 100)]) (rest := [.int v13]) (st1 := [.int v15, .int v13]) (μ1 := μ) (ax_dd KX9_areCorners 30 rfl) (c_X9_rowOf hs b16) kS_X9_330 e_X9_rowOf rfl rfl (by decide) (by decide) (Nat.le_of_ble_eq_true rfl) rfl ?_
          by_cases c17 : v13 < v15
          · rw [if_pos c17] at h
            refine ax_icmp_lt_t (pc := 57) (tgt := 64) (ax_dd KX9_areCorners 31 rfl) (by decide) c17 ?_
            refine ax_iconst (pc := 64) (v := 0) (ax_dd KX9_areCorners 34 rfl) (by decide) ?_
            obtain rfl := Option.some.inj h
            exact ax_ireti (pc := 65) (ax_dd KX9_areCorners 35 rfl) ⟨_, rfl, rfl⟩ rfl
          · rw [if_neg c17] at h
            refine ax_icmp_lt_f (pc := 57) (tgt := 64) (ax_dd KX9_areCorners 31 rfl) (by decide) c17 ?_
            refine ax_iconst (pc := 60) (v := 1) (ax_dd KX9_areCorners 32 rfl) (by decide) ?_
            refine ax_goto (pc := 61) (tgt := 65) (ax_dd KX9_areCorners 33 rfl) (by decide) ?_
            obtain rfl := Option.some.inj h
            exact ax_ireti (pc := 65) (ax_dd KX9_areCorners 35 rfl) ⟨_, rfl, rfl⟩ rfl
def m_X9_spread (x1 : Int32) (x2 : Int32) (μ : ax_M) : Option (Int32 × ax_M) :=
  if x1 < 0 then
    some ((-2), μ)
  else
    if 60 ≤ x1 then
      some ((-2), μ)
    else
      (m_X9_areCorners x2 μ).bind fun v3 =>
      if v3 = 0 then
        some ((-2), μ)
      else
        if (μ 25 1) < 6 then
          bind2 (m_X0_add x1 x2 μ) fun v7 μ9 =>
          some (v7, μ9)
        else
          some ((-4), μ)
set_option maxRecDepth 100000 in
set_option maxHeartbeats 8000000 in
theorem c_X9_spread {G : ax_G} {l : Launch} {sh : List ax_E} {x1 : Int32} {x2 : Int32} {μ : ax_M} (hs : ∀ (k : Nat) (e : ax_E), SHc[k]? = some e → sh[k]? = some e) {v : Int32 × ax_M} (h : m_X9_spread x1 x2 μ = some v) : ax_A G l yX9_spread cX9_spread 3 (some .int) 5 [.ref (G.1 + 0), .int x1, .int x2] sh μ (some (.int v.1), sh, v.2) := by
  refine ax_A.of false (by decide +kernel) (fun h9 => by cases h9) (Nat.le_of_ble_eq_true rfl) (?_ : ax_X G l RX9 cX9_spread 3 (some .int) false 5 (some (.int v.1), sh, v.2) 0 [(0, .ref (G.1 + 0)), (1, .int x1), (2, .int x2)] [] sh μ)
  unfold m_X9_spread at h
  refine ax_iload_n (pc := 0) (i := 1) (q := 1) (ax_dd KX9_spread 0 rfl) rfl rfl ?_
  by_cases c1 : x1 < 0
  · rw [if_pos c1] at h
    refine ax_if_lt_t (pc := 1) (tgt := 17) (ax_dd KX9_spread 1 rfl) (by decide) c1 ?_
    refine ax_bipush (pc := 17) (v := (-2)) (ax_dd KX9_spread 8 rfl) (by decide) ?_
    obtain rfl := Option.some.inj h
    exact ax_ireti (pc := 19) (ax_dd KX9_spread 9 rfl) ⟨_, rfl, rfl⟩ rfl
  · rw [if_neg c1] at h
    refine ax_if_lt_f (pc := 1) (tgt := 17) (ax_dd KX9_spread 1 rfl) (by decide) c1 ?_
    refine ax_iload_n (pc := 4) (i := 1) (q := 1) (ax_dd KX9_spread 2 rfl) rfl rfl ?_
    refine ax_bipush (pc := 5) (v := 60) (ax_dd KX9_spread 3 rfl) (by decide) ?_
    by_cases c2 : 60 ≤ x1
    · rw [if_pos c2] at h
      refine ax_icmp_ge_t (pc := 7) (tgt := 17) (ax_dd KX9_spread 4 rfl) (by decide) c2 ?_
      refine ax_bipush (pc := 17) (v := (-2)) (ax_dd KX9_spread 8 rfl) (by decide) ?_
      obtain rfl := Option.some.inj h
      exact ax_ireti (pc := 19) (ax_dd KX9_spread 9 rfl) ⟨_, rfl, rfl⟩ rfl
    · rw [if_neg c2] at h
      refine ax_icmp_ge_f (pc := 7) (tgt := 17) (ax_dd KX9_spread 4 rfl) (by decide) c2 ?_
      refine ax_iload_n (pc := 10) (i := 2) (q := 2) (ax_dd KX9_spread 5 rfl) rfl rfl ?_
      obtain ⟨v3, b4, h⟩ := ob_bind h
      refine ax_kS (pc := 11) (As := [.int x2]) (rest := []) (st1 := [.int v3]) (μ1 := μ) (ax_dd KX9_spread 6 rfl) (c_X9_areCorners hs b4) kS_X9_127 e_X9_areCorners rfl rfl (by decide) (by decide) (Nat.le_of_ble_eq_true rfl) rfl ?_
      by_cases c5 : v3 = 0
      · rw [if_pos c5] at h
        refine ax_if_ne_f (pc := 14) (tgt := 20) (ax_dd KX9_spread 7 rfl) (by decide) (fun z => z c5) ?_
        refine ax_bipush (pc := 17) (v := (-2)) (ax_dd KX9_spread 8 rfl) (by decide) ?_
        obtain rfl := Option.some.inj h
        exact ax_ireti (pc := 19) (ax_dd KX9_spread 9 rfl) ⟨_, rfl, rfl⟩ rfl
      · rw [if_neg c5] at h
        refine ax_if_ne_t (pc := 14) (tgt := 20) (ax_dd KX9_spread 7 rfl) (by decide) c5 ?_
        refine ax_aload_n (pc := 20) (i := 0) (q := 0) (ax_dd KX9_spread 10 rfl) rfl rfl ?_
        refine ax_getR (pc := 21) (k := 0) (q := 25) (ax_dd KX9_spread 11 rfl) f_X9_37 (hs 0 _ rfl) rfl ?_
        refine ax_getI (pc := 24) (k := 25) (ax_dd KX9_spread 12 rfl) f_X9_97 (hs 25 _ rfl) rfl ?_
        refine ax_bipush (pc := 27) (v := 6) (ax_dd KX9_spread 13 rfl) (by decide) ?_
        by_cases c6 : (μ 25 1) < 6
        · rw [if_pos c6] at h
          refine ax_icmp_lt_t (pc := 29) (tgt := 37) (ax_dd KX9_spread 14 rfl) (by decide) c6 ?_
          refine ax_aload_n (pc := 37) (i := 0) (q := 0) (ax_dd KX9_spread 17 rfl) rfl rfl ?_
          refine ax_getR (pc := 38) (k := 0) (q := 25) (ax_dd KX9_spread 18 rfl) f_X9_37 (hs 0 _ rfl) rfl ?_
          refine ax_iload_n (pc := 41) (i := 1) (q := 1) (ax_dd KX9_spread 19 rfl) rfl rfl ?_
          refine ax_iload_n (pc := 42) (i := 2) (q := 2) (ax_dd KX9_spread 20 rfl) rfl rfl ?_
          obtain ⟨v7, μ9, b8, h⟩ := ob_bind2 h
          refine ax_kV (pc := 43) (ci := 0) (k := 25) (As := [.int x1, .int x2]) (rest := []) (st1 := [.int v7]) (μ1 := μ9) (ax_dd KX9_spread 21 rfl) (c_X0_add hs b8) kV_X9_130 e_X0_add (hs 25 _ rfl) cl_X0 (by decide) rfl rfl (by decide) (by decide) (Nat.le_of_ble_eq_true rfl) rfl ?_
          obtain rfl := Option.some.inj h
          exact ax_ireti (pc := 46) (ax_dd KX9_spread 22 rfl) ⟨_, rfl, rfl⟩ rfl
        · rw [if_neg c6] at h
          refine ax_icmp_lt_f (pc := 29) (tgt := 37) (ax_dd KX9_spread 14 rfl) (by decide) c6 ?_
          refine ax_bipush (pc := 32) (v := (-4)) (ax_dd KX9_spread 15 rfl) (by decide) ?_
          refine ax_goto (pc := 34) (tgt := 46) (ax_dd KX9_spread 16 rfl) (by decide) ?_
          obtain rfl := Option.some.inj h
          exact ax_ireti (pc := 46) (ax_dd KX9_spread 22 rfl) ⟨_, rfl, rfl⟩ rfl
def m_X9_put_54 (x1 : Int32) (x2 : Int32) (x3 : Int32) (μ : ax_M) : Option (Int32 × ax_M) :=
  if x2 = 1 then
    if x3 < 0 then
      some ((-7), μ)
    else
      if 100 ≤ x3 then
        some ((-7), μ)
      else
        (ix 6 x1).bind fun j4 =>
        (ix 6 x1).bind fun j6 =>
        some ((μ 31 j4), ax_w μ 31 j6 x3)
  else
    some ((-7), μ)
set_option maxRecDepth 100000 in
set_option maxHeartbeats 8000000 in
theorem a_X9_put_54 {G : ax_G} {l : Launch} {sh : List ax_E} {x1 : Int32} {x2 : Int32} {x3 : Int32} {μ : ax_M} (hs : ∀ (k : Nat) (e : ax_E), SHc[k]? = some e → sh[k]? = some e) {v : Int32 × ax_M} (h : m_X9_put_54 x1 x2 x3 μ = some v) : ax_X G l RX9 cX9_put 5 (some .int) false 4 (some (.int v.1), sh, v.2) 54 [(0, .ref (G.1 + 0)), (1, .int x1), (2, .int x2), (3, .int x3)] [] sh μ := by
  unfold m_X9_put_54 at h
  refine ax_iload_n (pc := 54) (i := 2) (q := 2) (ax_dd KX9_put 29 rfl) rfl rfl ?_
  refine ax_iconst (pc := 55) (v := 1) (ax_dd KX9_put 30 rfl) (by decide) ?_
  by_cases c1 : x2 = 1
  · rw [if_pos c1] at h
    refine ax_icmp_ne_f (pc := 56) (tgt := 93) (ax_dd KX9_put 31 rfl) (by decide) (fun z => z c1) ?_
    refine ax_iload_n (pc := 59) (i := 3) (q := 3) (ax_dd KX9_put 32 rfl) rfl rfl ?_
    by_cases c2 : x3 < 0
    · rw [if_pos c2] at h
      refine ax_if_lt_t (pc := 60) (tgt := 93) (ax_dd KX9_put 33 rfl) (by decide) c2 ?_
      refine ax_bipush (pc := 93) (v := (-7)) (ax_dd KX9_put 51 rfl) (by decide) ?_
      obtain rfl := Option.some.inj h
      exact ax_ireti (pc := 95) (ax_dd KX9_put 52 rfl) ⟨_, rfl, rfl⟩ rfl
    · rw [if_neg c2] at h
      refine ax_if_lt_f (pc := 60) (tgt := 93) (ax_dd KX9_put 33 rfl) (by decide) c2 ?_
      refine ax_iload_n (pc := 63) (i := 3) (q := 3) (ax_dd KX9_put 34 rfl) rfl rfl ?_
      refine ax_bipush (pc := 64) (v := 100) (ax_dd KX9_put 35 rfl) (by decide) ?_
      by_cases c3 : 100 ≤ x3
      · rw [if_pos c3] at h
        refine ax_icmp_ge_t (pc := 66) (tgt := 93) (ax_dd KX9_put 36 rfl) (by decide) c3 ?_
        refine ax_bipush (pc := 93) (v := (-7)) (ax_dd KX9_put 51 rfl) (by decide) ?_
        obtain rfl := Option.some.inj h
        exact ax_ireti (pc := 95) (ax_dd KX9_put 52 rfl) ⟨_, rfl, rfl⟩ rfl
      · rw [if_neg c3] at h
        refine ax_icmp_ge_f (pc := 66) (tgt := 93) (ax_dd KX9_put 36 rfl) (by decide) c3 ?_
        refine ax_aload_n (pc := 69) (i := 0) (q := 0) (ax_dd KX9_put 37 rfl) rfl rfl ?_
        refine ax_getR (pc := 70) (k := 0) (q := 25) (ax_dd KX9_put 38 rfl) f_X9_37 (hs 0 _ rfl) rfl ?_
        refine ax_getR (pc := 73) (k := 25) (q := 31) (ax_dd KX9_put 39 rfl) f_X9_141 (hs 25 _ rfl) rfl ?_
        refine ax_iload_n (pc := 76) (i := 1) (q := 1) (ax_dd KX9_put 40 rfl) rfl rfl ?_
        obtain ⟨j4, b5, h⟩ := ob_bind h
        refine ax_ild (pc := 77) (k := 31) (N := 6) (j := j4) (ax_dd KX9_put 41 rfl) (hs 31 _ rfl) b5 ?_
        refine ax_istore (pc := 78) (lv' := [(4, .int (μ 31 j4)), (0, .ref (G.1 + 0)), (1, .int x1), (2, .int x2), (3, .int x3)]) (ax_dd KX9_put 42 rfl) (by decide) rfl ?_
        refine ax_aload_n (pc := 80) (i := 0) (q := 1) (ax_dd KX9_put 43 rfl) rfl rfl ?_
        refine ax_getR (pc := 81) (k := 0) (q := 25) (ax_dd KX9_put 44 rfl) f_X9_37 (hs 0 _ rfl) rfl ?_
        refine ax_getR (pc := 84) (k := 25) (q := 31) (ax_dd KX9_put 45 rfl) f_X9_141 (hs 25 _ rfl) rfl ?_
        refine ax_iload_n (pc := 87) (i := 1) (q := 2) (ax_dd KX9_put 46 rfl) rfl rfl ?_
        refine ax_iload_n (pc := 88) (i := 3) (q := 4) (ax_dd KX9_put 47 rfl) rfl rfl ?_
        obtain ⟨j6, b7, h⟩ := ob_bind h
        refine ax_ist (pc := 89) (k := 31) (N := 6) (j := j6) (ax_dd KX9_put 48 rfl) (hs 31 _ rfl) b7 ?_
        refine ax_iload (pc := 90) (q := 0) (ax_dd KX9_put 49 rfl) rfl ?_
        obtain rfl := Option.some.inj h
        exact ax_ireti (pc := 92) (ax_dd KX9_put 50 rfl) ⟨_, rfl, rfl⟩ rfl
  · rw [if_neg c1] at h
    refine ax_icmp_ne_t (pc := 56) (tgt := 93) (ax_dd KX9_put 31 rfl) (by decide) c1 ?_
    refine ax_bipush (pc := 93) (v := (-7)) (ax_dd KX9_put 51 rfl) (by decide) ?_
    obtain rfl := Option.some.inj h
    exact ax_ireti (pc := 95) (ax_dd KX9_put 52 rfl) ⟨_, rfl, rfl⟩ rfl
def m_X9_put (x1 : Int32) (x2 : Int32) (x3 : Int32) (μ : ax_M) : Option (Int32 × ax_M) :=
  (m_X0_isRug x1 μ).bind fun v1 =>
  if v1 = 0 then
    some ((-5), μ)
  else
    if x2 = 0 then
      (m_X9_areCorners x3 μ).bind fun v5 =>
      if v5 = 0 then
        m_X9_put_54 x1 x2 x3 μ
      else
        (m_X0_corners x1 μ).bind fun v8 =>
        (m_X0_lay x1 (x3 / 100) (rmI x3 100) μ).bind fun μ12 =>
        some (v8, μ12)
    else
      m_X9_put_54 x1 x2 x3 μ
set_option maxRecDepth 100000 in
set_option maxHeartbeats 8000000 in
theorem c_X9_put {G : ax_G} {l : Launch} {sh : List ax_E} {x1 : Int32} {x2 : Int32} {x3 : Int32} {μ : ax_M} (hs : ∀ (k : Nat) (e : ax_E), SHc[k]? = some e → sh[k]? = some e) {v : Int32 × ax_M} (h : m_X9_put x1 x2 x3 μ = some v) : ax_A G l yX9_put cX9_put 5 (some .int) 4 [.ref (G.1 + 0), .int x1, .int x2, .int x3] sh μ (some (.int v.1), sh, v.2) := by
  refine ax_A.of false (by decide +kernel) (fun h9 => by cases h9) (Nat.le_of_ble_eq_true rfl) (?_ : ax_X G l RX9 cX9_put 5 (some .int) false 4 (some (.int v.1), sh, v.2) 0 [(0, .ref (G.1 + 0)), (1, .int x1), (2, .int x2), (3, .int x3)] [] sh μ)
  unfold m_X9_put at h
  refine ax_aload_n (pc := 0) (i := 0) (q := 0) (ax_dd KX9_put 0 rfl) rfl rfl ?_
  refine ax_getR (pc := 1) (k := 0) (q := 25) (ax_dd KX9_put 1 rfl) f_X9_37 (hs 0 _ rfl) rfl ?_
  refine ax_iload_n (pc := 4) (i := 1) (q := 1) (ax_dd KX9_put 2 rfl) rfl rfl ?_
  obtain ⟨v1, b2, h⟩ := ob_bind h
  refine ax_kV (pc := 5) (ci := 0) (k := 25) (As := [.int x1]) (rest := []) (st1 := [.int v1]) (μ1 := μ) (ax_dd KX9_put 3 rfl) (c_X0_isRug hs b2) kV_X9_117 e_X0_isRug (hs 25 _ rfl) cl_X0 (by decide) rfl rfl (by decide) (by decide) (Nat.le_of_ble_eq_true rfl) rfl ?_
  by_cases c3 : v1 = 0
  · rw [if_pos c3] at h
    refine ax_if_ne_f (pc := 8) (tgt := 14) (ax_dd KX9_put 4 rfl) (by decide) (fun z => z c3) ?_
    refine ax_bipush (pc := 11) (v := (-5)) (ax_dd KX9_put 5 rfl) (by decide) ?_
    obtain rfl := Option.some.inj h
    exact ax_ireti (pc := 13) (ax_dd KX9_put 6 rfl) ⟨_, rfl, rfl⟩ rfl
  · rw [if_neg c3] at h
    refine ax_if_ne_t (pc := 8) (tgt := 14) (ax_dd KX9_put 4 rfl) (by decide) c3 ?_
    refine ax_iload_n (pc := 14) (i := 2) (q := 2) (ax_dd KX9_put 7 rfl) rfl rfl ?_
    by_cases c4 : x2 = 0
    · rw [if_pos c4] at h
      refine ax_if_ne_f (pc := 15) (tgt := 54) (ax_dd KX9_put 8 rfl) (by decide) (fun z => z c4) ?_
      refine ax_iload_n (pc := 18) (i := 3) (q := 3) (ax_dd KX9_put 9 rfl) rfl rfl ?_
      obtain ⟨v5, b6, h⟩ := ob_bind h
      refine ax_kS (pc := 19) (As := [.int x3]) (rest := []) (st1 := [.int v5]) (μ1 := μ) (ax_dd KX9_put 10 rfl) (c_X9_areCorners hs b6) kS_X9_127 e_X9_areCorners rfl rfl (by decide) (by decide) (Nat.le_of_ble_eq_true rfl) rfl ?_
      by_cases c7 : v5 = 0
      · rw [if_pos c7] at h
        refine ax_if_eq_t (pc := 22) (tgt := 54) (ax_dd KX9_put 11 rfl) (by decide) c7 ?_
        exact a_X9_put_54 hs h
      · rw [if_neg c7] at h
        refine ax_if_eq_f (pc := 22) (tgt := 54) (ax_dd KX9_put 11 rfl) (by decide) c7 ?_
        refine ax_aload_n (pc := 25) (i := 0) (q := 0) (ax_dd KX9_put 12 rfl) rfl rfl ?_
        refine ax_getR (pc := 26) (k := 0) (q := 25) (ax_dd KX9_put 13 rfl) f_X9_37 (hs 0 _ rfl) rfl ?_
        refine ax_iload_n (pc := 29) (i := 1) (q := 1) (ax_dd KX9_put 14 rfl) rfl rfl ?_
        obtain ⟨v8, b9, h⟩ := ob_bind h
        refine ax_kV (pc := 30) (ci := 0) (k := 25) (As := [.int x1]) (rest := []) (st1 := [.int v8]) (μ1 := μ) (ax_dd KX9_put 15 rfl) (c_X0_corners hs b9) kV_X9_133 e_X0_corners (hs 25 _ rfl) cl_X0 (by decide) rfl rfl (by decide) (by decide) (Nat.le_of_ble_eq_true rfl) rfl ?_
        refine ax_istore (pc := 33) (lv' := [(4, .int v8), (0, .ref (G.1 + 0)), (1, .int x1), (2, .int x2), (3, .int x3)]) (ax_dd KX9_put 16 rfl) (by decide) rfl ?_
        refine ax_aload_n (pc := 35) (i := 0) (q := 1) (ax_dd KX9_put 17 rfl) rfl rfl ?_
        refine ax_getR (pc := 36) (k := 0) (q := 25) (ax_dd KX9_put 18 rfl) f_X9_37 (hs 0 _ rfl) rfl ?_
        refine ax_iload_n (pc := 39) (i := 1) (q := 2) (ax_dd KX9_put 19 rfl) rfl rfl ?_
        refine ax_iload_n (pc := 40) (i := 3) (q := 4) (ax_dd KX9_put 20 rfl) rfl rfl ?_
        refine ax_bipush (pc := 41) (v := 100) (ax_dd KX9_put 21 rfl) (by decide) ?_
        refine ax_idiv (pc := 43) (ax_dd KX9_put 22 rfl) (by decide) ?_
        refine ax_iload_n (pc := 44) (i := 3) (q := 4) (ax_dd KX9_put 23 rfl) rfl rfl ?_
        refine ax_bipush (pc := 45) (v := 100) (ax_dd KX9_put 24 rfl) (by decide) ?_
        refine ax_irem (pc := 47) (ax_dd KX9_put 25 rfl) (by decide) ?_
        obtain ⟨μ12, b11, h⟩ := ob_bind h
        refine ax_kV (pc := 48) (ci := 0) (k := 25) (As := [.int x1, .int (x3 / 100), .int (rmI x3 100)]) (rest := []) (st1 := []) (μ1 := μ12) (ax_dd KX9_put 26 rfl) (c_X0_lay hs b11) kV_X9_137 e_X0_lay (hs 25 _ rfl) cl_X0 (by decide) rfl rfl (by decide) (by decide) (Nat.le_of_ble_eq_true rfl) rfl ?_
        refine ax_iload (pc := 51) (q := 0) (ax_dd KX9_put 27 rfl) rfl ?_
        obtain rfl := Option.some.inj h
        exact ax_ireti (pc := 53) (ax_dd KX9_put 28 rfl) ⟨_, rfl, rfl⟩ rfl
    · rw [if_neg c4] at h
      refine ax_if_ne_t (pc := 15) (tgt := 54) (ax_dd KX9_put 8 rfl) (by decide) c4 ?_
      exact a_X9_put_54 hs h
def m_X9_told (x1 : Int32) (x2 : Int32) (μ : ax_M) : Option (Int32 × ax_M) :=
  (m_X0_isRug x1 μ).bind fun v1 =>
  if v1 = 0 then
    some ((-5), μ)
  else
    if x2 = 0 then
      (m_X0_corners x1 μ).bind fun v5 =>
      some (v5, μ)
    else
      if x2 = 1 then
        (ix 6 x1).bind fun j8 =>
        some ((μ 31 j8), μ)
      else
        if x2 = 2 then
          (ix 6 x1).bind fun j11 =>
          some ((μ 26 j11), μ)
        else
          if x2 = 3 then
            (ix 6 x1).bind fun j14 =>
            some ((μ 27 j14), μ)
          else
            if x2 = 4 then
              (ix 6 x1).bind fun j17 =>
              some ((μ 30 j17), μ)
            else
              if x2 = 5 then
                bind2 (m_X0_ruledNow x1 μ) fun v20 μ22 =>
                some (v20, μ22)
              else
                if x2 = 6 then
                  bind2 (m_X0_isAsleep x1 (μ 25 2) μ) fun v24 μ26 =>
                  if v24 = 0 then
                    some (0, μ26)
                  else
                    some (1, μ26)
                else
                  some ((-7), μ)
set_option maxRecDepth 100000 in
set_option maxHeartbeats 8000000 in
theorem c_X9_told {G : ax_G} {l : Launch} {sh : List ax_E} {x1 : Int32} {x2 : Int32} {μ : ax_M} (hs : ∀ (k : Nat) (e : ax_E), SHc[k]? = some e → sh[k]? = some e) {v : Int32 × ax_M} (h : m_X9_told x1 x2 μ = some v) : ax_A G l yX9_told cX9_told 3 (some .int) 8 [.ref (G.1 + 0), .int x1, .int x2] sh μ (some (.int v.1), sh, v.2) := by
  refine ax_A.of false (by decide +kernel) (fun h9 => by cases h9) (Nat.le_of_ble_eq_true rfl) (?_ : ax_X G l RX9 cX9_told 3 (some .int) false 8 (some (.int v.1), sh, v.2) 0 [(0, .ref (G.1 + 0)), (1, .int x1), (2, .int x2)] [] sh μ)
  unfold m_X9_told at h
  refine ax_aload_n (pc := 0) (i := 0) (q := 0) (ax_dd KX9_told 0 rfl) rfl rfl ?_
  refine ax_getR (pc := 1) (k := 0) (q := 25) (ax_dd KX9_told 1 rfl) f_X9_37 (hs 0 _ rfl) rfl ?_
  refine ax_iload_n (pc := 4) (i := 1) (q := 1) (ax_dd KX9_told 2 rfl) rfl rfl ?_
  obtain ⟨v1, b2, h⟩ := ob_bind h
  refine ax_kV (pc := 5) (ci := 0) (k := 25) (As := [.int x1]) (rest := []) (st1 := [.int v1]) (μ1 := μ) (ax_dd KX9_told 3 rfl) (c_X0_isRug hs b2) kV_X9_117 e_X0_isRug (hs 25 _ rfl) cl_X0 (by decide) rfl rfl (by decide) (by decide) (Nat.le_of_ble_eq_true rfl) rfl ?_
  by_cases c3 : v1 = 0
  · rw [if_pos c3] at h
    refine ax_if_ne_f (pc := 8) (tgt := 14) (ax_dd KX9_told 4 rfl) (by decide) (fun z => z c3) ?_
    refine ax_bipush (pc := 11) (v := (-5)) (ax_dd KX9_told 5 rfl) (by decide) ?_
    obtain rfl := Option.some.inj h
    exact ax_ireti (pc := 13) (ax_dd KX9_told 6 rfl) ⟨_, rfl, rfl⟩ rfl
  · rw [if_neg c3] at h
    refine ax_if_ne_t (pc := 8) (tgt := 14) (ax_dd KX9_told 4 rfl) (by decide) c3 ?_
    refine ax_iload_n (pc := 14) (i := 2) (q := 2) (ax_dd KX9_told 7 rfl) rfl rfl ?_
    by_cases c4 : x2 = 0
    · rw [if_pos c4] at h
      refine ax_tab (pc := 15) (off := 41) (tgt := 56) (ax_dd KX9_told 8 rfl) (by rw [c4]; decide) (by rw [c4]; decide) (by rw [c4]; rfl) (by decide) ?_
      refine ax_aload_n (pc := 56) (i := 0) (q := 0) (ax_dd KX9_told 9 rfl) rfl rfl ?_
      refine ax_getR (pc := 57) (k := 0) (q := 25) (ax_dd KX9_told 10 rfl) f_X9_37 (hs 0 _ rfl) rfl ?_
      refine ax_iload_n (pc := 60) (i := 1) (q := 1) (ax_dd KX9_told 11 rfl) rfl rfl ?_
      obtain ⟨v5, b6, h⟩ := ob_bind h
      refine ax_kV (pc := 61) (ci := 0) (k := 25) (As := [.int x1]) (rest := []) (st1 := [.int v5]) (μ1 := μ) (ax_dd KX9_told 12 rfl) (c_X0_corners hs b6) kV_X9_133 e_X0_corners (hs 25 _ rfl) cl_X0 (by decide) rfl rfl (by decide) (by decide) (Nat.le_of_ble_eq_true rfl) rfl ?_
      obtain rfl := Option.some.inj h
      exact ax_ireti (pc := 64) (ax_dd KX9_told 13 rfl) ⟨_, rfl, rfl⟩ rfl
    · rw [if_neg c4] at h
      by_cases c7 : x2 = 1
      · rw [if_pos c7] at h
        refine ax_tab (pc := 15) (off := 50) (tgt := 65) (ax_dd KX9_told 8 rfl) (by rw [c7]; decide) (by rw [c7]; decide) (by rw [c7]; rfl) (by decide) ?_
        refine ax_aload_n (pc := 65) (i := 0) (q := 0) (ax_dd KX9_told 14 rfl) rfl rfl ?_
        refine ax_getR (pc := 66) (k := 0) (q := 25) (ax_dd KX9_told 15 rfl) f_X9_37 (hs 0 _ rfl) rfl ?_
        refine ax_getR (pc := 69) (k := 25) (q := 31) (ax_dd KX9_told 16 rfl) f_X9_141 (hs 25 _ rfl) rfl ?_
        refine ax_iload_n (pc := 72) (i := 1) (q := 1) (ax_dd KX9_told 17 rfl) rfl rfl ?_
        obtain ⟨j8, b9, h⟩ := ob_bind h
        refine ax_ild (pc := 73) (k := 31) (N := 6) (j := j8) (ax_dd KX9_told 18 rfl) (hs 31 _ rfl) b9 ?_
        obtain rfl := Option.some.inj h
        exact ax_ireti (pc := 74) (ax_dd KX9_told 19 rfl) ⟨_, rfl, rfl⟩ rfl
      · rw [if_neg c7] at h
        by_cases c10 : x2 = 2
        · rw [if_pos c10] at h
          refine ax_tab (pc := 15) (off := 60) (tgt := 75) (ax_dd KX9_told 8 rfl) (by rw [c10]; decide) (by rw [c10]; decide) (by rw [c10]; rfl) (by decide) ?_
          refine ax_aload_n (pc := 75) (i := 0) (q := 0) (ax_dd KX9_told 20 rfl) rfl rfl ?_
          refine ax_getR (pc := 76) (k := 0) (q := 25) (ax_dd KX9_told 21 rfl) f_X9_37 (hs 0 _ rfl) rfl ?_
          refine ax_getR (pc := 79) (k := 25) (q := 26) (ax_dd KX9_told 22 rfl) f_X9_145 (hs 25 _ rfl) rfl ?_
          refine ax_iload_n (pc := 82) (i := 1) (q := 1) (ax_dd KX9_told 23 rfl) rfl rfl ?_
          obtain ⟨j11, b12, h⟩ := ob_bind h
          refine ax_ild (pc := 83) (k := 26) (N := 6) (j := j11) (ax_dd KX9_told 24 rfl) (hs 26 _ rfl) b12 ?_
          obtain rfl := Option.some.inj h
          exact ax_ireti (pc := 84) (ax_dd KX9_told 25 rfl) ⟨_, rfl, rfl⟩ rfl
        · rw [if_neg c10] at h
          by_cases c13 : x2 = 3
          · rw [if_pos c13] at h
            refine ax_tab (pc := 15) (off := 70) (tgt := 85) (ax_dd KX9_told 8 rfl) (by rw [c13]; decide) (by rw [c13]; decide) (by rw [c13]; rfl) (by decide) ?_
            refine ax_aload_n (pc := 85) (i := 0) (q := 0) (ax_dd KX9_told 26 rfl) rfl rfl ?_
            refine ax_getR (pc := 86) (k := 0) (q := 25) (ax_dd KX9_told 27 rfl) f_X9_37 (hs 0 _ rfl) rfl ?_
            refine ax_getR (pc := 89) (k := 25) (q := 27) (ax_dd KX9_told 28 rfl) f_X9_148 (hs 25 _ rfl) rfl ?_
            refine ax_iload_n (pc := 92) (i := 1) (q := 1) (ax_dd KX9_told 29 rfl) rfl rfl ?_
            obtain ⟨j14, b15, h⟩ := ob_bind h
            refine ax_ild (pc := 93) (k := 27) (N := 6) (j := j14) (ax_dd KX9_told 30 rfl) (hs 27 _ rfl) b15 ?_
            obtain rfl := Option.some.inj h
            exact ax_ireti (pc := 94) (ax_dd KX9_told 31 rfl) ⟨_, rfl, rfl⟩ rfl
          · rw [if_neg c13] at h
            by_cases c16 : x2 = 4
            · rw [if_pos c16] at h
              refine ax_tab (pc := 15) (off := 80) (tgt := 95) (ax_dd KX9_told 8 rfl) (by rw [c16]; decide) (by rw [c16]; decide) (by rw [c16]; rfl) (by decide) ?_
              refine ax_aload_n (pc := 95) (i := 0) (q := 0) (ax_dd KX9_told 32 rfl) rfl rfl ?_
              refine ax_getR (pc := 96) (k := 0) (q := 25) (ax_dd KX9_told 33 rfl) f_X9_37 (hs 0 _ rfl) rfl ?_
              refine ax_getR (pc := 99) (k := 25) (q := 30) (ax_dd KX9_told 34 rfl) f_X9_151 (hs 25 _ rfl) rfl ?_
              refine ax_iload_n (pc := 102) (i := 1) (q := 1) (ax_dd KX9_told 35 rfl) rfl rfl ?_
              obtain ⟨j17, b18, h⟩ := ob_bind h
              refine ax_ild (pc := 103) (k := 30) (N := 6) (j := j17) (ax_dd KX9_told 36 rfl) (hs 30 _ rfl) b18 ?_
              obtain rfl := Option.some.inj h
              exact ax_ireti (pc := 104) (ax_dd KX9_told 37 rfl) ⟨_, rfl, rfl⟩ rfl
            · rw [if_neg c16] at h
              by_cases c19 : x2 = 5
              · rw [if_pos c19] at h
                refine ax_tab (pc := 15) (off := 90) (tgt := 105) (ax_dd KX9_told 8 rfl) (by rw [c19]; decide) (by rw [c19]; decide) (by rw [c19]; rfl) (by decide) ?_
                refine ax_aload_n (pc := 105) (i := 0) (q := 0) (ax_dd KX9_told 38 rfl) rfl rfl ?_
                refine ax_getR (pc := 106) (k := 0) (q := 25) (ax_dd KX9_told 39 rfl) f_X9_37 (hs 0 _ rfl) rfl ?_
                refine ax_iload_n (pc := 109) (i := 1) (q := 1) (ax_dd KX9_told 40 rfl) rfl rfl ?_
                obtain ⟨v20, μ22, b21, h⟩ := ob_bind2 h
                refine ax_kV (pc := 110) (ci := 0) (k := 25) (As := [.int x1]) (rest := []) (st1 := [.int v20]) (μ1 := μ22) (ax_dd KX9_told 41 rfl) (c_X0_ruledNow hs b21) kV_X9_153 e_X0_ruledNow (hs 25 _ rfl) cl_X0 (by decide) rfl rfl (by decide) (by decide) (Nat.le_of_ble_eq_true rfl) rfl ?_
                obtain rfl := Option.some.inj h
                exact ax_ireti (pc := 113) (ax_dd KX9_told 42 rfl) ⟨_, rfl, rfl⟩ rfl
              · rw [if_neg c19] at h
                by_cases c23 : x2 = 6
                · rw [if_pos c23] at h
                  refine ax_tab (pc := 15) (off := 99) (tgt := 114) (ax_dd KX9_told 8 rfl) (by rw [c23]; decide) (by rw [c23]; decide) (by rw [c23]; rfl) (by decide) ?_
                  refine ax_aload_n (pc := 114) (i := 0) (q := 0) (ax_dd KX9_told 43 rfl) rfl rfl ?_
                  refine ax_getR (pc := 115) (k := 0) (q := 25) (ax_dd KX9_told 44 rfl) f_X9_37 (hs 0 _ rfl) rfl ?_
                  refine ax_iload_n (pc := 118) (i := 1) (q := 1) (ax_dd KX9_told 45 rfl) rfl rfl ?_
                  refine ax_aload_n (pc := 119) (i := 0) (q := 0) (ax_dd KX9_told 46 rfl) rfl rfl ?_
                  refine ax_getR (pc := 120) (k := 0) (q := 25) (ax_dd KX9_told 47 rfl) f_X9_37 (hs 0 _ rfl) rfl ?_
                  refine ax_getI (pc := 123) (k := 25) (ax_dd KX9_told 48 rfl) f_X9_101 (hs 25 _ rfl) rfl ?_
                  obtain ⟨v24, μ26, b25, h⟩ := ob_bind2 h
                  refine ax_kV (pc := 126) (ci := 0) (k := 25) (As := [.int x1, .int (μ 25 2)]) (rest := []) (st1 := [.int v24]) (μ1 := μ26) (ax_dd KX9_told 49 rfl) (c_X0_isAsleep hs b25) kV_X9_156 e_X0_isAsleep (hs 25 _ rfl) cl_X0 (by decide) rfl rfl (by decide) (by decide) (Nat.le_of_ble_eq_true rfl) rfl ?_
                  by_cases c27 : v24 = 0
                  · rw [if_pos c27] at h
                    refine ax_if_eq_t (pc := 129) (tgt := 136) (ax_dd KX9_told 50 rfl) (by decide) c27 ?_
                    refine ax_iconst (pc := 136) (v := 0) (ax_dd KX9_told 53 rfl) (by decide) ?_
                    obtain rfl := Option.some.inj h
                    exact ax_ireti (pc := 137) (ax_dd KX9_told 54 rfl) ⟨_, rfl, rfl⟩ rfl
                  · rw [if_neg c27] at h
                    refine ax_if_eq_f (pc := 129) (tgt := 136) (ax_dd KX9_told 50 rfl) (by decide) c27 ?_
                    refine ax_iconst (pc := 132) (v := 1) (ax_dd KX9_told 51 rfl) (by decide) ?_
                    refine ax_goto (pc := 133) (tgt := 137) (ax_dd KX9_told 52 rfl) (by decide) ?_
                    obtain rfl := Option.some.inj h
                    exact ax_ireti (pc := 137) (ax_dd KX9_told 54 rfl) ⟨_, rfl, rfl⟩ rfl
                · rw [if_neg c23] at h
                  refine ax_tabD (pc := 15) (tgt := 138) (ax_dd KX9_told 8 rfl) (by have e0 := ax_ne c4 (a := 0) rfl; have e1 := ax_ne c7 (a := 1) rfl; have e2 := ax_ne c10 (a := 2) rfl; have e3 := ax_ne c13 (a := 3) rfl; have e4 := ax_ne c16 (a := 4) rfl; have e5 := ax_ne c19 (a := 5) rfl; have e6 := ax_ne c23 (a := 6) rfl; omega) (by decide) ?_
                  refine ax_bipush (pc := 138) (v := (-7)) (ax_dd KX9_told 55 rfl) (by decide) ?_
                  obtain rfl := Option.some.inj h
                  exact ax_ireti (pc := 140) (ax_dd KX9_told 56 rfl) ⟨_, rfl, rfl⟩ rfl
def m_X9_over (x1 : Int32) (x2 : Int32) (μ : ax_M) : Option (Int32 × ax_M) :=
  (m_X9_isCell x1 μ).bind fun v1 =>
  if v1 = 0 then
    some ((-5), μ)
  else
    (m_X0_look μ).bind fun μ6 =>
    if x2 = 0 then
      (ix 36 x1).bind fun j8 =>
      some ((μ6 32 j8), μ6)
    else
      if x2 = 1 then
        (ix 36 x1).bind fun j11 =>
        some ((μ6 33 j11), μ6)
      else
        if x2 = 2 then
          bind2 (m_X0_letsOn x1 μ6) fun v14 μ16 =>
          if v14 = 0 then
            some (0, μ16)
          else
            some (1, μ16)
        else
          if x2 = 3 then
            (m_X0_layers x1 μ6).bind fun v19 =>
            some (v19, μ6)
          else
            some ((-7), μ6)
set_option maxRecDepth 100000 in
set_option maxHeartbeats 8000000 in
theorem c_X9_over {G : ax_G} {l : Launch} {sh : List ax_E} {x1 : Int32} {x2 : Int32} {μ : ax_M} (hs : ∀ (k : Nat) (e : ax_E), SHc[k]? = some e → sh[k]? = some e) {v : Int32 × ax_M} (h : m_X9_over x1 x2 μ = some v) : ax_A G l yX9_over cX9_over 3 (some .int) 8 [.ref (G.1 + 0), .int x1, .int x2] sh μ (some (.int v.1), sh, v.2) := by
  refine ax_A.of false (by decide +kernel) (fun h9 => by cases h9) (Nat.le_of_ble_eq_true rfl) (?_ : ax_X G l RX9 cX9_over 3 (some .int) false 8 (some (.int v.1), sh, v.2) 0 [(0, .ref (G.1 + 0)), (1, .int x1), (2, .int x2)] [] sh μ)
  unfold m_X9_over at h
  refine ax_iload_n (pc := 0) (i := 1) (q := 1) (ax_dd KX9_over 0 rfl) rfl rfl ?_
  obtain ⟨v1, b2, h⟩ := ob_bind h
  refine ax_kS (pc := 1) (As := [.int x1]) (rest := []) (st1 := [.int v1]) (μ1 := μ) (ax_dd KX9_over 1 rfl) (c_X9_isCell hs b2) kS_X9_120 e_X9_isCell rfl rfl (by decide) (by decide) (Nat.le_of_ble_eq_true rfl) rfl ?_
  by_cases c3 : v1 = 0
  · rw [if_pos c3] at h
    refine ax_if_ne_f (pc := 4) (tgt := 10) (ax_dd KX9_over 2 rfl) (by decide) (fun z => z c3) ?_
    refine ax_bipush (pc := 7) (v := (-5)) (ax_dd KX9_over 3 rfl) (by decide) ?_
    obtain rfl := Option.some.inj h
    exact ax_ireti (pc := 9) (ax_dd KX9_over 4 rfl) ⟨_, rfl, rfl⟩ rfl
  · rw [if_neg c3] at h
    refine ax_if_ne_t (pc := 4) (tgt := 10) (ax_dd KX9_over 2 rfl) (by decide) c3 ?_
    refine ax_aload_n (pc := 10) (i := 0) (q := 0) (ax_dd KX9_over 5 rfl) rfl rfl ?_
    refine ax_getR (pc := 11) (k := 0) (q := 25) (ax_dd KX9_over 6 rfl) f_X9_37 (hs 0 _ rfl) rfl ?_
    obtain ⟨μ6, b5, h⟩ := ob_bind h
    refine ax_kV (pc := 14) (ci := 0) (k := 25) (As := []) (rest := []) (st1 := []) (μ1 := μ6) (ax_dd KX9_over 7 rfl) (c_X0_look hs b5) kV_X9_160 e_X0_look (hs 25 _ rfl) cl_X0 (by decide) rfl rfl (by decide) (by decide) (Nat.le_of_ble_eq_true rfl) rfl ?_
    refine ax_iload_n (pc := 17) (i := 2) (q := 2) (ax_dd KX9_over 8 rfl) rfl rfl ?_
    by_cases c7 : x2 = 0
    · rw [if_pos c7] at h
      refine ax_tab (pc := 18) (off := 30) (tgt := 48) (ax_dd KX9_over 9 rfl) (by rw [c7]; decide) (by rw [c7]; decide) (by rw [c7]; rfl) (by decide) ?_
      refine ax_aload_n (pc := 48) (i := 0) (q := 0) (ax_dd KX9_over 10 rfl) rfl rfl ?_
      refine ax_getR (pc := 49) (k := 0) (q := 25) (ax_dd KX9_over 11 rfl) f_X9_37 (hs 0 _ rfl) rfl ?_
      refine ax_getR (pc := 52) (k := 25) (q := 32) (ax_dd KX9_over 12 rfl) f_X9_163 (hs 25 _ rfl) rfl ?_
      refine ax_iload_n (pc := 55) (i := 1) (q := 1) (ax_dd KX9_over 13 rfl) rfl rfl ?_
      obtain ⟨j8, b9, h⟩ := ob_bind h
      refine ax_ild (pc := 56) (k := 32) (N := 36) (j := j8) (ax_dd KX9_over 14 rfl) (hs 32 _ rfl) b9 ?_
      obtain rfl := Option.some.inj h
      exact ax_ireti (pc := 57) (ax_dd KX9_over 15 rfl) ⟨_, rfl, rfl⟩ rfl
    · rw [if_neg c7] at h
      by_cases c10 : x2 = 1
      · rw [if_pos c10] at h
        refine ax_tab (pc := 18) (off := 40) (tgt := 58) (ax_dd KX9_over 9 rfl) (by rw [c10]; decide) (by rw [c10]; decide) (by rw [c10]; rfl) (by decide) ?_
        refine ax_aload_n (pc := 58) (i := 0) (q := 0) (ax_dd KX9_over 16 rfl) rfl rfl ?_
        refine ax_getR (pc := 59) (k := 0) (q := 25) (ax_dd KX9_over 17 rfl) f_X9_37 (hs 0 _ rfl) rfl ?_
        refine ax_getR (pc := 62) (k := 25) (q := 33) (ax_dd KX9_over 18 rfl) f_X9_166 (hs 25 _ rfl) rfl ?_
        refine ax_iload_n (pc := 65) (i := 1) (q := 1) (ax_dd KX9_over 19 rfl) rfl rfl ?_
        obtain ⟨j11, b12, h⟩ := ob_bind h
        refine ax_ild (pc := 66) (k := 33) (N := 36) (j := j11) (ax_dd KX9_over 20 rfl) (hs 33 _ rfl) b12 ?_
        obtain rfl := Option.some.inj h
        exact ax_ireti (pc := 67) (ax_dd KX9_over 21 rfl) ⟨_, rfl, rfl⟩ rfl
      · rw [if_neg c10] at h
        by_cases c13 : x2 = 2
        · rw [if_pos c13] at h
          refine ax_tab (pc := 18) (off := 50) (tgt := 68) (ax_dd KX9_over 9 rfl) (by rw [c13]; decide) (by rw [c13]; decide) (by rw [c13]; rfl) (by decide) ?_
          refine ax_aload_n (pc := 68) (i := 0) (q := 0) (ax_dd KX9_over 22 rfl) rfl rfl ?_
          refine ax_getR (pc := 69) (k := 0) (q := 25) (ax_dd KX9_over 23 rfl) f_X9_37 (hs 0 _ rfl) rfl ?_
          refine ax_iload_n (pc := 72) (i := 1) (q := 1) (ax_dd KX9_over 24 rfl) rfl rfl ?_
          obtain ⟨v14, μ16, b15, h⟩ := ob_bind2 h
          refine ax_kV (pc := 73) (ci := 0) (k := 25) (As := [.int x1]) (rest := []) (st1 := [.int v14]) (μ1 := μ16) (ax_dd KX9_over 25 rfl) (c_X0_letsOn hs b15) kV_X9_169 e_X0_letsOn (hs 25 _ rfl) cl_X0 (by decide) rfl rfl (by decide) (by decide) (Nat.le_of_ble_eq_true rfl) rfl ?_
          by_cases c17 : v14 = 0
          · rw [if_pos c17] at h
            refine ax_if_eq_t (pc := 76) (tgt := 83) (ax_dd KX9_over 26 rfl) (by decide) c17 ?_
            refine ax_iconst (pc := 83) (v := 0) (ax_dd KX9_over 29 rfl) (by decide) ?_
            obtain rfl := Option.some.inj h
            exact ax_ireti (pc := 84) (ax_dd KX9_over 30 rfl) ⟨_, rfl, rfl⟩ rfl
          · rw [if_neg c17] at h
            refine ax_if_eq_f (pc := 76) (tgt := 83) (ax_dd KX9_over 26 rfl) (by decide) c17 ?_
            refine ax_iconst (pc := 79) (v := 1) (ax_dd KX9_over 27 rfl) (by decide) ?_
            refine ax_goto (pc := 80) (tgt := 84) (ax_dd KX9_over 28 rfl) (by decide) ?_
            obtain rfl := Option.some.inj h
            exact ax_ireti (pc := 84) (ax_dd KX9_over 30 rfl) ⟨_, rfl, rfl⟩ rfl
        · rw [if_neg c13] at h
          by_cases c18 : x2 = 3
          · rw [if_pos c18] at h
            refine ax_tab (pc := 18) (off := 67) (tgt := 85) (ax_dd KX9_over 9 rfl) (by rw [c18]; decide) (by rw [c18]; decide) (by rw [c18]; rfl) (by decide) ?_
            refine ax_aload_n (pc := 85) (i := 0) (q := 0) (ax_dd KX9_over 31 rfl) rfl rfl ?_
            refine ax_getR (pc := 86) (k := 0) (q := 25) (ax_dd KX9_over 32 rfl) f_X9_37 (hs 0 _ rfl) rfl ?_
            refine ax_iload_n (pc := 89) (i := 1) (q := 1) (ax_dd KX9_over 33 rfl) rfl rfl ?_
            obtain ⟨v19, b20, h⟩ := ob_bind h
            refine ax_kV (pc := 90) (ci := 0) (k := 25) (As := [.int x1]) (rest := []) (st1 := [.int v19]) (μ1 := μ6) (ax_dd KX9_over 34 rfl) (c_X0_layers hs b20) kV_X9_172 e_X0_layers (hs 25 _ rfl) cl_X0 (by decide) rfl rfl (by decide) (by decide) (Nat.le_of_ble_eq_true rfl) rfl ?_
            obtain rfl := Option.some.inj h
            exact ax_ireti (pc := 93) (ax_dd KX9_over 35 rfl) ⟨_, rfl, rfl⟩ rfl
          · rw [if_neg c18] at h
            refine ax_tabD (pc := 18) (tgt := 94) (ax_dd KX9_over 9 rfl) (by have e0 := ax_ne c7 (a := 0) rfl; have e1 := ax_ne c10 (a := 1) rfl; have e2 := ax_ne c13 (a := 2) rfl; have e3 := ax_ne c18 (a := 3) rfl; omega) (by decide) ?_
            refine ax_bipush (pc := 94) (v := (-7)) (ax_dd KX9_over 36 rfl) (by decide) ?_
            obtain rfl := Option.some.inj h
            exact ax_ireti (pc := 96) (ax_dd KX9_over 37 rfl) ⟨_, rfl, rfl⟩ rfl
def m_X9_rules_20 (x1 : Int32) (μ : ax_M) : Option (Int64 × ax_M) :=
  (m_X0_findRulers μ).bind fun μ3 =>
  (m_X0_realm x1 μ3).bind fun v4 =>
  some (v4, μ3)
set_option maxRecDepth 100000 in
set_option maxHeartbeats 8000000 in
theorem a_X9_rules_20 {G : ax_G} {l : Launch} {sh : List ax_E} {x1 : Int32} {μ : ax_M} (hs : ∀ (k : Nat) (e : ax_E), SHc[k]? = some e → sh[k]? = some e) {v : Int64 × ax_M} (h : m_X9_rules_20 x1 μ = some v) : ax_X G l RX9 cX9_rules 2 (some .long) false 7 (some (.long v.1), sh, v.2) 20 [(0, .ref (G.1 + 0)), (1, .int x1)] [] sh μ := by
  unfold m_X9_rules_20 at h
  refine ax_aload_n (pc := 20) (i := 0) (q := 0) (ax_dd KX9_rules 10 rfl) rfl rfl ?_
  refine ax_getR (pc := 21) (k := 0) (q := 25) (ax_dd KX9_rules 11 rfl) f_X9_37 (hs 0 _ rfl) rfl ?_
  obtain ⟨μ3, b2, h⟩ := ob_bind h
  refine ax_kV (pc := 24) (ci := 0) (k := 25) (As := []) (rest := []) (st1 := []) (μ1 := μ3) (ax_dd KX9_rules 12 rfl) (c_X0_findRulers hs b2) kV_X9_177 e_X0_findRulers (hs 25 _ rfl) cl_X0 (by decide) rfl rfl (by decide) (by decide) (Nat.le_of_ble_eq_true rfl) rfl ?_
  refine ax_aload_n (pc := 27) (i := 0) (q := 0) (ax_dd KX9_rules 13 rfl) rfl rfl ?_
  refine ax_getR (pc := 28) (k := 0) (q := 25) (ax_dd KX9_rules 14 rfl) f_X9_37 (hs 0 _ rfl) rfl ?_
  refine ax_iload_n (pc := 31) (i := 1) (q := 1) (ax_dd KX9_rules 15 rfl) rfl rfl ?_
  obtain ⟨v4, b5, h⟩ := ob_bind h
  refine ax_kV (pc := 32) (ci := 0) (k := 25) (As := [.int x1]) (rest := []) (st1 := [.long v4]) (μ1 := μ3) (ax_dd KX9_rules 16 rfl) (c_X0_realm hs b5) kV_X9_180 e_X0_realm (hs 25 _ rfl) cl_X0 (by decide) rfl rfl (by decide) (by decide) (Nat.le_of_ble_eq_true rfl) rfl ?_
  obtain rfl := Option.some.inj h
  exact ax_lret (pc := 35) (ax_dd KX9_rules 17 rfl) rfl rfl
def m_X9_rules (x1 : Int32) (μ : ax_M) : Option (Int64 × ax_M) :=
  if x1 = (-1) then
    m_X9_rules_20 x1 μ
  else
    (m_X0_isRug x1 μ).bind fun v2 =>
    if v2 = 0 then
      some ((-4611686018427387904), μ)
    else
      m_X9_rules_20 x1 μ
set_option maxRecDepth 100000 in
set_option maxHeartbeats 8000000 in
theorem c_X9_rules {G : ax_G} {l : Launch} {sh : List ax_E} {x1 : Int32} {μ : ax_M} (hs : ∀ (k : Nat) (e : ax_E), SHc[k]? = some e → sh[k]? = some e) {v : Int64 × ax_M} (h : m_X9_rules x1 μ = some v) : ax_A G l yX9_rules cX9_rules 2 (some .long) 7 [.ref (G.1 + 0), .int x1] sh μ (some (.long v.1), sh, v.2) := by
  refine ax_A.of false (by decide +kernel) (fun h9 => by cases h9) (Nat.le_of_ble_eq_true rfl) (?_ : ax_X G l RX9 cX9_rules 2 (some .long) false 7 (some (.long v.1), sh, v.2) 0 [(0, .ref (G.1 + 0)), (1, .int x1)] [] sh μ)
  unfold m_X9_rules at h
  refine ax_iload_n (pc := 0) (i := 1) (q := 1) (ax_dd KX9_rules 0 rfl) rfl rfl ?_
  refine ax_iconst (pc := 1) (v := (-1)) (ax_dd KX9_rules 1 rfl) (by decide) ?_
  by_cases c1 : x1 = (-1)
  · rw [if_pos c1] at h
    refine ax_icmp_eq_t (pc := 2) (tgt := 20) (ax_dd KX9_rules 2 rfl) (by decide) c1 ?_
    exact a_X9_rules_20 hs h
  · rw [if_neg c1] at h
    refine ax_icmp_eq_f (pc := 2) (tgt := 20) (ax_dd KX9_rules 2 rfl) (by decide) c1 ?_
    refine ax_aload_n (pc := 5) (i := 0) (q := 0) (ax_dd KX9_rules 3 rfl) rfl rfl ?_
    refine ax_getR (pc := 6) (k := 0) (q := 25) (ax_dd KX9_rules 4 rfl) f_X9_37 (hs 0 _ rfl) rfl ?_
    refine ax_iload_n (pc := 9) (i := 1) (q := 1) (ax_dd KX9_rules 5 rfl) rfl rfl ?_
    obtain ⟨v2, b3, h⟩ := ob_bind h
    refine ax_kV (pc := 10) (ci := 0) (k := 25) (As := [.int x1]) (rest := []) (st1 := [.int v2]) (μ1 := μ) (ax_dd KX9_rules 6 rfl) (c_X0_isRug hs b3) kV_X9_117 e_X0_isRug (hs 25 _ rfl) cl_X0 (by decide) rfl rfl (by decide) (by decide) (Nat.le_of_ble_eq_true rfl) rfl ?_
    by_cases c4 : v2 = 0
    · rw [if_pos c4] at h
      refine ax_if_ne_f (pc := 13) (tgt := 20) (ax_dd KX9_rules 7 rfl) (by decide) (fun z => z c4) ?_
      refine ax_ldc2 (pc := 16) (ax_dd KX9_rules 8 rfl) c_X9_175 ?_
      obtain rfl := Option.some.inj h
      exact ax_lret (pc := 19) (ax_dd KX9_rules 9 rfl) rfl rfl
    · rw [if_neg c4] at h
      refine ax_if_ne_t (pc := 13) (tgt := 20) (ax_dd KX9_rules 7 rfl) (by decide) c4 ?_
      exact a_X9_rules_20 hs h
def m_X9_areBeside (x0 : Int32) (x1 : Int32) (μ : ax_M) : Option (Int32) :=
  (m_X9_columnOf x0 μ).bind fun v1 =>
  (m_X9_columnOf x1 μ).bind fun v3 =>
  (m_X9_rowOf x0 μ).bind fun v5 =>
  (m_X9_rowOf x1 μ).bind fun v7 =>
  if ((abI (v1 - v3)) + (abI (v5 - v7))) = 1 then
    some 1
  else
    some 0
set_option maxRecDepth 100000 in
set_option maxHeartbeats 8000000 in
theorem c_X9_areBeside {G : ax_G} {l : Launch} {sh : List ax_E} {x0 : Int32} {x1 : Int32} {μ : ax_M} (hs : ∀ (k : Nat) (e : ax_E), SHc[k]? = some e → sh[k]? = some e) {v : Int32} (h : m_X9_areBeside x0 x1 μ = some v) : ax_A G l yX9_areBeside cX9_areBeside 4 (some .boolean) 3 [.int x0, .int x1] sh μ (some (.int v), sh, μ) := by
  refine ax_A.of false (by decide +kernel) (fun h9 => by cases h9) (Nat.le_of_ble_eq_true rfl) (?_ : ax_X G l RX9 cX9_areBeside 4 (some .boolean) false 3 (some (.int v), sh, μ) 0 [(0, .int x0), (1, .int x1)] [] sh μ)
  unfold m_X9_areBeside at h
  refine ax_iload_n (pc := 0) (i := 0) (q := 0) (ax_dd KX9_areBeside 0 rfl) rfl rfl ?_
  obtain ⟨v1, b2, h⟩ := ob_bind h
  refine ax_kS (pc := 1) (As := [.int x0]) (rest := []) (st1 := [.int v1]) (μ1 := μ) (ax_dd KX9_areBeside 1 rfl) (c_X9_columnOf hs b2) kS_X9_228 e_X9_columnOf rfl rfl (by decide) (by decide) (Nat.le_of_ble_eq_true rfl) rfl ?_
  refine ax_iload_n (pc := 4) (i := 1) (q := 1) (ax_dd KX9_areBeside 2 rfl) rfl rfl ?_
  obtain ⟨v3, b4, h⟩ := ob_bind h
  refine ax_kS (pc := 5) (As := [.int x1]) (rest := [.int v1]) (st1 := [.int v3, .int v1]) (μ1 := μ) (ax_dd KX9_areBeside 3 rfl) (c_X9_columnOf hs b4) kS_X9_228 e_X9_columnOf rfl rfl (by decide) (by decide) (Nat.le_of_ble_eq_true rfl) rfl ?_
  refine ax_isub (pc := 8) (ax_dd KX9_areBeside 4 rfl) ?_
  refine ax_abs (pc := 9) (ax_dd KX9_areBeside 5 rfl) mt_X9_333 (by decide) (Nat.le_of_ble_eq_true rfl) ?_
  refine ax_istore_n (pc := 12) (i := 2) (lv' := [(2, .int (abI (v1 - v3))), (0, .int x0), (1, .int x1)]) (ax_dd KX9_areBeside 6 rfl) rfl (by decide) rfl ?_
  refine ax_iload_n (pc := 13) (i := 0) (q := 1) (ax_dd KX9_areBeside 7 rfl) rfl rfl ?_
  obtain ⟨v5, b6, h⟩ := ob_bind h
  refine ax_kS (pc := 14) (As := [.int x0]) (rest := []) (st1 := [.int v5]) (μ1 := μ) (ax_dd KX9_areBeside 8 rfl) (c_X9_rowOf hs b6) kS_X9_330 e_X9_rowOf rfl rfl (by decide) (by decide) (Nat.le_of_ble_eq_true rfl) rfl ?_
  refine ax_iload_n (pc := 17) (i := 1) (q := 2) (ax_dd KX9_areBeside 9 rfl) rfl rfl ?_
  obtain ⟨v7, b8, h⟩ := ob_bind h
  refine ax_kS (pc := 18) (As := [.int x1]) (rest := [.int v5]) (st1 := [.int v7, .int v5]) (μ1 := μ) (ax_dd KX9_areBeside 10 rfl) (c_X9_rowOf hs b8) kS_X9_330 e_X9_rowOf rfl rfl (by decide) (by decide) (Nat.le_of_ble_eq_true rfl) rfl ?_
  refine ax_isub (pc := 21) (ax_dd KX9_areBeside 11 rfl) ?_
  refine ax_abs (pc := 22) (ax_dd KX9_areBeside 12 rfl) mt_X9_333 (by decide) (Nat.le_of_ble_eq_true rfl) ?_
  refine ax_istore_n (pc := 25) (i := 3) (lv' := [(3, .int (abI (v5 - v7))), (2, .int (abI (v1 - v3))), (0, .int x0), (1, .int x1)]) (ax_dd KX9_areBeside 13 rfl) rfl (by decide) rfl ?_
  refine ax_iload_n (pc := 26) (i := 2) (q := 1) (ax_dd KX9_areBeside 14 rfl) rfl rfl ?_
  refine ax_iload_n (pc := 27) (i := 3) (q := 0) (ax_dd KX9_areBeside 15 rfl) rfl rfl ?_
  refine ax_iadd (pc := 28) (ax_dd KX9_areBeside 16 rfl) ?_
  refine ax_iconst (pc := 29) (v := 1) (ax_dd KX9_areBeside 17 rfl) (by decide) ?_
  by_cases c9 : ((abI (v1 - v3)) + (abI (v5 - v7))) = 1
  · rw [if_pos c9] at h
    refine ax_icmp_ne_f (pc := 30) (tgt := 37) (ax_dd KX9_areBeside 18 rfl) (by decide) (fun z => z c9) ?_
    refine ax_iconst (pc := 33) (v := 1) (ax_dd KX9_areBeside 19 rfl) (by decide) ?_
    refine ax_goto (pc := 34) (tgt := 38) (ax_dd KX9_areBeside 20 rfl) (by decide) ?_
    obtain rfl := Option.some.inj h
    exact ax_ireti (pc := 38) (ax_dd KX9_areBeside 22 rfl) ⟨_, rfl, rfl⟩ rfl
  · rw [if_neg c9] at h
    refine ax_icmp_ne_t (pc := 30) (tgt := 37) (ax_dd KX9_areBeside 18 rfl) (by decide) c9 ?_
    refine ax_iconst (pc := 37) (v := 0) (ax_dd KX9_areBeside 21 rfl) (by decide) ?_
    obtain rfl := Option.some.inj h
    exact ax_ireti (pc := 38) (ax_dd KX9_areBeside 22 rfl) ⟨_, rfl, rfl⟩ rfl
def m_X9_isWalk_2 (x0 : Nat) (x1 : Int32) (μ : ax_M) : Nat → Int32 → Option (Int32)
  | 0, _ => none
  | n + 1, x2 =>
    if x1 ≤ x2 then
      some 1
    else
      (q_len x0).bind fun j2 =>
      if j2 ≤ x2 then
        some 1
      else
        (q_ld μ x0 x2).bind fun j5 =>
        (m_X9_isCell j5 μ).bind fun v7 =>
        if v7 = 0 then
          some 0
        else
          if x2 ≤ 0 then
            m_X9_isWalk_2 x0 x1 μ n (x2 + 1)
          else
            (q_ld μ x0 (x2 - 1)).bind fun j11 =>
            (q_ld μ x0 x2).bind fun j13 =>
            (m_X9_areBeside j11 j13 μ).bind fun v15 =>
            if v15 = 0 then
              some 0
            else
              m_X9_isWalk_2 x0 x1 μ n (x2 + 1)
set_option maxRecDepth 100000 in
set_option maxHeartbeats 8000000 in
theorem a_X9_isWalk_2 {G : ax_G} {l : Launch} {sh : List ax_E} {x0 : Nat} {x1 : Int32} {μ : ax_M} (hs : ∀ (k : Nat) (e : ax_E), SHc[k]? = some e → sh[k]? = some e) : ∀ (n : Nat) (x2 : Int32) (v : Int32), m_X9_isWalk_2 x0 x1 μ n x2 = some v → ax_X G l RX9 cX9_isWalk 3 (some .boolean) false 4 (some (.int v), sh, μ) 2 [(0, .ref (G.1 + (x0))), (1, .int x1), (2, .int x2)] [] sh μ := by
  intro n
  induction n with
  | zero =>
    intro x2 v h
    rw [m_X9_isWalk_2] at h
    cases h
  | succ n ih =>
    intro x2 v h
    rw [m_X9_isWalk_2] at h
    refine ax_iload_n (pc := 2) (i := 2) (q := 2) (ax_dd KX9_isWalk 2 rfl) rfl rfl ?_
    refine ax_iload_n (pc := 3) (i := 1) (q := 1) (ax_dd KX9_isWalk 3 rfl) rfl rfl ?_
    by_cases c1 : x1 ≤ x2
    · rw [if_pos c1] at h
      refine ax_icmp_ge_t (pc := 4) (tgt := 48) (ax_dd KX9_isWalk 4 rfl) (by decide) c1 ?_
      refine ax_iconst (pc := 48) (v := 1) (ax_dd KX9_isWalk 30 rfl) (by decide) ?_
      obtain rfl := Option.some.inj h
      exact ax_ireti (pc := 49) (ax_dd KX9_isWalk 31 rfl) ⟨_, rfl, rfl⟩ rfl
    · rw [if_neg c1] at h
      refine ax_icmp_ge_f (pc := 4) (tgt := 48) (ax_dd KX9_isWalk 4 rfl) (by decide) c1 ?_
      refine ax_iload_n (pc := 7) (i := 2) (q := 2) (ax_dd KX9_isWalk 5 rfl) rfl rfl ?_
      refine ax_aload_n (pc := 8) (i := 0) (q := 0) (ax_dd KX9_isWalk 6 rfl) rfl rfl ?_
      obtain ⟨j2, b3, h⟩ := ob_bind h
      refine ax_qlen (pc := 9) (ax_dd KX9_isWalk 7 rfl) hs b3 ?_
      by_cases c4 : j2 ≤ x2
      · rw [if_pos c4] at h
        refine ax_icmp_ge_t (pc := 10) (tgt := 48) (ax_dd KX9_isWalk 8 rfl) (by decide) c4 ?_
        refine ax_iconst (pc := 48) (v := 1) (ax_dd KX9_isWalk 30 rfl) (by decide) ?_
        obtain rfl := Option.some.inj h
        exact ax_ireti (pc := 49) (ax_dd KX9_isWalk 31 rfl) ⟨_, rfl, rfl⟩ rfl
      · rw [if_neg c4] at h
        refine ax_icmp_ge_f (pc := 10) (tgt := 48) (ax_dd KX9_isWalk 8 rfl) (by decide) c4 ?_
        refine ax_aload_n (pc := 13) (i := 0) (q := 0) (ax_dd KX9_isWalk 9 rfl) rfl rfl ?_
        refine ax_iload_n (pc := 14) (i := 2) (q := 2) (ax_dd KX9_isWalk 10 rfl) rfl rfl ?_
        obtain ⟨j5, b6, h⟩ := ob_bind h
        refine ax_qld (pc := 15) (ax_dd KX9_isWalk 11 rfl) hs b6 ?_
        obtain ⟨v7, b8, h⟩ := ob_bind h
        refine ax_kS (pc := 16) (As := [.int j5]) (rest := []) (st1 := [.int v7]) (μ1 := μ) (ax_dd KX9_isWalk 12 rfl) (c_X9_isCell hs b8) kS_X9_120 e_X9_isCell rfl rfl (by decide) (by decide) (Nat.le_of_ble_eq_true rfl) rfl ?_
        by_cases c9 : v7 = 0
        · rw [if_pos c9] at h
          refine ax_if_eq_t (pc := 19) (tgt := 40) (ax_dd KX9_isWalk 13 rfl) (by decide) c9 ?_
          refine ax_iconst (pc := 40) (v := 0) (ax_dd KX9_isWalk 26 rfl) (by decide) ?_
          obtain rfl := Option.some.inj h
          exact ax_ireti (pc := 41) (ax_dd KX9_isWalk 27 rfl) ⟨_, rfl, rfl⟩ rfl
        · rw [if_neg c9] at h
          refine ax_if_eq_f (pc := 19) (tgt := 40) (ax_dd KX9_isWalk 13 rfl) (by decide) c9 ?_
          refine ax_iload_n (pc := 22) (i := 2) (q := 2) (ax_dd KX9_isWalk 14 rfl) rfl rfl ?_
          by_cases c10 : x2 ≤ 0
          · rw [if_pos c10] at h
            refine ax_if_le_t (pc := 23) (tgt := 42) (ax_dd KX9_isWalk 15 rfl) (by decide) c10 ?_
            refine ax_iinc (pc := 42) (q := 2) (v := (x2 + 1)) (lv' := [(2, .int (x2 + 1)), (0, .ref (G.1 + (x0))), (1, .int x1)]) (ax_dd KX9_isWalk 28 rfl) rfl rfl (by decide) rfl ?_
            refine ax_goto (pc := 45) (tgt := 2) (ax_dd KX9_isWalk 29 rfl) (by decide) ?_
            refine ax_sub (lv' := [(0, .ref (G.1 + (x0))), (1, .int x1), (2, .int (x2 + 1))]) [1, 2, 0] rfl ?_
            exact ih _ _ h
          · rw [if_neg c10] at h
            refine ax_if_le_f (pc := 23) (tgt := 42) (ax_dd KX9_isWalk 15 rfl) (by decide) c10 ?_
            refine ax_aload_n (pc := 26) (i := 0) (q := 0) (ax_dd KX9_isWalk 16 rfl) rfl rfl ?_
            refine ax_iload_n (pc := 27) (i := 2) (q := 2) (ax_dd KX9_isWalk 17 rfl) rfl rfl ?_
            refine ax_iconst (pc := 28) (v := 1) (ax_dd KX9_isWalk 18 rfl) (by decide) ?_
            refine ax_isub (pc := 29) (ax_dd KX9_isWalk 19 rfl) ?_
            obtain ⟨j11, b12, h⟩ := ob_bind h
            refine ax_qld (pc := 30) (ax_dd KX9_isWalk 20 rfl) hs b12 ?_
            refine ax_aload_n (pc := 31) (i := 0) (q := 0) (ax_dd KX9_isWalk 21 rfl) rfl rfl ?_
            refine ax_iload_n (pc := 32) (i := 2) (q := 2) (ax_dd KX9_isWalk 22 rfl) rfl rfl ?_
            obtain ⟨j13, b14, h⟩ := ob_bind h
            refine ax_qld (pc := 33) (ax_dd KX9_isWalk 23 rfl) hs b14 ?_
            obtain ⟨v15, b16, h⟩ := ob_bind h
            refine ax_kS (pc := 34) (As := [.int j11, .int j13]) (rest := []) (st1 := [.int v15]) (μ1 := μ) (ax_dd KX9_isWalk 24 rfl) (c_X9_areBeside hs b16) kS_X9_338 e_X9_areBeside rfl rfl (by decide) (by decide) (Nat.le_of_ble_eq_true rfl) rfl ?_
            by_cases c17 : v15 = 0
            · rw [if_pos c17] at h
              refine ax_if_ne_f (pc := 37) (tgt := 42) (ax_dd KX9_isWalk 25 rfl) (by decide) (fun z => z c17) ?_
              refine ax_iconst (pc := 40) (v := 0) (ax_dd KX9_isWalk 26 rfl) (by decide) ?_
              obtain rfl := Option.some.inj h
              exact ax_ireti (pc := 41) (ax_dd KX9_isWalk 27 rfl) ⟨_, rfl, rfl⟩ rfl
            · rw [if_neg c17] at h
              refine ax_if_ne_t (pc := 37) (tgt := 42) (ax_dd KX9_isWalk 25 rfl) (by decide) c17 ?_
              refine ax_iinc (pc := 42) (q := 2) (v := (x2 + 1)) (lv' := [(2, .int (x2 + 1)), (0, .ref (G.1 + (x0))), (1, .int x1)]) (ax_dd KX9_isWalk 28 rfl) rfl rfl (by decide) rfl ?_
              refine ax_goto (pc := 45) (tgt := 2) (ax_dd KX9_isWalk 29 rfl) (by decide) ?_
              refine ax_sub (lv' := [(0, .ref (G.1 + (x0))), (1, .int x1), (2, .int (x2 + 1))]) [1, 2, 0] rfl ?_
              exact ih _ _ h
