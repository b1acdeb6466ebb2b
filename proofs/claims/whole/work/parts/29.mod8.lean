def m_X10_freest_75 (x1 : Int32) (x2 : Int32) (x4 : Int32) (x5 : Int32) (x6 : Int32) (x7 : Int32) (s0 : Int32) (k25 : Int32 → Int32 → Int32 → ax_M → Option (Int32 × ax_M)) (μ : ax_M) : Option (Int32 × ax_M) :=
  if x7 = 0 then
    k25 s0 x4 (x5 + 1) μ
  else
    k25 s0 x6 (x5 + 1) μ
set_option maxRecDepth 100000 in
set_option maxHeartbeats 8000000 in
theorem a_X10_freest_75 {G : ax_G} {l : Launch} {sh : List ax_E} {x1 : Int32} {x2 : Int32} {x4 : Int32} {x5 : Int32} {x6 : Int32} {x7 : Int32} {s0 : Int32} {k25 : Int32 → Int32 → Int32 → ax_M → Option (Int32 × ax_M)} {μ : ax_M} (hs : ∀ (k : Nat) (e : ax_E), SHF[k]? = some e → sh[k]? = some e) (hk25 : ∀ (x3 : Int32) (x4 : Int32) (x5 : Int32) (μ : ax_M) (v : Int32 × ax_M), k25 x3 x4 x5 μ = some v → ax_X G l RX10 cX10_freest 8 (some .int) false 8 (some (.int v.1), sh, v.2) 25 [(0, .ref (G.1 + 51)), (1, .int x1), (2, .int x2), (3, .int x3), (4, .int x4), (5, .int x5)] [] sh μ) {v : Int32 × ax_M} (h : m_X10_freest_75 x1 x2 x4 x5 x6 x7 s0 k25 μ = some v) : ax_X G l RX10 cX10_freest 8 (some .int) false 8 (some (.int v.1), sh, v.2) 75 [(0, .ref (G.1 + 51)), (1, .int x1), (2, .int x2), (4, .int x4), (5, .int x5), (6, .int x6), (7, .int x7)] [.int s0] sh μ := by
  unfold m_X10_freest_75 at h
  refine ax_istore_n (pc := 75) (i := 3) (lv' := [(3, .int s0), (0, .ref (G.1 + 51)), (1, .int x1), (2, .int x2), (4, .int x4), (5, .int x5), (6, .int x6), (7, .int x7)]) (ax_dd KX10_freest 41 rfl) rfl (by decide) rfl ?_
  refine ax_iload (pc := 76) (q := 7) (ax_dd KX10_freest 42 rfl) rfl ?_
  by_cases c1 : x7 = 0
  · rw [if_pos c1] at h
    refine ax_if_eq_t (pc := 78) (tgt := 86) (ax_dd KX10_freest 43 rfl) (by decide) c1 ?_
    refine ax_iload (pc := 86) (q := 4) (ax_dd KX10_freest 46 rfl) rfl ?_
    refine ax_istore (pc := 88) (lv' := [(4, .int x4), (3, .int s0), (0, .ref (G.1 + 51)), (1, .int x1), (2, .int x2), (5, .int x5), (6, .int x6), (7, .int x7)]) (ax_dd KX10_freest 47 rfl) (by decide) rfl ?_
    refine ax_iinc (pc := 90) (q := 5) (v := (x5 + 1)) (lv' := [(5, .int (x5 + 1)), (4, .int x4), (3, .int s0), (0, .ref (G.1 + 51)), (1, .int x1), (2, .int x2), (6, .int x6), (7, .int x7)]) (ax_dd KX10_freest 48 rfl) rfl rfl (by decide) rfl ?_
    refine ax_goto (pc := 93) (tgt := 25) (ax_dd KX10_freest 49 rfl) (by decide) ?_
    refine ax_sub (lv' := [(0, .ref (G.1 + 51)), (1, .int x1), (2, .int x2), (3, .int s0), (4, .int x4), (5, .int (x5 + 1))]) [3, 4, 5, 2, 1, 0] rfl ?_
    exact hk25 _ _ _ _ _ h
  · rw [if_neg c1] at h
    refine ax_if_eq_f (pc := 78) (tgt := 86) (ax_dd KX10_freest 43 rfl) (by decide) c1 ?_
    refine ax_iload (pc := 81) (q := 6) (ax_dd KX10_freest 44 rfl) rfl ?_
    refine ax_goto (pc := 83) (tgt := 88) (ax_dd KX10_freest 45 rfl) (by decide) ?_
    refine ax_istore (pc := 88) (lv' := [(4, .int x6), (3, .int s0), (0, .ref (G.1 + 51)), (1, .int x1), (2, .int x2), (5, .int x5), (6, .int x6), (7, .int x7)]) (ax_dd KX10_freest 47 rfl) (by decide) rfl ?_
    refine ax_iinc (pc := 90) (q := 5) (v := (x5 + 1)) (lv' := [(5, .int (x5 + 1)), (4, .int x6), (3, .int s0), (0, .ref (G.1 + 51)), (1, .int x1), (2, .int x2), (6, .int x6), (7, .int x7)]) (ax_dd KX10_freest 48 rfl) rfl rfl (by decide) rfl ?_
    refine ax_goto (pc := 93) (tgt := 25) (ax_dd KX10_freest 49 rfl) (by decide) ?_
    refine ax_sub (lv' := [(0, .ref (G.1 + 51)), (1, .int x1), (2, .int x2), (3, .int s0), (4, .int x6), (5, .int (x5 + 1))]) [3, 4, 5, 2, 1, 0] rfl ?_
    exact hk25 _ _ _ _ _ h
def m_X10_freest_62 (x1 : Int32) (x2 : Int32) (x3 : Int32) (x4 : Int32) (x5 : Int32) (x6 : Int32) (s0 : Int32) (k25 : Int32 → Int32 → Int32 → ax_M → Option (Int32 × ax_M)) (μ : ax_M) : Option (Int32 × ax_M) :=
  if s0 = 0 then
    m_X10_freest_75 x1 x2 x4 x5 x6 s0 x3 k25 μ
  else
    m_X10_freest_75 x1 x2 x4 x5 x6 s0 x5 k25 μ
set_option maxRecDepth 100000 in
set_option maxHeartbeats 8000000 in
theorem a_X10_freest_62 {G : ax_G} {l : Launch} {sh : List ax_E} {x1 : Int32} {x2 : Int32} {x3 : Int32} {x4 : Int32} {x5 : Int32} {x6 : Int32} {s0 : Int32} {k25 : Int32 → Int32 → Int32 → ax_M → Option (Int32 × ax_M)} {μ : ax_M} (hs : ∀ (k : Nat) (e : ax_E), SHF[k]? = some e → sh[k]? = some e) (hk25 : ∀ (x3 : Int32) (x4 : Int32) (x5 : Int32) (μ : ax_M) (v : Int32 × ax_M), k25 x3 x4 x5 μ = some v → ax_X G l RX10 cX10_freest 8 (some .int) false 8 (some (.int v.1), sh, v.2) 25 [(0, .ref (G.1 + 51)), (1, .int x1), (2, .int x2), (3, .int x3), (4, .int x4), (5, .int x5)] [] sh μ) {v : Int32 × ax_M} (h : m_X10_freest_62 x1 x2 x3 x4 x5 x6 s0 k25 μ = some v) : ax_X G l RX10 cX10_freest 8 (some .int) false 8 (some (.int v.1), sh, v.2) 62 [(0, .ref (G.1 + 51)), (1, .int x1), (2, .int x2), (3, .int x3), (4, .int x4), (5, .int x5), (6, .int x6)] [.int s0] sh μ := by
  unfold m_X10_freest_62 at h
  refine ax_istore (pc := 62) (lv' := [(7, .int s0), (0, .ref (G.1 + 51)), (1, .int x1), (2, .int x2), (3, .int x3), (4, .int x4), (5, .int x5), (6, .int x6)]) (ax_dd KX10_freest 35 rfl) (by decide) rfl ?_
  refine ax_iload (pc := 64) (q := 0) (ax_dd KX10_freest 36 rfl) rfl ?_
  by_cases c1 : s0 = 0
  · rw [if_pos c1] at h
    refine ax_if_eq_t (pc := 66) (tgt := 74) (ax_dd KX10_freest 37 rfl) (by decide) c1 ?_
    refine ax_iload_n (pc := 74) (i := 3) (q := 4) (ax_dd KX10_freest 40 rfl) rfl rfl ?_
    refine ax_sub (lv' := [(0, .ref (G.1 + 51)), (1, .int x1), (2, .int x2), (4, .int x4), (5, .int x5), (6, .int x6), (7, .int s0)]) [1, 2, 3, 5, 6, 7, 0] rfl ?_
    exact a_X10_freest_75 hs hk25 h
  · rw [if_neg c1] at h
    refine ax_if_eq_f (pc := 66) (tgt := 74) (ax_dd KX10_freest 37 rfl) (by decide) c1 ?_
    refine ax_iload (pc := 69) (q := 6) (ax_dd KX10_freest 38 rfl) rfl ?_
    refine ax_goto (pc := 71) (tgt := 75) (ax_dd KX10_freest 39 rfl) (by decide) ?_
    refine ax_sub (lv' := [(0, .ref (G.1 + 51)), (1, .int x1), (2, .int x2), (4, .int x4), (5, .int x5), (6, .int x6), (7, .int s0)]) [1, 2, 3, 5, 6, 7, 0] rfl ?_
    exact a_X10_freest_75 hs hk25 h
def m_X10_freest_25 (x1 : Int32) (x2 : Int32) : Nat → Int32 → Int32 → Int32 → ax_M → Option (Int32 × ax_M)
  | 0, _, _, _, _ => none
  | n + 1, x3, x4, x5, μ =>
    if 24 ≤ x5 then
      if x1 = 0 then
        some (x3, ax_w μ 51 4 x2)
      else
        some (x4, ax_w μ 51 4 x2)
    else
      bind2 (m_X10_finedAll (-1) (ax_w μ 51 4 x5)) fun v3 μ5 =>
      if x3 = (-1) then
        m_X10_freest_62 x1 x2 x3 x4 x5 v3 1 (m_X10_freest_25 x1 x2 n) μ5
      else
        if x4 ≤ v3 then
          m_X10_freest_62 x1 x2 x3 x4 x5 v3 0 (m_X10_freest_25 x1 x2 n) μ5
        else
          m_X10_freest_62 x1 x2 x3 x4 x5 v3 1 (m_X10_freest_25 x1 x2 n) μ5
set_option maxRecDepth 100000 in
set_option maxHeartbeats 8000000 in
theorem a_X10_freest_25 {G : ax_G} {l : Launch} {sh : List ax_E} {x1 : Int32} {x2 : Int32} (hs : ∀ (k : Nat) (e : ax_E), SHF[k]? = some e → sh[k]? = some e) : ∀ (n : Nat) (x3 : Int32) (x4 : Int32) (x5 : Int32) (μ : ax_M) (v : Int32 × ax_M), m_X10_freest_25 x1 x2 n x3 x4 x5 μ = some v → ax_X G l RX10 cX10_freest 8 (some .int) false 8 (some (.int v.1), sh, v.2) 25 [(0, .ref (G.1 + 51)), (1, .int x1), (2, .int x2), (3, .int x3), (4, .int x4), (5, .int x5)] [] sh μ := by
  intro n
  induction n with
  | zero =>
    intro x3 x4 x5 μ v h
    rw [m_X10_freest_25] at h
    cases h
  | succ n ih =>
    intro x3 x4 x5 μ v h
    rw [m_X10_freest_25] at h
    refine ax_iload (pc := 25) (q := 5) (ax_dd KX10_freest 16 rfl) rfl ?_
    refine ax_bipush (pc := 27) (v := 24) (ax_dd KX10_freest 17 rfl) (by decide) ?_
    by_cases c1 : 24 ≤ x5
    · rw [if_pos c1] at h
      refine ax_icmp_ge_t (pc := 29) (tgt := 96) (ax_dd KX10_freest 18 rfl) (by decide) c1 ?_
      refine ax_aload_n (pc := 96) (i := 0) (q := 0) (ax_dd KX10_freest 50 rfl) rfl rfl ?_
      refine ax_iload_n (pc := 97) (i := 2) (q := 2) (ax_dd KX10_freest 51 rfl) rfl rfl ?_
      refine ax_putI (pc := 98) (k := 51) (ax_dd KX10_freest 52 rfl) f_X10_19 ft_X10 (hs 51 _ rfl) rfl (fun _ h9 => by cases h9; rfl) rfl rfl ?_
      refine ax_iload_n (pc := 101) (i := 1) (q := 1) (ax_dd KX10_freest 53 rfl) rfl rfl ?_
      by_cases c2 : x1 = 0
      · rw [if_pos c2] at h
        refine ax_if_ne_f (pc := 102) (tgt := 109) (ax_dd KX10_freest 54 rfl) (by decide) (fun z => z c2) ?_
        refine ax_iload_n (pc := 105) (i := 3) (q := 3) (ax_dd KX10_freest 55 rfl) rfl rfl ?_
        refine ax_goto (pc := 106) (tgt := 111) (ax_dd KX10_freest 56 rfl) (by decide) ?_
        obtain rfl := Option.some.inj h
        exact ax_ireti (pc := 111) (ax_dd KX10_freest 58 rfl) ⟨_, rfl, rfl⟩ rfl
      · rw [if_neg c2] at h
        refine ax_if_ne_t (pc := 102) (tgt := 109) (ax_dd KX10_freest 54 rfl) (by decide) c2 ?_
        refine ax_iload (pc := 109) (q := 4) (ax_dd KX10_freest 57 rfl) rfl ?_
        obtain rfl := Option.some.inj h
        exact ax_ireti (pc := 111) (ax_dd KX10_freest 58 rfl) ⟨_, rfl, rfl⟩ rfl
    · rw [if_neg c1] at h
      refine ax_icmp_ge_f (pc := 29) (tgt := 96) (ax_dd KX10_freest 18 rfl) (by decide) c1 ?_
      refine ax_aload_n (pc := 32) (i := 0) (q := 0) (ax_dd KX10_freest 19 rfl) rfl rfl ?_
      refine ax_iload (pc := 33) (q := 5) (ax_dd KX10_freest 20 rfl) rfl ?_
      refine ax_putI (pc := 35) (k := 51) (ax_dd KX10_freest 21 rfl) f_X10_19 ft_X10 (hs 51 _ rfl) rfl (fun _ h9 => by cases h9; rfl) rfl rfl ?_
      refine ax_aload_n (pc := 38) (i := 0) (q := 0) (ax_dd KX10_freest 22 rfl) rfl rfl ?_
      refine ax_iconst (pc := 39) (v := (-1)) (ax_dd KX10_freest 23 rfl) (by decide) ?_
      obtain ⟨v3, μ5, b4, h⟩ := ob_bind2 h
      refine ax_kV (pc := 40) (ci := 10) (k := 51) (As := [.int (-1)]) (rest := []) (st1 := [.int v3]) (μ1 := μ5) (ax_dd KX10_freest 24 rfl) (c_X10_finedAll hs b4) kV_X10_246 e_X10_finedAll (hs 51 _ rfl) cl_X10 (by decide) rfl rfl (by decide) (by decide) (Nat.le_of_ble_eq_true rfl) rfl ?_
      refine ax_istore (pc := 43) (lv' := [(6, .int v3), (0, .ref (G.1 + 51)), (1, .int x1), (2, .int x2), (3, .int x3), (4, .int x4), (5, .int x5)]) (ax_dd KX10_freest 25 rfl) (by decide) rfl ?_
      refine ax_iload_n (pc := 45) (i := 3) (q := 4) (ax_dd KX10_freest 26 rfl) rfl rfl ?_
      refine ax_iconst (pc := 46) (v := (-1)) (ax_dd KX10_freest 27 rfl) (by decide) ?_
      by_cases c6 : x3 = (-1)
      · rw [if_pos c6] at h
        refine ax_icmp_eq_t (pc := 47) (tgt := 57) (ax_dd KX10_freest 28 rfl) (by decide) c6 ?_
        refine ax_iconst (pc := 57) (v := 1) (ax_dd KX10_freest 32 rfl) (by decide) ?_
        refine ax_goto (pc := 58) (tgt := 62) (ax_dd KX10_freest 33 rfl) (by decide) ?_
        refine ax_sub (lv' := [(0, .ref (G.1 + 51)), (1, .int x1), (2, .int x2), (3, .int x3), (4, .int x4), (5, .int x5), (6, .int v3)]) [1, 2, 3, 4, 5, 6, 0] rfl ?_
        exact a_X10_freest_62 hs ih h
      · rw [if_neg c6] at h
        refine ax_icmp_eq_f (pc := 47) (tgt := 57) (ax_dd KX10_freest 28 rfl) (by decide) c6 ?_
        refine ax_iload (pc := 50) (q := 0) (ax_dd KX10_freest 29 rfl) rfl ?_
        refine ax_iload (pc := 52) (q := 5) (ax_dd KX10_freest 30 rfl) rfl ?_
        by_cases c7 : x4 ≤ v3
        · rw [if_pos c7] at h
          refine ax_icmp_ge_t (pc := 54) (tgt := 61) (ax_dd KX10_freest 31 rfl) (by decide) c7 ?_
          refine ax_iconst (pc := 61) (v := 0) (ax_dd KX10_freest 34 rfl) (by decide) ?_
          refine ax_sub (lv' := [(0, .ref (G.1 + 51)), (1, .int x1), (2, .int x2), (3, .int x3), (4, .int x4), (5, .int x5), (6, .int v3)]) [1, 2, 3, 4, 5, 6, 0] rfl ?_
          exact a_X10_freest_62 hs ih h
        · rw [if_neg c7] at h
          refine ax_icmp_ge_f (pc := 54) (tgt := 61) (ax_dd KX10_freest 31 rfl) (by decide) c7 ?_
          refine ax_iconst (pc := 57) (v := 1) (ax_dd KX10_freest 32 rfl) (by decide) ?_
          refine ax_goto (pc := 58) (tgt := 62) (ax_dd KX10_freest 33 rfl) (by decide) ?_
          refine ax_sub (lv' := [(0, .ref (G.1 + 51)), (1, .int x1), (2, .int x2), (3, .int x3), (4, .int x4), (5, .int x5), (6, .int v3)]) [1, 2, 3, 4, 5, 6, 0] rfl ?_
          exact a_X10_freest_62 hs ih h
def m_X10_freest (x1 : Int32) (μ : ax_M) : Option (Int32 × ax_M) :=
  (m_X10_in x1 0 1 μ).bind fun v1 =>
  if v1 = 0 then
    some ((-2), μ)
  else
    m_X10_freest_25 x1 (μ 51 4) fu (-1) 0 0 μ
set_option maxRecDepth 100000 in
set_option maxHeartbeats 8000000 in
theorem c_X10_freest {G : ax_G} {l : Launch} {sh : List ax_E} {x1 : Int32} {μ : ax_M} (hs : ∀ (k : Nat) (e : ax_E), SHF[k]? = some e → sh[k]? = some e) {v : Int32 × ax_M} (h : m_X10_freest x1 μ = some v) : ax_A G l yX10_freest cX10_freest 8 (some .int) 8 [.ref (G.1 + 51), .int x1] sh μ (some (.int v.1), sh, v.2) := by
  refine ax_A.of false (by decide +kernel) (fun h9 => by cases h9) (Nat.le_of_ble_eq_true rfl) (?_ : ax_X G l RX10 cX10_freest 8 (some .int) false 8 (some (.int v.1), sh, v.2) 0 [(0, .ref (G.1 + 51)), (1, .int x1)] [] sh μ)
  unfold m_X10_freest at h
  refine ax_iload_n (pc := 0) (i := 1) (q := 1) (ax_dd KX10_freest 0 rfl) rfl rfl ?_
  refine ax_iconst (pc := 1) (v := 0) (ax_dd KX10_freest 1 rfl) (by decide) ?_
  refine ax_iconst (pc := 2) (v := 1) (ax_dd KX10_freest 2 rfl) (by decide) ?_
  obtain ⟨v1, b2, h⟩ := ob_bind h
  refine ax_kS (pc := 3) (As := [.int x1, .int 0, .int 1]) (rest := []) (st1 := [.int v1]) (μ1 := μ) (ax_dd KX10_freest 3 rfl) (c_X10_in hs b2) kS_X10_81 e_X10_in rfl rfl (by decide) (by decide) (Nat.le_of_ble_eq_true rfl) rfl ?_
  by_cases c3 : v1 = 0
  · rw [if_pos c3] at h
    refine ax_if_ne_f (pc := 6) (tgt := 12) (ax_dd KX10_freest 4 rfl) (by decide) (fun z => z c3) ?_
    refine ax_bipush (pc := 9) (v := (-2)) (ax_dd KX10_freest 5 rfl) (by decide) ?_
    obtain rfl := Option.some.inj h
    exact ax_ireti (pc := 11) (ax_dd KX10_freest 6 rfl) ⟨_, rfl, rfl⟩ rfl
  · rw [if_neg c3] at h
    refine ax_if_ne_t (pc := 6) (tgt := 12) (ax_dd KX10_freest 4 rfl) (by decide) c3 ?_
    refine ax_aload_n (pc := 12) (i := 0) (q := 0) (ax_dd KX10_freest 7 rfl) rfl rfl ?_
    refine ax_getI (pc := 13) (k := 51) (ax_dd KX10_freest 8 rfl) f_X10_19 (hs 51 _ rfl) rfl ?_
    refine ax_istore_n (pc := 16) (i := 2) (lv' := [(2, .int (μ 51 4)), (0, .ref (G.1 + 51)), (1, .int x1)]) (ax_dd KX10_freest 9 rfl) rfl (by decide) rfl ?_
    refine ax_iconst (pc := 17) (v := (-1)) (ax_dd KX10_freest 10 rfl) (by decide) ?_
    refine ax_istore_n (pc := 18) (i := 3) (lv' := [(3, .int (-1)), (2, .int (μ 51 4)), (0, .ref (G.1 + 51)), (1, .int x1)]) (ax_dd KX10_freest 11 rfl) rfl (by decide) rfl ?_
    refine ax_iconst (pc := 19) (v := 0) (ax_dd KX10_freest 12 rfl) (by decide) ?_
    refine ax_istore (pc := 20) (lv' := [(4, .int 0), (3, .int (-1)), (2, .int (μ 51 4)), (0, .ref (G.1 + 51)), (1, .int x1)]) (ax_dd KX10_freest 13 rfl) (by decide) rfl ?_
    refine ax_iconst (pc := 22) (v := 0) (ax_dd KX10_freest 14 rfl) (by decide) ?_
    refine ax_istore (pc := 23) (lv' := [(5, .int 0), (4, .int 0), (3, .int (-1)), (2, .int (μ 51 4)), (0, .ref (G.1 + 51)), (1, .int x1)]) (ax_dd KX10_freest 15 rfl) (by decide) rfl ?_
    refine ax_sub (lv' := [(0, .ref (G.1 + 51)), (1, .int x1), (2, .int (μ 51 4)), (3, .int (-1)), (4, .int 0), (5, .int 0)]) [4, 5, 3, 2, 1, 0] rfl ?_
    exact a_X10_freest_25 hs fu _ _ _ _ _ h
def m_X10_fold_69 (x1 : Int32) (x3 : Int32) (x4 : Int32) (x5 : Int32) (x6 : Int32) (s0 : Int32) (k23 : Int32 → Int32 → Int32 → ax_M → Option (Int32 × ax_M)) (μ : ax_M) : Option (Int32 × ax_M) :=
  if x6 = 0 then
    k23 s0 x3 (x4 + 1) μ
  else
    k23 s0 x5 (x4 + 1) μ
set_option maxRecDepth 100000 in
set_option maxHeartbeats 8000000 in
theorem a_X10_fold_69 {G : ax_G} {l : Launch} {sh : List ax_E} {x1 : Int32} {x3 : Int32} {x4 : Int32} {x5 : Int32} {x6 : Int32} {s0 : Int32} {k23 : Int32 → Int32 → Int32 → ax_M → Option (Int32 × ax_M)} {μ : ax_M} (hs : ∀ (k : Nat) (e : ax_E), SHF[k]? = some e → sh[k]? = some e) (hk23 : ∀ (x2 : Int32) (x3 : Int32) (x4 : Int32) (μ : ax_M) (v : Int32 × ax_M), k23 x2 x3 x4 μ = some v → ax_X G l RX10 cX10_fold 7 (some .int) false 8 (some (.int v.1), sh, v.2) 23 [(0, .ref (G.1 + 51)), (1, .int x1), (2, .int x2), (3, .int x3), (4, .int x4)] [] sh μ) {v : Int32 × ax_M} (h : m_X10_fold_69 x1 x3 x4 x5 x6 s0 k23 μ = some v) : ax_X G l RX10 cX10_fold 7 (some .int) false 8 (some (.int v.1), sh, v.2) 69 [(0, .ref (G.1 + 51)), (1, .int x1), (3, .int x3), (4, .int x4), (5, .int x5), (6, .int x6)] [.int s0] sh μ := by
  unfold m_X10_fold_69 at h
  refine ax_istore_n (pc := 69) (i := 2) (lv' := [(2, .int s0), (0, .ref (G.1 + 51)), (1, .int x1), (3, .int x3), (4, .int x4), (5, .int x5), (6, .int x6)]) (ax_dd KX10_fold 38 rfl) rfl (by decide) rfl ?_
  refine ax_iload (pc := 70) (q := 6) (ax_dd KX10_fold 39 rfl) rfl ?_
  by_cases c1 : x6 = 0
  · rw [if_pos c1] at h
    refine ax_if_eq_t (pc := 72) (tgt := 80) (ax_dd KX10_fold 40 rfl) (by decide) c1 ?_
    refine ax_iload_n (pc := 80) (i := 3) (q := 3) (ax_dd KX10_fold 43 rfl) rfl rfl ?_
    refine ax_istore_n (pc := 81) (i := 3) (lv' := [(3, .int x3), (2, .int s0), (0, .ref (G.1 + 51)), (1, .int x1), (4, .int x4), (5, .int x5), (6, .int x6)]) (ax_dd KX10_fold 44 rfl) rfl (by decide) rfl ?_
    refine ax_iinc (pc := 82) (q := 4) (v := (x4 + 1)) (lv' := [(4, .int (x4 + 1)), (3, .int x3), (2, .int s0), (0, .ref (G.1 + 51)), (1, .int x1), (5, .int x5), (6, .int x6)]) (ax_dd KX10_fold 45 rfl) rfl rfl (by decide) rfl ?_
    refine ax_goto (pc := 85) (tgt := 23) (ax_dd KX10_fold 46 rfl) (by decide) ?_
    refine ax_sub (lv' := [(0, .ref (G.1 + 51)), (1, .int x1), (2, .int s0), (3, .int x3), (4, .int (x4 + 1))]) [3, 4, 2, 1, 0] rfl ?_
    exact hk23 _ _ _ _ _ h
  · rw [if_neg c1] at h
    refine ax_if_eq_f (pc := 72) (tgt := 80) (ax_dd KX10_fold 40 rfl) (by decide) c1 ?_
    refine ax_iload (pc := 75) (q := 5) (ax_dd KX10_fold 41 rfl) rfl ?_
    refine ax_goto (pc := 77) (tgt := 81) (ax_dd KX10_fold 42 rfl) (by decide) ?_
    refine ax_istore_n (pc := 81) (i := 3) (lv' := [(3, .int x5), (2, .int s0), (0, .ref (G.1 + 51)), (1, .int x1), (4, .int x4), (5, .int x5), (6, .int x6)]) (ax_dd KX10_fold 44 rfl) rfl (by decide) rfl ?_
    refine ax_iinc (pc := 82) (q := 4) (v := (x4 + 1)) (lv' := [(4, .int (x4 + 1)), (3, .int x5), (2, .int s0), (0, .ref (G.1 + 51)), (1, .int x1), (5, .int x5), (6, .int x6)]) (ax_dd KX10_fold 45 rfl) rfl rfl (by decide) rfl ?_
    refine ax_goto (pc := 85) (tgt := 23) (ax_dd KX10_fold 46 rfl) (by decide) ?_
    refine ax_sub (lv' := [(0, .ref (G.1 + 51)), (1, .int x1), (2, .int s0), (3, .int x5), (4, .int (x4 + 1))]) [3, 4, 2, 1, 0] rfl ?_
    exact hk23 _ _ _ _ _ h
def m_X10_fold_56 (x1 : Int32) (x2 : Int32) (x3 : Int32) (x4 : Int32) (x5 : Int32) (s0 : Int32) (k23 : Int32 → Int32 → Int32 → ax_M → Option (Int32 × ax_M)) (μ : ax_M) : Option (Int32 × ax_M) :=
  if s0 = 0 then
    m_X10_fold_69 x1 x3 x4 x5 s0 x2 k23 μ
  else
    m_X10_fold_69 x1 x3 x4 x5 s0 x4 k23 μ
set_option maxRecDepth 100000 in
set_option maxHeartbeats 8000000 in
theorem a_X10_fold_56 {G : ax_G} {l : Launch} {sh : List ax_E} {x1 : Int32} {x2 : Int32} {x3 : Int32} {x4 : Int32} {x5 : Int32} {s0 : Int32} {k23 : Int32 → Int32 → Int32 → ax_M → Option (Int32 × ax_M)} {μ : ax_M} (hs : ∀ (k : Nat) (e : ax_E), SHF[k]? = some e → sh[k]? = some e) (hk23 : ∀ (x2 : Int32) (x3 : Int32) (x4 : Int32) (μ : ax_M) (v : Int32 × ax_M), k23 x2 x3 x4 μ = some v → ax_X G l RX10 cX10_fold 7 (some .int) false 8 (some (.int v.1), sh, v.2) 23 [(0, .ref (G.1 + 51)), (1, .int x1), (2, .int x2), (3, .int x3), (4, .int x4)] [] sh μ) {v : Int32 × ax_M} (h : m_X10_fold_56 x1 x2 x3 x4 x5 s0 k23 μ = some v) : ax_X G l RX10 cX10_fold 7 (some .int) false 8 (some (.int v.1), sh, v.2) 56 [(0, .ref (G.1 + 51)), (1, .int x1), (2, .int x2), (3, .int x3), (4, .int x4), (5, .int x5)] [.int s0] sh μ := by
  unfold m_X10_fold_56 at h
  refine ax_istore (pc := 56) (lv' := [(6, .int s0), (0, .ref (G.1 + 51)), (1, .int x1), (2, .int x2), (3, .int x3), (4, .int x4), (5, .int x5)]) (ax_dd KX10_fold 32 rfl) (by decide) rfl ?_
  refine ax_iload (pc := 58) (q := 0) (ax_dd KX10_fold 33 rfl) rfl ?_
  by_cases c1 : s0 = 0
  · rw [if_pos c1] at h
    refine ax_if_eq_t (pc := 60) (tgt := 68) (ax_dd KX10_fold 34 rfl) (by decide) c1 ?_
    refine ax_iload_n (pc := 68) (i := 2) (q := 3) (ax_dd KX10_fold 37 rfl) rfl rfl ?_
    refine ax_sub (lv' := [(0, .ref (G.1 + 51)), (1, .int x1), (3, .int x3), (4, .int x4), (5, .int x5), (6, .int s0)]) [1, 2, 4, 5, 6, 0] rfl ?_
    exact a_X10_fold_69 hs hk23 h
  · rw [if_neg c1] at h
    refine ax_if_eq_f (pc := 60) (tgt := 68) (ax_dd KX10_fold 34 rfl) (by decide) c1 ?_
    refine ax_iload (pc := 63) (q := 5) (ax_dd KX10_fold 35 rfl) rfl ?_
    refine ax_goto (pc := 65) (tgt := 69) (ax_dd KX10_fold 36 rfl) (by decide) ?_
    refine ax_sub (lv' := [(0, .ref (G.1 + 51)), (1, .int x1), (3, .int x3), (4, .int x4), (5, .int x5), (6, .int s0)]) [1, 2, 4, 5, 6, 0] rfl ?_
    exact a_X10_fold_69 hs hk23 h
def m_X10_fold_23 (x1 : Int32) : Nat → Int32 → Int32 → Int32 → ax_M → Option (Int32 × ax_M)
  | 0, _, _, _, _ => none
  | n + 1, x2, x3, x4, μ =>
    if (μ 51 0) ≤ x4 then
      if x1 = 0 then
        some (x2, μ)
      else
        some (x3, μ)
    else
      bind2 (m_X10_finedAll x4 μ) fun v3 μ5 =>
      if x2 = (-1) then
        m_X10_fold_56 x1 x2 x3 x4 v3 1 (m_X10_fold_23 x1 n) μ5
      else
        if x3 ≤ v3 then
          m_X10_fold_56 x1 x2 x3 x4 v3 0 (m_X10_fold_23 x1 n) μ5
        else
          m_X10_fold_56 x1 x2 x3 x4 v3 1 (m_X10_fold_23 x1 n) μ5
set_option maxRecDepth 100000 in
set_option maxHeartbeats 8000000 in
theorem a_X10_fold_23 {G : ax_G} {l : Launch} {sh : List ax_E} {x1 : Int32} (hs : ∀ (k : Nat) (e : ax_E), SHF[k]? = some e → sh[k]? = some e) : ∀ (n : Nat) (x2 : Int32) (x3 : Int32) (x4 : Int32) (μ : ax_M) (v : Int32 × ax_M), m_X10_fold_23 x1 n x2 x3 x4 μ = some v → ax_X G l RX10 cX10_fold 7 (some .int) false 8 (some (.int v.1), sh, v.2) 23 [(0, .ref (G.1 + 51)), (1, .int x1), (2, .int x2), (3, .int x3), (4, .int x4)] [] sh μ := by
  intro n
  induction n with
  | zero =>
    intro x2 x3 x4 μ v h
    rw [m_X10_fold_23] at h
    cases h
  | succ n ih =>
    intro x2 x3 x4 μ v h
    rw [m_X10_fold_23] at h
    refine ax_iload (pc := 23) (q := 4) (ax_dd KX10_fold 15 rfl) rfl ?_
    refine ax_aload_n (pc := 25) (i := 0) (q := 0) (ax_dd KX10_fold 16 rfl) rfl rfl ?_
    refine ax_getI (pc := 26) (k := 51) (ax_dd KX10_fold 17 rfl) f_X10_78 (hs 51 _ rfl) rfl ?_
    by_cases c1 : (μ 51 0) ≤ x4
    · rw [if_pos c1] at h
      refine ax_icmp_ge_t (pc := 29) (tgt := 88) (ax_dd KX10_fold 18 rfl) (by decide) c1 ?_
      refine ax_iload_n (pc := 88) (i := 1) (q := 1) (ax_dd KX10_fold 47 rfl) rfl rfl ?_
      by_cases c2 : x1 = 0
      · rw [if_pos c2] at h
        refine ax_if_ne_f (pc := 89) (tgt := 96) (ax_dd KX10_fold 48 rfl) (by decide) (fun z => z c2) ?_
        refine ax_iload_n (pc := 92) (i := 2) (q := 2) (ax_dd KX10_fold 49 rfl) rfl rfl ?_
        refine ax_goto (pc := 93) (tgt := 97) (ax_dd KX10_fold 50 rfl) (by decide) ?_
        obtain rfl := Option.some.inj h
        exact ax_ireti (pc := 97) (ax_dd KX10_fold 52 rfl) ⟨_, rfl, rfl⟩ rfl
      · rw [if_neg c2] at h
        refine ax_if_ne_t (pc := 89) (tgt := 96) (ax_dd KX10_fold 48 rfl) (by decide) c2 ?_
        refine ax_iload_n (pc := 96) (i := 3) (q := 3) (ax_dd KX10_fold 51 rfl) rfl rfl ?_
        obtain rfl := Option.some.inj h
        exact ax_ireti (pc := 97) (ax_dd KX10_fold 52 rfl) ⟨_, rfl, rfl⟩ rfl
    · rw [if_neg c1] at h
      refine ax_icmp_ge_f (pc := 29) (tgt := 88) (ax_dd KX10_fold 18 rfl) (by decide) c1 ?_
      refine ax_aload_n (pc := 32) (i := 0) (q := 0) (ax_dd KX10_fold 19 rfl) rfl rfl ?_
      refine ax_iload (pc := 33) (q := 4) (ax_dd KX10_fold 20 rfl) rfl ?_
      obtain ⟨v3, μ5, b4, h⟩ := ob_bind2 h
      refine ax_kV (pc := 35) (ci := 10) (k := 51) (As := [.int x4]) (rest := []) (st1 := [.int v3]) (μ1 := μ5) (ax_dd KX10_fold 21 rfl) (c_X10_finedAll hs b4) kV_X10_246 e_X10_finedAll (hs 51 _ rfl) cl_X10 (by decide) rfl rfl (by decide) (by decide) (Nat.le_of_ble_eq_true rfl) rfl ?_
      refine ax_istore (pc := 38) (lv' := [(5, .int v3), (0, .ref (G.1 + 51)), (1, .int x1), (2, .int x2), (3, .int x3), (4, .int x4)]) (ax_dd KX10_fold 22 rfl) (by decide) rfl ?_
      refine ax_iload_n (pc := 40) (i := 2) (q := 3) (ax_dd KX10_fold 23 rfl) rfl rfl ?_
      refine ax_iconst (pc := 41) (v := (-1)) (ax_dd KX10_fold 24 rfl) (by decide) ?_
      by_cases c6 : x2 = (-1)
      · rw [if_pos c6] at h
        refine ax_icmp_eq_t (pc := 42) (tgt := 51) (ax_dd KX10_fold 25 rfl) (by decide) c6 ?_
        refine ax_iconst (pc := 51) (v := 1) (ax_dd KX10_fold 29 rfl) (by decide) ?_
        refine ax_goto (pc := 52) (tgt := 56) (ax_dd KX10_fold 30 rfl) (by decide) ?_
        refine ax_sub (lv' := [(0, .ref (G.1 + 51)), (1, .int x1), (2, .int x2), (3, .int x3), (4, .int x4), (5, .int v3)]) [1, 2, 3, 4, 5, 0] rfl ?_
        exact a_X10_fold_56 hs ih h
      · rw [if_neg c6] at h
        refine ax_icmp_eq_f (pc := 42) (tgt := 51) (ax_dd KX10_fold 25 rfl) (by decide) c6 ?_
        refine ax_iload (pc := 45) (q := 0) (ax_dd KX10_fold 26 rfl) rfl ?_
        refine ax_iload_n (pc := 47) (i := 3) (q := 4) (ax_dd KX10_fold 27 rfl) rfl rfl ?_
        by_cases c7 : x3 ≤ v3
        · rw [if_pos c7] at h
          refine ax_icmp_ge_t (pc := 48) (tgt := 55) (ax_dd KX10_fold 28 rfl) (by decide) c7 ?_
          refine ax_iconst (pc := 55) (v := 0) (ax_dd KX10_fold 31 rfl) (by decide) ?_
          refine ax_sub (lv' := [(0, .ref (G.1 + 51)), (1, .int x1), (2, .int x2), (3, .int x3), (4, .int x4), (5, .int v3)]) [1, 2, 3, 4, 5, 0] rfl ?_
          exact a_X10_fold_56 hs ih h
        · rw [if_neg c7] at h
          refine ax_icmp_ge_f (pc := 48) (tgt := 55) (ax_dd KX10_fold 28 rfl) (by decide) c7 ?_
          refine ax_iconst (pc := 51) (v := 1) (ax_dd KX10_fold 29 rfl) (by decide) ?_
          refine ax_goto (pc := 52) (tgt := 56) (ax_dd KX10_fold 30 rfl) (by decide) ?_
          refine ax_sub (lv' := [(0, .ref (G.1 + 51)), (1, .int x1), (2, .int x2), (3, .int x3), (4, .int x4), (5, .int v3)]) [1, 2, 3, 4, 5, 0] rfl ?_
          exact a_X10_fold_56 hs ih h
def m_X10_fold (x1 : Int32) (μ : ax_M) : Option (Int32 × ax_M) :=
  (m_X10_in x1 0 1 μ).bind fun v1 =>
  if v1 = 0 then
    some ((-2), μ)
  else
    bind2 (m_X10_finedAll (-1) μ) fun v4 μ6 =>
    m_X10_fold_23 x1 fu (-1) v4 0 μ6
set_option maxRecDepth 100000 in
set_option maxHeartbeats 8000000 in
theorem c_X10_fold {G : ax_G} {l : Launch} {sh : List ax_E} {x1 : Int32} {μ : ax_M} (hs : ∀ (k : Nat) (e : ax_E), SHF[k]? = some e → sh[k]? = some e) {v : Int32 × ax_M} (h : m_X10_fold x1 μ = some v) : ax_A G l yX10_fold cX10_fold 7 (some .int) 8 [.ref (G.1 + 51), .int x1] sh μ (some (.int v.1), sh, v.2) := by
  refine ax_A.of false (by decide +kernel) (fun h9 => by cases h9) (Nat.le_of_ble_eq_true rfl) (?_ : ax_X G l RX10 cX10_fold 7 (some .int) false 8 (some (.int v.1), sh, v.2) 0 [(0, .ref (G.1 + 51)), (1, .int x1)] [] sh μ)
  unfold m_X10_fold at h
  refine ax_iload_n (pc := 0) (i := 1) (q := 1) (ax_dd KX10_fold 0 rfl) rfl rfl ?_
  refine ax_iconst (pc := 1) (v := 0) (ax_dd KX10_fold 1 rfl) (by decide) ?_
  refine ax_iconst (pc := 2) (v := 1) (ax_dd KX10_fold 2 rfl) (by decide) ?_
  obtain ⟨v1, b2, h⟩ := ob_bind h
  refine ax_kS (pc := 3) (As := [.int x1, .int 0, .int 1]) (rest := []) (st1 := [.int v1]) (μ1 := μ) (ax_dd KX10_fold 3 rfl) (c_X10_in hs b2) kS_X10_81 e_X10_in rfl rfl (by decide) (by decide) (Nat.le_of_ble_eq_true rfl) rfl ?_
  by_cases c3 : v1 = 0
  · rw [if_pos c3] at h
    refine ax_if_ne_f (pc := 6) (tgt := 12) (ax_dd KX10_fold 4 rfl) (by decide) (fun z => z c3) ?_
    refine ax_bipush (pc := 9) (v := (-2)) (ax_dd KX10_fold 5 rfl) (by decide) ?_
    obtain rfl := Option.some.inj h
    exact ax_ireti (pc := 11) (ax_dd KX10_fold 6 rfl) ⟨_, rfl, rfl⟩ rfl
  · rw [if_neg c3] at h
    refine ax_if_ne_t (pc := 6) (tgt := 12) (ax_dd KX10_fold 4 rfl) (by decide) c3 ?_
    refine ax_iconst (pc := 12) (v := (-1)) (ax_dd KX10_fold 7 rfl) (by decide) ?_
    refine ax_istore_n (pc := 13) (i := 2) (lv' := [(2, .int (-1)), (0, .ref (G.1 + 51)), (1, .int x1)]) (ax_dd KX10_fold 8 rfl) rfl (by decide) rfl ?_
    refine ax_aload_n (pc := 14) (i := 0) (q := 1) (ax_dd KX10_fold 9 rfl) rfl rfl ?_
    refine ax_iconst (pc := 15) (v := (-1)) (ax_dd KX10_fold 10 rfl) (by decide) ?_
    obtain ⟨v4, μ6, b5, h⟩ := ob_bind2 h
    refine ax_kV (pc := 16) (ci := 10) (k := 51) (As := [.int (-1)]) (rest := []) (st1 := [.int v4]) (μ1 := μ6) (ax_dd KX10_fold 11 rfl) (c_X10_finedAll hs b5) kV_X10_246 e_X10_finedAll (hs 51 _ rfl) cl_X10 (by decide) rfl rfl (by decide) (by decide) (Nat.le_of_ble_eq_true rfl) rfl ?_
    refine ax_istore_n (pc := 19) (i := 3) (lv' := [(3, .int v4), (2, .int (-1)), (0, .ref (G.1 + 51)), (1, .int x1)]) (ax_dd KX10_fold 12 rfl) rfl (by decide) rfl ?_
    refine ax_iconst (pc := 20) (v := 0) (ax_dd KX10_fold 13 rfl) (by decide) ?_
    refine ax_istore (pc := 21) (lv' := [(4, .int 0), (3, .int v4), (2, .int (-1)), (0, .ref (G.1 + 51)), (1, .int x1)]) (ax_dd KX10_fold 14 rfl) (by decide) rfl ?_
    refine ax_sub (lv' := [(0, .ref (G.1 + 51)), (1, .int x1), (2, .int (-1)), (3, .int v4), (4, .int 0)]) [3, 4, 2, 1, 0] rfl ?_
    exact a_X10_fold_23 hs fu _ _ _ _ _ h
def m_X10_lowest_16 (x0 : Int64) (x2 : Int64) (x4 : Int32) (μ : ax_M) : Nat → Int64 → Int64 → Option (Int64)
  | 0, _, _ => none
  | n + 1, x5, x7 =>
    if (lg_cmp x7 0) = 0 then
      if x4 = 0 then
        if x5 = 0 then none else
        some (x0 / x5)
      else
        if x5 = 0 then none else
        some (x2 / x5)
    else
      if x7 = 0 then none else
      m_X10_lowest_16 x0 x2 x4 μ n x7 (rmL x5 x7)
set_option maxRecDepth 100000 in
set_option maxHeartbeats 8000000 in
theorem a_X10_lowest_16 {G : ax_G} {l : Launch} {sh : List ax_E} {x0 : Int64} {x2 : Int64} {x4 : Int32} {μ : ax_M} (hs : ∀ (k : Nat) (e : ax_E), SHF[k]? = some e → sh[k]? = some e) : ∀ (n : Nat) (x5 : Int64) (x7 : Int64) (v : Int64), m_X10_lowest_16 x0 x2 x4 μ n x5 x7 = some v → ax_X G l RX10 cX10_lowest 11 (some .long) false 2 (some (.long v), sh, μ) 16 [(0, .long x0), (2, .long x2), (4, .int x4), (5, .long x5), (7, .long x7)] [] sh μ := by
  intro n
  induction n with
  | zero =>
    intro x5 x7 v h
    rw [m_X10_lowest_16] at h
    cases h
  | succ n ih =>
    intro x5 x7 v h
    rw [m_X10_lowest_16] at h
    refine ax_lload (pc := 16) (q := 4) (ax_dd KX10_lowest 11 rfl) rfl ?_
    refine ax_lconst (pc := 18) (v := 0) (ax_dd KX10_lowest 12 rfl) (by decide) ?_
    refine ax_lcmp (pc := 19) (ax_dd KX10_lowest 13 rfl) ?_
    by_cases c1 : (lg_cmp x7 0) = 0
    · rw [if_pos c1] at h
      refine ax_if_eq_t (pc := 20) (tgt := 41) (ax_dd KX10_lowest 14 rfl) (by decide) c1 ?_
      refine ax_iload (pc := 41) (q := 2) (ax_dd KX10_lowest 24 rfl) rfl ?_
      by_cases c2 : x4 = 0
      · rw [if_pos c2] at h
        refine ax_if_ne_f (pc := 43) (tgt := 50) (ax_dd KX10_lowest 25 rfl) (by decide) (fun z => z c2) ?_
        refine ax_lload_n (pc := 46) (i := 0) (q := 0) (ax_dd KX10_lowest 26 rfl) rfl rfl ?_
        refine ax_goto (pc := 47) (tgt := 51) (ax_dd KX10_lowest 27 rfl) (by decide) ?_
        refine ax_lload (pc := 51) (q := 3) (ax_dd KX10_lowest 29 rfl) rfl ?_
        by_cases c3 : x5 = 0
        · rw [if_pos c3] at h
          cases h
        · rw [if_neg c3] at h
          refine ax_ldiv (pc := 53) (ax_dd KX10_lowest 30 rfl) c3 ?_
          obtain rfl := Option.some.inj h
          exact ax_lret (pc := 54) (ax_dd KX10_lowest 31 rfl) rfl rfl
      · rw [if_neg c2] at h
        refine ax_if_ne_t (pc := 43) (tgt := 50) (ax_dd KX10_lowest 25 rfl) (by decide) c2 ?_
        refine ax_lload_n (pc := 50) (i := 2) (q := 1) (ax_dd KX10_lowest 28 rfl) rfl rfl ?_
        refine ax_lload (pc := 51) (q := 3) (ax_dd KX10_lowest 29 rfl) rfl ?_
        by_cases c4 : x5 = 0
        · rw [if_pos c4] at h
          cases h
        · rw [if_neg c4] at h
          refine ax_ldiv (pc := 53) (ax_dd KX10_lowest 30 rfl) c4 ?_
          obtain rfl := Option.some.inj h
          exact ax_lret (pc := 54) (ax_dd KX10_lowest 31 rfl) rfl rfl
    · rw [if_neg c1] at h
      refine ax_if_eq_f (pc := 20) (tgt := 41) (ax_dd KX10_lowest 14 rfl) (by decide) c1 ?_
      refine ax_lload (pc := 23) (q := 3) (ax_dd KX10_lowest 15 rfl) rfl ?_
      refine ax_lload (pc := 25) (q := 4) (ax_dd KX10_lowest 16 rfl) rfl ?_
      by_cases c5 : x7 = 0
      · rw [if_pos c5] at h
        cases h
      · rw [if_neg c5] at h
        refine ax_lrem (pc := 27) (ax_dd KX10_lowest 17 rfl) c5 ?_
        refine ax_lstore (pc := 28) (lv' := [(9, .long (rmL x5 x7)), (0, .long x0), (2, .long x2), (4, .int x4), (5, .long x5), (7, .long x7)]) (ax_dd KX10_lowest 18 rfl) (by decide) rfl ?_
        refine ax_lload (pc := 30) (q := 5) (ax_dd KX10_lowest 19 rfl) rfl ?_
        refine ax_lstore (pc := 32) (lv' := [(5, .long x7), (9, .long (rmL x5 x7)), (0, .long x0), (2, .long x2), (4, .int x4), (7, .long x7)]) (ax_dd KX10_lowest 20 rfl) (by decide) rfl ?_
        refine ax_lload (pc := 34) (q := 1) (ax_dd KX10_lowest 21 rfl) rfl ?_
        refine ax_lstore (pc := 36) (lv' := [(7, .long (rmL x5 x7)), (5, .long x7), (9, .long (rmL x5 x7)), (0, .long x0), (2, .long x2), (4, .int x4)]) (ax_dd KX10_lowest 22 rfl) (by decide) rfl ?_
        refine ax_goto (pc := 38) (tgt := 16) (ax_dd KX10_lowest 23 rfl) (by decide) ?_
        refine ax_sub (lv' := [(0, .long x0), (2, .long x2), (4, .int x4), (5, .long x7), (7, .long (rmL x5 x7))]) [3, 4, 5, 1, 0] rfl ?_
        exact ih _ _ _ h
def m_X10_lowest (x0 : Int64) (x2 : Int64) (x4 : Int32) (μ : ax_M) : Option (Int64) :=
  if (lg_cmp x0 0) = 0 then
    some (x4.toInt64)
  else
    m_X10_lowest_16 x0 x2 x4 μ fu x0 x2
set_option maxRecDepth 100000 in
set_option maxHeartbeats 8000000 in
theorem c_X10_lowest {G : ax_G} {l : Launch} {sh : List ax_E} {x0 : Int64} {x2 : Int64} {x4 : Int32} {μ : ax_M} (hs : ∀ (k : Nat) (e : ax_E), SHF[k]? = some e → sh[k]? = some e) {v : Int64} (h : m_X10_lowest x0 x2 x4 μ = some v) : ax_A G l yX10_lowest cX10_lowest 11 (some .long) 2 [.long x0, .long x2, .int x4] sh μ (some (.long v), sh, μ) := by
  refine ax_A.of false (by decide +kernel) (fun h9 => by cases h9) (Nat.le_of_ble_eq_true rfl) (?_ : ax_X G l RX10 cX10_lowest 11 (some .long) false 2 (some (.long v), sh, μ) 0 [(0, .long x0), (2, .long x2), (4, .int x4)] [] sh μ)
  unfold m_X10_lowest at h
  refine ax_lload_n (pc := 0) (i := 0) (q := 0) (ax_dd KX10_lowest 0 rfl) rfl rfl ?_
  refine ax_lconst (pc := 1) (v := 0) (ax_dd KX10_lowest 1 rfl) (by decide) ?_
  refine ax_lcmp (pc := 2) (ax_dd KX10_lowest 2 rfl) ?_
  by_cases c1 : (lg_cmp x0 0) = 0
  · rw [if_pos c1] at h
    refine ax_if_ne_f (pc := 3) (tgt := 10) (ax_dd KX10_lowest 3 rfl) (by decide) (fun z => z c1) ?_
    refine ax_iload (pc := 6) (q := 2) (ax_dd KX10_lowest 4 rfl) rfl ?_
    refine ax_i2l (pc := 8) (ax_dd KX10_lowest 5 rfl) ?_
    obtain rfl := Option.some.inj h
    exact ax_lret (pc := 9) (ax_dd KX10_lowest 6 rfl) rfl rfl
  · rw [if_neg c1] at h
    refine ax_if_ne_t (pc := 3) (tgt := 10) (ax_dd KX10_lowest 3 rfl) (by decide) c1 ?_
    refine ax_lload_n (pc := 10) (i := 0) (q := 0) (ax_dd KX10_lowest 7 rfl) rfl rfl ?_
    refine ax_lstore (pc := 11) (lv' := [(5, .long x0), (0, .long x0), (2, .long x2), (4, .int x4)]) (ax_dd KX10_lowest 8 rfl) (by decide) rfl ?_
    refine ax_lload_n (pc := 13) (i := 2) (q := 2) (ax_dd KX10_lowest 9 rfl) rfl rfl ?_
    refine ax_lstore (pc := 14) (lv' := [(7, .long x2), (5, .long x0), (0, .long x0), (2, .long x2), (4, .int x4)]) (ax_dd KX10_lowest 10 rfl) (by decide) rfl ?_
    refine ax_sub (lv' := [(0, .long x0), (2, .long x2), (4, .int x4), (5, .long x0), (7, .long x2)]) [2, 3, 4, 1, 0] rfl ?_
    exact a_X10_lowest_16 hs fu _ _ _ h
def m_X10_share (x1 : Int32) (x2 : Int32) (μ : ax_M) : Option (Int64 × ax_M) :=
  (m_X10_isRug x1 μ).bind fun v1 =>
  if v1 = 0 then
    some ((-4611686018427387904), μ)
  else
    (m_X10_in x2 0 1 μ).bind fun v4 =>
    if v4 = 0 then
      some ((-4611686018427387904), μ)
    else
      bind2 (m_X10_ruledNow x1 μ) fun v7 μ9 =>
      (m_X10_lowest (v7.toInt64) 36 x2 μ9).bind fun v10 =>
      some (v10, μ9)
set_option maxRecDepth 100000 in
set_option maxHeartbeats 8000000 in
theorem c_X10_share {G : ax_G} {l : Launch} {sh : List ax_E} {x1 : Int32} {x2 : Int32} {μ : ax_M} (hs : ∀ (k : Nat) (e : ax_E), SHF[k]? = some e → sh[k]? = some e) {v : Int64 × ax_M} (h : m_X10_share x1 x2 μ = some v) : ax_A G l yX10_share cX10_share 3 (some .long) 8 [.ref (G.1 + 51), .int x1, .int x2] sh μ (some (.long v.1), sh, v.2) := by
  refine ax_A.of false (by decide +kernel) (fun h9 => by cases h9) (Nat.le_of_ble_eq_true rfl) (?_ : ax_X G l RX10 cX10_share 3 (some .long) false 8 (some (.long v.1), sh, v.2) 0 [(0, .ref (G.1 + 51)), (1, .int x1), (2, .int x2)] [] sh μ)
  unfold m_X10_share at h
  refine ax_aload_n (pc := 0) (i := 0) (q := 0) (ax_dd KX10_share 0 rfl) rfl rfl ?_
  refine ax_iload_n (pc := 1) (i := 1) (q := 1) (ax_dd KX10_share 1 rfl) rfl rfl ?_
  obtain ⟨v1, b2, h⟩ := ob_bind h
  refine ax_kV (pc := 2) (ci := 10) (k := 51) (As := [.int x1]) (rest := []) (st1 := [.int v1]) (μ1 := μ) (ax_dd KX10_share 2 rfl) (c_X10_isRug hs b2) kV_X10_167 e_X10_isRug (hs 51 _ rfl) cl_X10 (by decide) rfl rfl (by decide) (by decide) (Nat.le_of_ble_eq_true rfl) rfl ?_
  by_cases c3 : v1 = 0
  · rw [if_pos c3] at h
    refine ax_if_eq_t (pc := 5) (tgt := 33) (ax_dd KX10_share 3 rfl) (by decide) c3 ?_
    refine ax_ldc2 (pc := 33) (ax_dd KX10_share 17 rfl) c_X10_213 ?_
    obtain rfl := Option.some.inj h
    exact ax_lret (pc := 36) (ax_dd KX10_share 18 rfl) rfl rfl
  · rw [if_neg c3] at h
    refine ax_if_eq_f (pc := 5) (tgt := 33) (ax_dd KX10_share 3 rfl) (by decide) c3 ?_
    refine ax_iload_n (pc := 8) (i := 2) (q := 2) (ax_dd KX10_share 4 rfl) rfl rfl ?_
    refine ax_iconst (pc := 9) (v := 0) (ax_dd KX10_share 5 rfl) (by decide) ?_
    refine ax_iconst (pc := 10) (v := 1) (ax_dd KX10_share 6 rfl) (by decide) ?_
    obtain ⟨v4, b5, h⟩ := ob_bind h
    refine ax_kS (pc := 11) (As := [.int x2, .int 0, .int 1]) (rest := []) (st1 := [.int v4]) (μ1 := μ) (ax_dd KX10_share 7 rfl) (c_X10_in hs b5) kS_X10_81 e_X10_in rfl rfl (by decide) (by decide) (Nat.le_of_ble_eq_true rfl) rfl ?_
    by_cases c6 : v4 = 0
    · rw [if_pos c6] at h
      refine ax_if_eq_t (pc := 14) (tgt := 33) (ax_dd KX10_share 8 rfl) (by decide) c6 ?_
      refine ax_ldc2 (pc := 33) (ax_dd KX10_share 17 rfl) c_X10_213 ?_
      obtain rfl := Option.some.inj h
      exact ax_lret (pc := 36) (ax_dd KX10_share 18 rfl) rfl rfl
    · rw [if_neg c6] at h
      refine ax_if_eq_f (pc := 14) (tgt := 33) (ax_dd KX10_share 8 rfl) (by decide) c6 ?_
      refine ax_aload_n (pc := 17) (i := 0) (q := 0) (ax_dd KX10_share 9 rfl) rfl rfl ?_
      refine ax_iload_n (pc := 18) (i := 1) (q := 1) (ax_dd KX10_share 10 rfl) rfl rfl ?_
      obtain ⟨v7, μ9, b8, h⟩ := ob_bind2 h
      refine ax_kV (pc := 19) (ci := 10) (k := 51) (As := [.int x1]) (rest := []) (st1 := [.int v7]) (μ1 := μ9) (ax_dd KX10_share 11 rfl) (c_X10_ruledNow hs b8) kV_X10_204 e_X10_ruledNow (hs 51 _ rfl) cl_X10 (by decide) rfl rfl (by decide) (by decide) (Nat.le_of_ble_eq_true rfl) rfl ?_
      refine ax_i2l (pc := 22) (ax_dd KX10_share 12 rfl) ?_
      refine ax_ldc2 (pc := 23) (ax_dd KX10_share 13 rfl) c_X10_249 ?_
      refine ax_iload_n (pc := 26) (i := 2) (q := 2) (ax_dd KX10_share 14 rfl) rfl rfl ?_
      obtain ⟨v10, b11, h⟩ := ob_bind h
      refine ax_kS (pc := 27) (As := [.long (v7.toInt64), .long 36, .int x2]) (rest := []) (st1 := [.long v10]) (μ1 := μ9) (ax_dd KX10_share 15 rfl) (c_X10_lowest hs b11) kS_X10_251 e_X10_lowest rfl rfl (by decide) (by decide) (Nat.le_of_ble_eq_true rfl) rfl ?_
      refine ax_goto (pc := 30) (tgt := 36) (ax_dd KX10_share 16 rfl) (by decide) ?_
      obtain rfl := Option.some.inj h
      exact ax_lret (pc := 36) (ax_dd KX10_share 18 rfl) rfl rfl
def m_X10_mean_38 (x1 : Int32) (x2 : Int32) (x3 : Int32) : Nat → Int32 → Int32 → ax_M → Option (Int64 × ax_M)
  | 0, _, _, _ => none
  | n + 1, x4, x5, μ =>
    if 36 ≤ x5 then
      if x3 = 0 then
        some ((-4611686018427387904), μ)
      else
        (m_X10_lowest (x4.toInt64) (x3.toInt64) x2 μ).bind fun v3 =>
        some (v3, μ)
    else
      (ix 36 x5).bind fun j5 =>
      if (μ 68 j5) = x1 then
        bind2 (m_X10_finedAt x5 μ) fun v8 μ10 =>
        m_X10_mean_38 x1 x2 x3 n (x4 + v8) (x5 + 1) μ10
      else
        m_X10_mean_38 x1 x2 x3 n (x4 + 0) (x5 + 1) μ
set_option maxRecDepth 100000 in
set_option maxHeartbeats 8000000 in
theorem a_X10_mean_38 {G : ax_G} {l : Launch} {sh : List ax_E} {x1 : Int32} {x2 : Int32} {x3 : Int32} (hs : ∀ (k : Nat) (e : ax_E), SHF[k]? = some e → sh[k]? = some e) : ∀ (n : Nat) (x4 : Int32) (x5 : Int32) (μ : ax_M) (v : Int64 × ax_M), m_X10_mean_38 x1 x2 x3 n x4 x5 μ = some v → ax_X G l RX10 cX10_mean 6 (some .long) false 7 (some (.long v.1), sh, v.2) 38 [(0, .ref (G.1 + 51)), (1, .int x1), (2, .int x2), (3, .int x3), (4, .int x4), (5, .int x5)] [] sh μ := by
  intro n
  induction n with
  | zero =>
    intro x4 x5 μ v h
    rw [m_X10_mean_38] at h
    cases h
  | succ n ih =>
    intro x4 x5 μ v h
    rw [m_X10_mean_38] at h
    refine ax_iload (pc := 38) (q := 5) (ax_dd KX10_mean 22 rfl) rfl ?_
    refine ax_bipush (pc := 40) (v := 36) (ax_dd KX10_mean 23 rfl) (by decide) ?_
    by_cases c1 : 36 ≤ x5
    · rw [if_pos c1] at h
      refine ax_icmp_ge_t (pc := 42) (tgt := 77) (ax_dd KX10_mean 24 rfl) (by decide) c1 ?_
      refine ax_iload_n (pc := 77) (i := 3) (q := 3) (ax_dd KX10_mean 41 rfl) rfl rfl ?_
      by_cases c2 : x3 = 0
      · rw [if_pos c2] at h
        refine ax_if_ne_f (pc := 78) (tgt := 87) (ax_dd KX10_mean 42 rfl) (by decide) (fun z => z c2) ?_
        refine ax_ldc2 (pc := 81) (ax_dd KX10_mean 43 rfl) c_X10_213 ?_
        refine ax_goto (pc := 84) (tgt := 96) (ax_dd KX10_mean 44 rfl) (by decide) ?_
        obtain rfl := Option.some.inj h
        exact ax_lret (pc := 96) (ax_dd KX10_mean 51 rfl) rfl rfl
      · rw [if_neg c2] at h
        refine ax_if_ne_t (pc := 78) (tgt := 87) (ax_dd KX10_mean 42 rfl) (by decide) c2 ?_
        refine ax_iload (pc := 87) (q := 4) (ax_dd KX10_mean 45 rfl) rfl ?_
        refine ax_i2l (pc := 89) (ax_dd KX10_mean 46 rfl) ?_
        refine ax_iload_n (pc := 90) (i := 3) (q := 3) (ax_dd KX10_mean 47 rfl) rfl rfl ?_
        refine ax_i2l (pc := 91) (ax_dd KX10_mean 48 rfl) ?_
        refine ax_iload_n (pc := 92) (i := 2) (q := 2) (ax_dd KX10_mean 49 rfl) rfl rfl ?_
        obtain ⟨v3, b4, h⟩ := ob_bind h
        refine ax_kS (pc := 93) (As := [.long (x4.toInt64), .long (x3.toInt64), .int x2]) (rest := []) (st1 := [.long v3]) (μ1 := μ) (ax_dd KX10_mean 50 rfl) (c_X10_lowest hs b4) kS_X10_251 e_X10_lowest rfl rfl (by decide) (by decide) (Nat.le_of_ble_eq_true rfl) rfl ?_
        obtain rfl := Option.some.inj h
        exact ax_lret (pc := 96) (ax_dd KX10_mean 51 rfl) rfl rfl
    · rw [if_neg c1] at h
      refine ax_icmp_ge_f (pc := 42) (tgt := 77) (ax_dd KX10_mean 24 rfl) (by decide) c1 ?_
      refine ax_iload (pc := 45) (q := 4) (ax_dd KX10_mean 25 rfl) rfl ?_
      refine ax_aload_n (pc := 47) (i := 0) (q := 0) (ax_dd KX10_mean 26 rfl) rfl rfl ?_
      refine ax_getR (pc := 48) (k := 51) (q := 68) (ax_dd KX10_mean 27 rfl) f_X10_62 (hs 51 _ rfl) rfl ?_
      refine ax_iload (pc := 51) (q := 5) (ax_dd KX10_mean 28 rfl) rfl ?_
      obtain ⟨j5, b6, h⟩ := ob_bind h
      refine ax_ild (pc := 53) (k := 68) (N := 36) (j := j5) (ax_dd KX10_mean 29 rfl) (hs 68 _ rfl) b6 ?_
      refine ax_iload_n (pc := 54) (i := 1) (q := 1) (ax_dd KX10_mean 30 rfl) rfl rfl ?_
      by_cases c7 : (μ 68 j5) = x1
      · rw [if_pos c7] at h
        refine ax_icmp_ne_f (pc := 55) (tgt := 67) (ax_dd KX10_mean 31 rfl) (by decide) (fun z => z c7) ?_
        refine ax_aload_n (pc := 58) (i := 0) (q := 0) (ax_dd KX10_mean 32 rfl) rfl rfl ?_
        refine ax_iload (pc := 59) (q := 5) (ax_dd KX10_mean 33 rfl) rfl ?_
        obtain ⟨v8, μ10, b9, h⟩ := ob_bind2 h
        refine ax_kV (pc := 61) (ci := 10) (k := 51) (As := [.int x5]) (rest := [.int x4]) (st1 := [.int v8, .int x4]) (μ1 := μ10) (ax_dd KX10_mean 34 rfl) (c_X10_finedAt hs b9) kV_X10_207 e_X10_finedAt (hs 51 _ rfl) cl_X10 (by decide) rfl rfl (by decide) (by decide) (Nat.le_of_ble_eq_true rfl) rfl ?_
        refine ax_goto (pc := 64) (tgt := 68) (ax_dd KX10_mean 35 rfl) (by decide) ?_
        refine ax_iadd (pc := 68) (ax_dd KX10_mean 37 rfl) ?_
        refine ax_istore (pc := 69) (lv' := [(4, .int (x4 + v8)), (0, .ref (G.1 + 51)), (1, .int x1), (2, .int x2), (3, .int x3), (5, .int x5)]) (ax_dd KX10_mean 38 rfl) (by decide) rfl ?_
        refine ax_iinc (pc := 71) (q := 5) (v := (x5 + 1)) (lv' := [(5, .int (x5 + 1)), (4, .int (x4 + v8)), (0, .ref (G.1 + 51)), (1, .int x1), (2, .int x2), (3, .int x3)]) (ax_dd KX10_mean 39 rfl) rfl rfl (by decide) rfl ?_
        refine ax_goto (pc := 74) (tgt := 38) (ax_dd KX10_mean 40 rfl) (by decide) ?_
        refine ax_sub (lv' := [(0, .ref (G.1 + 51)), (1, .int x1), (2, .int x2), (3, .int x3), (4, .int (x4 + v8)), (5, .int (x5 + 1))]) [2, 3, 4, 5, 1, 0] rfl ?_
        exact ih _ _ _ _ h
      · rw [if_neg c7] at h
        refine ax_icmp_ne_t (pc := 55) (tgt := 67) (ax_dd KX10_mean 31 rfl) (by decide) c7 ?_
        refine ax_iconst (pc := 67) (v := 0) (ax_dd KX10_mean 36 rfl) (by decide) ?_
        refine ax_iadd (pc := 68) (ax_dd KX10_mean 37 rfl) ?_
        refine ax_istore (pc := 69) (lv' := [(4, .int (x4 + 0)), (0, .ref (G.1 + 51)), (1, .int x1), (2, .int x2), (3, .int x3), (5, .int x5)]) (ax_dd KX10_mean 38 rfl) (by decide) rfl ?_
        refine ax_iinc (pc := 71) (q := 5) (v := (x5 + 1)) (lv' := [(5, .int (x5 + 1)), (4, .int (x4 + 0)), (0, .ref (G.1 + 51)), (1, .int x1), (2, .int x2), (3, .int x3)]) (ax_dd KX10_mean 39 rfl) rfl rfl (by decide) rfl ?_
        refine ax_goto (pc := 74) (tgt := 38) (ax_dd KX10_mean 40 rfl) (by decide) ?_
        refine ax_sub (lv' := [(0, .ref (G.1 + 51)), (1, .int x1), (2, .int x2), (3, .int x3), (4, .int (x4 + 0)), (5, .int (x5 + 1))]) [2, 3, 4, 5, 1, 0] rfl ?_
        exact ih _ _ _ _ h
def m_X10_mean (x1 : Int32) (x2 : Int32) (μ : ax_M) : Option (Int64 × ax_M) :=
  (m_X10_isRug x1 μ).bind fun v1 =>
  if v1 = 0 then
    some ((-4611686018427387904), μ)
  else
    (m_X10_in x2 0 1 μ).bind fun v4 =>
    if v4 = 0 then
      some ((-4611686018427387904), μ)
    else
      (m_X10_rulesBut (-1) μ).bind fun μ9 =>
      (m_X10_ruledBy x1 μ9).bind fun v10 =>
      m_X10_mean_38 x1 x2 v10 fu 0 0 μ9
set_option maxRecDepth 100000 in
set_option maxHeartbeats 8000000 in
theorem c_X10_mean {G : ax_G} {l : Launch} {sh : List ax_E} {x1 : Int32} {x2 : Int32} {μ : ax_M} (hs : ∀ (k : Nat) (e : ax_E), SHF[k]? = some e → sh[k]? = some e) {v : Int64 × ax_M} (h : m_X10_mean x1 x2 μ = some v) : ax_A G l yX10_mean cX10_mean 6 (some .long) 7 [.ref (G.1 + 51), .int x1, .int x2] sh μ (some (.long v.1), sh, v.2) := by
  refine ax_A.of false (by decide +kernel) (fun h9 => by cases h9) (Nat.le_of_ble_eq_true rfl) (?_ : ax_X G l RX10 cX10_mean 6 (some .long) false 7 (some (.long v.1), sh, v.2) 0 [(0, .ref (G.1 + 51)), (1, .int x1), (2, .int x2)] [] sh μ)
  unfold m_X10_mean at h
  refine ax_aload_n (pc := 0) (i := 0) (q := 0) (ax_dd KX10_mean 0 rfl) rfl rfl ?_
  refine ax_iload_n (pc := 1) (i := 1) (q := 1) (ax_dd KX10_mean 1 rfl) rfl rfl ?_
  obtain ⟨v1, b2, h⟩ := ob_bind h
  refine ax_kV (pc := 2) (ci := 10) (k := 51) (As := [.int x1]) (rest := []) (st1 := [.int v1]) (μ1 := μ) (ax_dd KX10_mean 2 rfl) (c_X10_isRug hs b2) kV_X10_167 e_X10_isRug (hs 51 _ rfl) cl_X10 (by decide) rfl rfl (by decide) (by decide) (Nat.le_of_ble_eq_true rfl) rfl ?_
  by_cases c3 : v1 = 0
  · rw [if_pos c3] at h
    refine ax_if_eq_t (pc := 5) (tgt := 17) (ax_dd KX10_mean 3 rfl) (by decide) c3 ?_
    refine ax_ldc2 (pc := 17) (ax_dd KX10_mean 9 rfl) c_X10_213 ?_
    obtain rfl := Option.some.inj h
    exact ax_lret (pc := 20) (ax_dd KX10_mean 10 rfl) rfl rfl
  · rw [if_neg c3] at h
    refine ax_if_eq_f (pc := 5) (tgt := 17) (ax_dd KX10_mean 3 rfl) (by decide) c3 ?_
    refine ax_iload_n (pc := 8) (i := 2) (q := 2) (ax_dd KX10_mean 4 rfl) rfl rfl ?_
    refine ax_iconst (pc := 9) (v := 0) (ax_dd KX10_mean 5 rfl) (by decide) ?_
    refine ax_iconst (pc := 10) (v := 1) (ax_dd KX10_mean 6 rfl) (by decide) ?_
    obtain ⟨v4, b5, h⟩ := ob_bind h
    refine ax_kS (pc := 11) (As := [.int x2, .int 0, .int 1]) (rest := []) (st1 := [.int v4]) (μ1 := μ) (ax_dd KX10_mean 7 rfl) (c_X10_in hs b5) kS_X10_81 e_X10_in rfl rfl (by decide) (by decide) (Nat.le_of_ble_eq_true rfl) rfl ?_
    by_cases c6 : v4 = 0
    · rw [if_pos c6] at h
      refine ax_if_ne_f (pc := 14) (tgt := 21) (ax_dd KX10_mean 8 rfl) (by decide) (fun z => z c6) ?_
      refine ax_ldc2 (pc := 17) (ax_dd KX10_mean 9 rfl) c_X10_213 ?_
      obtain rfl := Option.some.inj h
      exact ax_lret (pc := 20) (ax_dd KX10_mean 10 rfl) rfl rfl
    · rw [if_neg c6] at h
      refine ax_if_ne_t (pc := 14) (tgt := 21) (ax_dd KX10_mean 8 rfl) (by decide) c6 ?_
      refine ax_aload_n (pc := 21) (i := 0) (q := 0) (ax_dd KX10_mean 11 rfl) rfl rfl ?_
      refine ax_iconst (pc := 22) (v := (-1)) (ax_dd KX10_mean 12 rfl) (by decide) ?_
      obtain ⟨μ9, b8, h⟩ := ob_bind h
      refine ax_kV (pc := 23) (ci := 10) (k := 51) (As := [.int (-1)]) (rest := []) (st1 := []) (μ1 := μ9) (ax_dd KX10_mean 13 rfl) (c_X10_rulesBut hs b8) kV_X10_198 e_X10_rulesBut (hs 51 _ rfl) cl_X10 (by decide) rfl rfl (by decide) (by decide) (Nat.le_of_ble_eq_true rfl) rfl ?_
      refine ax_aload_n (pc := 26) (i := 0) (q := 0) (ax_dd KX10_mean 14 rfl) rfl rfl ?_
      refine ax_iload_n (pc := 27) (i := 1) (q := 1) (ax_dd KX10_mean 15 rfl) rfl rfl ?_
      obtain ⟨v10, b11, h⟩ := ob_bind h
      refine ax_kV (pc := 28) (ci := 10) (k := 51) (As := [.int x1]) (rest := []) (st1 := [.int v10]) (μ1 := μ9) (ax_dd KX10_mean 16 rfl) (c_X10_ruledBy hs b11) kV_X10_201 e_X10_ruledBy (hs 51 _ rfl) cl_X10 (by decide) rfl rfl (by decide) (by decide) (Nat.le_of_ble_eq_true rfl) rfl ?_
      refine ax_istore_n (pc := 31) (i := 3) (lv' := [(3, .int v10), (0, .ref (G.1 + 51)), (1, .int x1), (2, .int x2)]) (ax_dd KX10_mean 17 rfl) rfl (by decide) rfl ?_
      refine ax_iconst (pc := 32) (v := 0) (ax_dd KX10_mean 18 rfl) (by decide) ?_
      refine ax_istore (pc := 33) (lv' := [(4, .int 0), (3, .int v10), (0, .ref (G.1 + 51)), (1, .int x1), (2, .int x2)]) (ax_dd KX10_mean 19 rfl) (by decide) rfl ?_
      refine ax_iconst (pc := 35) (v := 0) (ax_dd KX10_mean 20 rfl) (by decide) ?_
      refine ax_istore (pc := 36) (lv' := [(5, .int 0), (4, .int 0), (3, .int v10), (0, .ref (G.1 + 51)), (1, .int x1), (2, .int x2)]) (ax_dd KX10_mean 21 rfl) (by decide) rfl ?_
      refine ax_sub (lv' := [(0, .ref (G.1 + 51)), (1, .int x1), (2, .int x2), (3, .int v10), (4, .int 0), (5, .int 0)]) [3, 4, 5, 2, 1, 0] rfl ?_
      exact a_X10_mean_38 hs fu _ _ _ _ h
def m_X10_sheetWrong (x1 : Int32) (μ : ax_M) : Option (Int32) :=
  (m_X10_in x1 0 3 μ).bind fun v1 =>
  if v1 = 0 then
    some (-2)
  else
    (ix 4 x1).bind fun j4 =>
    if (μ 60 j4) = (-1) then
      some (-11)
    else
      (ix 4 x1).bind fun j7 =>
      if (μ 61 j7) ≤ 24 then
        some 0
      else
        some (-2)
set_option maxRecDepth 100000 in
set_option maxHeartbeats 8000000 in
theorem c_X10_sheetWrong {G : ax_G} {l : Launch} {sh : List ax_E} {x1 : Int32} {μ : ax_M} (hs : ∀ (k : Nat) (e : ax_E), SHF[k]? = some e → sh[k]? = some e) {v : Int32} (h : m_X10_sheetWrong x1 μ = some v) : ax_A G l yX10_sheetWrong cX10_sheetWrong 2 (some .int) 3 [.ref (G.1 + 51), .int x1] sh μ (some (.int v), sh, μ) := by
  refine ax_A.of false (by decide +kernel) (fun h9 => by cases h9) (Nat.le_of_ble_eq_true rfl) (?_ : ax_X G l RX10 cX10_sheetWrong 2 (some .int) false 3 (some (.int v), sh, μ) 0 [(0, .ref (G.1 + 51)), (1, .int x1)] [] sh μ)
  unfold m_X10_sheetWrong at h
  refine ax_iload_n (pc := 0) (i := 1) (q := 1) (ax_dd KX10_sheetWrong 0 rfl) rfl rfl ?_
  refine ax_iconst (pc := 1) (v := 0) (ax_dd KX10_sheetWrong 1 rfl) (by decide) ?_
  refine ax_iconst (pc := 2) (v := 3) (ax_dd KX10_sheetWrong 2 rfl) (by decide) ?_
  obtain ⟨v1, b2, h⟩ := ob_bind h
  refine ax_kS (pc := 3) (As := [.int x1, .int 0, .int 3]) (rest := []) (st1 := [.int v1]) (μ1 := μ) (ax_dd KX10_sheetWrong 3 rfl) (c_X10_in hs b2) kS_X10_81 e_X10_in rfl rfl (by decide) (by decide) (Nat.le_of_ble_eq_true rfl) rfl ?_
  by_cases c3 : v1 = 0
  · rw [if_pos c3] at h
    refine ax_if_ne_f (pc := 6) (tgt := 12) (ax_dd KX10_sheetWrong 4 rfl) (by decide) (fun z => z c3) ?_
    refine ax_bipush (pc := 9) (v := (-2)) (ax_dd KX10_sheetWrong 5 rfl) (by decide) ?_
    obtain rfl := Option.some.inj h
    exact ax_ireti (pc := 11) (ax_dd KX10_sheetWrong 6 rfl) ⟨_, rfl, rfl⟩ rfl
  · rw [if_neg c3] at h
    refine ax_if_ne_t (pc := 6) (tgt := 12) (ax_dd KX10_sheetWrong 4 rfl) (by decide) c3 ?_
    refine ax_aload_n (pc := 12) (i := 0) (q := 0) (ax_dd KX10_sheetWrong 7 rfl) rfl rfl ?_
    refine ax_getR (pc := 13) (k := 51) (q := 60) (ax_dd KX10_sheetWrong 8 rfl) f_X10_38 (hs 51 _ rfl) rfl ?_
    refine ax_iload_n (pc := 16) (i := 1) (q := 1) (ax_dd KX10_sheetWrong 9 rfl) rfl rfl ?_
    obtain ⟨j4, b5, h⟩ := ob_bind h
    refine ax_ild (pc := 17) (k := 60) (N := 4) (j := j4) (ax_dd KX10_sheetWrong 10 rfl) (hs 60 _ rfl) b5 ?_
    refine ax_iconst (pc := 18) (v := (-1)) (ax_dd KX10_sheetWrong 11 rfl) (by decide) ?_
    by_cases c6 : (μ 60 j4) = (-1)
    · rw [if_pos c6] at h
      refine ax_icmp_ne_f (pc := 19) (tgt := 25) (ax_dd KX10_sheetWrong 12 rfl) (by decide) (fun z => z c6) ?_
      refine ax_bipush (pc := 22) (v := (-11)) (ax_dd KX10_sheetWrong 13 rfl) (by decide) ?_
      obtain rfl := Option.some.inj h
      exact ax_ireti (pc := 24) (ax_dd KX10_sheetWrong 14 rfl) ⟨_, rfl, rfl⟩ rfl
    · rw [if_neg c6] at h
      refine ax_icmp_ne_t (pc := 19) (tgt := 25) (ax_dd KX10_sheetWrong 12 rfl) (by decide) c6 ?_
      refine ax_aload_n (pc := 25) (i := 0) (q := 0) (ax_dd KX10_sheetWrong 15 rfl) rfl rfl ?_
      refine ax_getR (pc := 26) (k := 51) (q := 61) (ax_dd KX10_sheetWrong 16 rfl) f_X10_41 (hs 51 _ rfl) rfl ?_
      refine ax_iload_n (pc := 29) (i := 1) (q := 1) (ax_dd KX10_sheetWrong 17 rfl) rfl rfl ?_
      obtain ⟨j7, b8, h⟩ := ob_bind h
      refine ax_ild (pc := 30) (k := 61) (N := 4) (j := j7) (ax_dd KX10_sheetWrong 18 rfl) (hs 61 _ rfl) b8 ?_
      refine ax_bipush (pc := 31) (v := 24) (ax_dd KX10_sheetWrong 19 rfl) (by decide) ?_
      by_cases c9 : (μ 61 j7) ≤ 24
      · rw [if_pos c9] at h
        refine ax_icmp_le_t (pc := 33) (tgt := 41) (ax_dd KX10_sheetWrong 20 rfl) (by decide) c9 ?_
        refine ax_iconst (pc := 41) (v := 0) (ax_dd KX10_sheetWrong 23 rfl) (by decide) ?_
        obtain rfl := Option.some.inj h
        exact ax_ireti (pc := 42) (ax_dd KX10_sheetWrong 24 rfl) ⟨_, rfl, rfl⟩ rfl
      · rw [if_neg c9] at h
        refine ax_icmp_le_f (pc := 33) (tgt := 41) (ax_dd KX10_sheetWrong 20 rfl) (by decide) c9 ?_
        refine ax_bipush (pc := 36) (v := (-2)) (ax_dd KX10_sheetWrong 21 rfl) (by decide) ?_
        refine ax_goto (pc := 38) (tgt := 42) (ax_dd KX10_sheetWrong 22 rfl) (by decide) ?_
        obtain rfl := Option.some.inj h
        exact ax_ireti (pc := 42) (ax_dd KX10_sheetWrong 24 rfl) ⟨_, rfl, rfl⟩ rfl
def m_X10_toldWrong (x1 : Int32) (x2 : Int32) (μ : ax_M) : Option (Int32) :=
  (m_X10_sheetWrong x1 μ).bind fun v1 =>
  if v1 = 0 then
    (m_X10_isCell x2 μ).bind fun v4 =>
    if v4 = 0 then
      some (-5)
    else
      some 0
  else
    some v1
set_option maxRecDepth 100000 in
set_option maxHeartbeats 8000000 in
theorem c_X10_toldWrong {G : ax_G} {l : Launch} {sh : List ax_E} {x1 : Int32} {x2 : Int32} {μ : ax_M} (hs : ∀ (k : Nat) (e : ax_E), SHF[k]? = some e → sh[k]? = some e) {v : Int32} (h : m_X10_toldWrong x1 x2 μ = some v) : ax_A G l yX10_toldWrong cX10_toldWrong 4 (some .int) 4 [.ref (G.1 + 51), .int x1, .int x2] sh μ (some (.int v), sh, μ) := by
  refine ax_A.of false (by decide +kernel) (fun h9 => by cases h9) (Nat.le_of_ble_eq_true rfl) (?_ : ax_X G l RX10 cX10_toldWrong 4 (some .int) false 4 (some (.int v), sh, μ) 0 [(0, .ref (G.1 + 51)), (1, .int x1), (2, .int x2)] [] sh μ)
  unfold m_X10_toldWrong at h
  refine ax_aload_n (pc := 0) (i := 0) (q := 0) (ax_dd KX10_toldWrong 0 rfl) rfl rfl ?_
  refine ax_iload_n (pc := 1) (i := 1) (q := 1) (ax_dd KX10_toldWrong 1 rfl) rfl rfl ?_
  obtain ⟨v1, b2, h⟩ := ob_bind h
  refine ax_kV (pc := 2) (ci := 10) (k := 51) (As := [.int x1]) (rest := []) (st1 := [.int v1]) (μ1 := μ) (ax_dd KX10_toldWrong 2 rfl) (c_X10_sheetWrong hs b2) kV_X10_255 e_X10_sheetWrong (hs 51 _ rfl) cl_X10 (by decide) rfl rfl (by decide) (by decide) (Nat.le_of_ble_eq_true rfl) rfl ?_
  refine ax_istore_n (pc := 5) (i := 3) (lv' := [(3, .int v1), (0, .ref (G.1 + 51)), (1, .int x1), (2, .int x2)]) (ax_dd KX10_toldWrong 3 rfl) rfl (by decide) rfl ?_
  refine ax_iload_n (pc := 6) (i := 3) (q := 0) (ax_dd KX10_toldWrong 4 rfl) rfl rfl ?_
  by_cases c3 : v1 = 0
  · rw [if_pos c3] at h
    refine ax_if_eq_t (pc := 7) (tgt := 14) (ax_dd KX10_toldWrong 5 rfl) (by decide) c3 ?_
    refine ax_iload_n (pc := 14) (i := 2) (q := 3) (ax_dd KX10_toldWrong 8 rfl) rfl rfl ?_
    obtain ⟨v4, b5, h⟩ := ob_bind h
    refine ax_kS (pc := 15) (As := [.int x2]) (rest := []) (st1 := [.int v4]) (μ1 := μ) (ax_dd KX10_toldWrong 9 rfl) (c_X10_isCell hs b5) kS_X10_170 e_X10_isCell rfl rfl (by decide) (by decide) (Nat.le_of_ble_eq_true rfl) rfl ?_
    by_cases c6 : v4 = 0
    · rw [if_pos c6] at h
      refine ax_if_eq_t (pc := 18) (tgt := 25) (ax_dd KX10_toldWrong 10 rfl) (by decide) c6 ?_
      refine ax_bipush (pc := 25) (v := (-5)) (ax_dd KX10_toldWrong 13 rfl) (by decide) ?_
      obtain rfl := Option.some.inj h
      exact ax_ireti (pc := 27) (ax_dd KX10_toldWrong 14 rfl) ⟨_, rfl, rfl⟩ rfl
    · rw [if_neg c6] at h
      refine ax_if_eq_f (pc := 18) (tgt := 25) (ax_dd KX10_toldWrong 10 rfl) (by decide) c6 ?_
      refine ax_iconst (pc := 21) (v := 0) (ax_dd KX10_toldWrong 11 rfl) (by decide) ?_
      refine ax_goto (pc := 22) (tgt := 27) (ax_dd KX10_toldWrong 12 rfl) (by decide) ?_
      obtain rfl := Option.some.inj h
      exact ax_ireti (pc := 27) (ax_dd KX10_toldWrong 14 rfl) ⟨_, rfl, rfl⟩ rfl
  · rw [if_neg c3] at h
    refine ax_if_eq_f (pc := 7) (tgt := 14) (ax_dd KX10_toldWrong 5 rfl) (by decide) c3 ?_
    refine ax_iload_n (pc := 10) (i := 3) (q := 0) (ax_dd KX10_toldWrong 6 rfl) rfl rfl ?_
    refine ax_goto (pc := 11) (tgt := 27) (ax_dd KX10_toldWrong 7 rfl) (by decide) ?_
    obtain rfl := Option.some.inj h
    exact ax_ireti (pc := 27) (ax_dd KX10_toldWrong 14 rfl) ⟨_, rfl, rfl⟩ rfl
def m_X10_unlike_11 (x1 : Int32) (x2 : Int32) (x3 : Int32) : Nat → Int32 → Int32 → ax_M → Option (Int32 × ax_M)
  | 0, _, _, _ => none
  | n + 1, x4, x5, μ =>
    (ix 4 x1).bind fun j1 =>
    if (μ 61 j1) ≤ x5 then
      some (x4, ax_w μ 51 4 x3)
    else
      if x4 = (-1) then
        (m_X10_rulesBut (-1) (ax_w μ 51 4 x5)).bind fun μ7 =>
        (ix 160 (((40 : Int32) * x1) + x5)).bind fun j8 =>
        bind2 (m_X10_finedAt x2 μ7) fun v10 μ12 =>
        if (μ7 62 j8) = v10 then
          m_X10_unlike_11 x1 x2 x3 n (-1) (x5 + 1) μ12
        else
          m_X10_unlike_11 x1 x2 x3 n x5 (x5 + 1) μ12
      else
        some (x4, ax_w μ 51 4 x3)
set_option maxRecDepth 100000 in
set_option maxHeartbeats 8000000 in
theorem a_X10_unlike_11 {G : ax_G} {l : Launch} {sh : List ax_E} {x1 : Int32} {x2 : Int32} {x3 : Int32} (hs : ∀ (k : Nat) (e : ax_E), SHF[k]? = some e → sh[k]? = some e) : ∀ (n : Nat) (x4 : Int32) (x5 : Int32) (μ : ax_M) (v : Int32 × ax_M), m_X10_unlike_11 x1 x2 x3 n x4 x5 μ = some v → ax_X G l RX10 cX10_unlike 6 (some .int) false 7 (some (.int v.1), sh, v.2) 11 [(0, .ref (G.1 + 51)), (1, .int x1), (2, .int x2), (3, .int x3), (4, .int x4), (5, .int x5)] [] sh μ := by
  intro n
  induction n with
  | zero =>
    intro x4 x5 μ v h
    rw [m_X10_unlike_11] at h
    cases h
  | succ n ih =>
    intro x4 x5 μ v h
    rw [m_X10_unlike_11] at h
    refine ax_iload (pc := 11) (q := 5) (ax_dd KX10_unlike 7 rfl) rfl ?_
    refine ax_aload_n (pc := 13) (i := 0) (q := 0) (ax_dd KX10_unlike 8 rfl) rfl rfl ?_
    refine ax_getR (pc := 14) (k := 51) (q := 61) (ax_dd KX10_unlike 9 rfl) f_X10_41 (hs 51 _ rfl) rfl ?_
    refine ax_iload_n (pc := 17) (i := 1) (q := 1) (ax_dd KX10_unlike 10 rfl) rfl rfl ?_
    obtain ⟨j1, b2, h⟩ := ob_bind h
    refine ax_ild (pc := 18) (k := 61) (N := 4) (j := j1) (ax_dd KX10_unlike 11 rfl) (hs 61 _ rfl) b2 ?_
    by_cases c3 : (μ 61 j1) ≤ x5
    · rw [if_pos c3] at h
      refine ax_icmp_ge_t (pc := 19) (tgt := 73) (ax_dd KX10_unlike 12 rfl) (by decide) c3 ?_
      refine ax_aload_n (pc := 73) (i := 0) (q := 0) (ax_dd KX10_unlike 40 rfl) rfl rfl ?_
      refine ax_iload_n (pc := 74) (i := 3) (q := 3) (ax_dd KX10_unlike 41 rfl) rfl rfl ?_
      refine ax_putI (pc := 75) (k := 51) (ax_dd KX10_unlike 42 rfl) f_X10_19 ft_X10 (hs 51 _ rfl) rfl (fun _ h9 => by cases h9; rfl) rfl rfl ?_
      refine ax_iload (pc := 78) (q := 4) (ax_dd KX10_unlike 43 rfl) rfl ?_
      obtain rfl := Option.some.inj h
      exact ax_ireti (pc := 80) (ax_dd KX10_unlike 44 rfl) ⟨_, rfl, rfl⟩ rfl
    · rw [if_neg c3] at h
      refine ax_icmp_ge_f (pc := 19) (tgt := 73) (ax_dd KX10_unlike 12 rfl) (by decide) c3 ?_
      refine ax_iload (pc := 22) (q := 4) (ax_dd KX10_unlike 13 rfl) rfl ?_
      refine ax_iconst (pc := 24) (v := (-1)) (ax_dd KX10_unlike 14 rfl) (by decide) ?_
      by_cases c4 : x4 = (-1)
      · rw [if_pos c4] at h
        refine ax_icmp_ne_f (pc := 25) (tgt := 73) (ax_dd KX10_unlike 15 rfl) (by decide) (fun z => z c4) ?_
        refine ax_aload_n (pc := 28) (i := 0) (q := 0) (ax_dd KX10_unlike 16 rfl) rfl rfl ?_
        refine ax_iload (pc := 29) (q := 5) (ax_dd KX10_unlike 17 rfl) rfl ?_
        refine ax_putI (pc := 31) (k := 51) (ax_dd KX10_unlike 18 rfl) f_X10_19 ft_X10 (hs 51 _ rfl) rfl (fun _ h9 => by cases h9; rfl) rfl rfl ?_
        refine ax_aload_n (pc := 34) (i := 0) (q := 0) (ax_dd KX10_unlike 19 rfl) rfl rfl ?_
        refine ax_iconst (pc := 35) (v := (-1)) (ax_dd KX10_unlike 20 rfl) (by decide) ?_
        obtain ⟨μ7, b6, h⟩ := ob_bind h
        refine ax_kV (pc := 36) (ci := 10) (k := 51) (As := [.int (-1)]) (rest := []) (st1 := []) (μ1 := μ7) (ax_dd KX10_unlike 21 rfl) (c_X10_rulesBut hs b6) kV_X10_198 e_X10_rulesBut (hs 51 _ rfl) cl_X10 (by decide) rfl rfl (by decide) (by decide) (Nat.le_of_ble_eq_true rfl) rfl ?_
        refine ax_aload_n (pc := 39) (i := 0) (q := 0) (ax_dd KX10_unlike 22 rfl) rfl rfl ?_
        refine ax_getR (pc := 40) (k := 51) (q := 62) (ax_dd KX10_unlike 23 rfl) f_X10_44 (hs 51 _ rfl) rfl ?_
        refine ax_bipush (pc := 43) (v := 40) (ax_dd KX10_unlike 24 rfl) (by decide) ?_
        refine ax_iload_n (pc := 45) (i := 1) (q := 1) (ax_dd KX10_unlike 25 rfl) rfl rfl ?_
        refine ax_imul (pc := 46) (ax_dd KX10_unlike 26 rfl) ?_
        refine ax_iload (pc := 47) (q := 5) (ax_dd KX10_unlike 27 rfl) rfl ?_
        refine ax_iadd (pc := 49) (ax_dd KX10_unlike 28 rfl) ?_
        obtain ⟨j8, b9, h⟩ := ob_bind h
        refine ax_ild (pc := 50) (k := 62) (N := 160) (j := j8) (ax_dd KX10_unlike 29 rfl) (hs 62 _ rfl) b9 ?_
        refine ax_aload_n (pc := 51) (i := 0) (q := 0) (ax_dd KX10_unlike 30 rfl) rfl rfl ?_
        refine ax_iload_n (pc := 52) (i := 2) (q := 2) (ax_dd KX10_unlike 31 rfl) rfl rfl ?_
        obtain ⟨v10, μ12, b11, h⟩ := ob_bind2 h
        refine ax_kV (pc := 53) (ci := 10) (k := 51) (As := [.int x2]) (rest := [.int (μ7 62 j8)]) (st1 := [.int v10, .int (μ7 62 j8)]) (μ1 := μ12) (ax_dd KX10_unlike 32 rfl) (c_X10_finedAt hs b11) kV_X10_207 e_X10_finedAt (hs 51 _ rfl) cl_X10 (by decide) rfl rfl (by decide) (by decide) (Nat.le_of_ble_eq_true rfl) rfl ?_
        by_cases c13 : (μ7 62 j8) = v10
        · rw [if_pos c13] at h
          refine ax_icmp_ne_f (pc := 56) (tgt := 63) (ax_dd KX10_unlike 33 rfl) (by decide) (fun z => z c13) ?_
          refine ax_iconst (pc := 59) (v := (-1)) (ax_dd KX10_unlike 34 rfl) (by decide) ?_
          refine ax_goto (pc := 60) (tgt := 65) (ax_dd KX10_unlike 35 rfl) (by decide) ?_
          refine ax_istore (pc := 65) (lv' := [(4, .int (-1)), (0, .ref (G.1 + 51)), (1, .int x1), (2, .int x2), (3, .int x3), (5, .int x5)]) (ax_dd KX10_unlike 37 rfl) (by decide) rfl ?_
          refine ax_iinc (pc := 67) (q := 5) (v := (x5 + 1)) (lv' := [(5, .int (x5 + 1)), (4, .int (-1)), (0, .ref (G.1 + 51)), (1, .int x1), (2, .int x2), (3, .int x3)]) (ax_dd KX10_unlike 38 rfl) rfl rfl (by decide) rfl ?_
          refine ax_goto (pc := 70) (tgt := 11) (ax_dd KX10_unlike 39 rfl) (by decide) ?_
          refine ax_sub (lv' := [(0, .ref (G.1 + 51)), (1, .int x1), (2, .int x2), (3, .int x3), (4, .int (-1)), (5, .int (x5 + 1))]) [2, 3, 4, 5, 1, 0] rfl ?_
          exact ih _ _ _ _ h
        · rw [if_neg c13] at h
          refine ax_icmp_ne_t (pc := 56) (tgt := 63) (ax_dd KX10_unlike 33 rfl) (by decide) c13 ?_
          refine ax_iload (pc := 63) (q := 5) (ax_dd KX10_unlike 36 rfl) rfl ?_
          refine ax_istore (pc := 65) (lv' := [(4, .int x5), (0, .ref (G.1 + 51)), (1, .int x1), (2, .int x2), (3, .int x3), (5, .int x5)]) (ax_dd KX10_unlike 37 rfl) (by decide) rfl ?_
          refine ax_iinc (pc := 67) (q := 5) (v := (x5 + 1)) (lv' := [(5, .int (x5 + 1)), (4, .int x5), (0, .ref (G.1 + 51)), (1, .int x1), (2, .int x2), (3, .int x3)]) (ax_dd KX10_unlike 38 rfl) rfl rfl (by decide) rfl ?_
          refine ax_goto (pc := 70) (tgt := 11) (ax_dd KX10_unlike 39 rfl) (by decide) ?_
          refine ax_sub (lv' := [(0, .ref (G.1 + 51)), (1, .int x1), (2, .int x2), (3, .int x3), (4, .int x5), (5, .int (x5 + 1))]) [2, 3, 4, 5, 1, 0] rfl ?_
          exact ih _ _ _ _ h
      · rw [if_neg c4] at h
        refine ax_icmp_ne_t (pc := 25) (tgt := 73) (ax_dd KX10_unlike 15 rfl) (by decide) c4 ?_
        refine ax_aload_n (pc := 73) (i := 0) (q := 0) (ax_dd KX10_unlike 40 rfl) rfl rfl ?_
        refine ax_iload_n (pc := 74) (i := 3) (q := 3) (ax_dd KX10_unlike 41 rfl) rfl rfl ?_
        refine ax_putI (pc := 75) (k := 51) (ax_dd KX10_unlike 42 rfl) f_X10_19 ft_X10 (hs 51 _ rfl) rfl (fun _ h9 => by cases h9; rfl) rfl rfl ?_
        refine ax_iload (pc := 78) (q := 4) (ax_dd KX10_unlike 43 rfl) rfl ?_
        obtain rfl := Option.some.inj h
        exact ax_ireti (pc := 80) (ax_dd KX10_unlike 44 rfl) ⟨_, rfl, rfl⟩ rfl
def m_X10_unlike (x1 : Int32) (x2 : Int32) (μ : ax_M) : Option (Int32 × ax_M) :=
  m_X10_unlike_11 x1 x2 (μ 51 4) fu (-1) 0 μ
set_option maxRecDepth 100000 in
set_option maxHeartbeats 8000000 in
theorem c_X10_unlike {G : ax_G} {l : Launch} {sh : List ax_E} {x1 : Int32} {x2 : Int32} {μ : ax_M} (hs : ∀ (k : Nat) (e : ax_E), SHF[k]? = some e → sh[k]? = some e) {v : Int32 × ax_M} (h : m_X10_unlike x1 x2 μ = some v) : ax_A G l yX10_unlike cX10_unlike 6 (some .int) 7 [.ref (G.1 + 51), .int x1, .int x2] sh μ (some (.int v.1), sh, v.2) := by
  refine ax_A.of false (by decide +kernel) (fun h9 => by cases h9) (Nat.le_of_ble_eq_true rfl) (?_ : ax_X G l RX10 cX10_unlike 6 (some .int) false 7 (some (.int v.1), sh, v.2) 0 [(0, .ref (G.1 + 51)), (1, .int x1), (2, .int x2)] [] sh μ)
  unfold m_X10_unlike at h
  refine ax_aload_n (pc := 0) (i := 0) (q := 0) (ax_dd KX10_unlike 0 rfl) rfl rfl ?_
  refine ax_getI (pc := 1) (k := 51) (ax_dd KX10_unlike 1 rfl) f_X10_19 (hs 51 _ rfl) rfl ?_
  refine ax_istore_n (pc := 4) (i := 3) (lv' := [(3, .int (μ 51 4)), (0, .ref (G.1 + 51)), (1, .int x1), (2, .int x2)]) (ax_dd KX10_unlike 2 rfl) rfl (by decide) rfl ?_
  refine ax_iconst (pc := 5) (v := (-1)) (ax_dd KX10_unlike 3 rfl) (by decide) ?_
  refine ax_istore (pc := 6) (lv' := [(4, .int (-1)), (3, .int (μ 51 4)), (0, .ref (G.1 + 51)), (1, .int x1), (2, .int x2)]) (ax_dd KX10_unlike 4 rfl) (by decide) rfl ?_
  refine ax_iconst (pc := 8) (v := 0) (ax_dd KX10_unlike 5 rfl) (by decide) ?_
  refine ax_istore (pc := 9) (lv' := [(5, .int 0), (4, .int (-1)), (3, .int (μ 51 4)), (0, .ref (G.1 + 51)), (1, .int x1), (2, .int x2)]) (ax_dd KX10_unlike 6 rfl) (by decide) rfl ?_
  refine ax_sub (lv' := [(0, .ref (G.1 + 51)), (1, .int x1), (2, .int x2), (3, .int (μ 51 4)), (4, .int (-1)), (5, .int 0)]) [3, 4, 5, 2, 1, 0] rfl ?_
  exact a_X10_unlike_11 hs fu _ _ _ _ h
def m_X10_judge (x1 : Int32) (x2 : Int32) (μ : ax_M) : Option (Int32 × ax_M) :=
  (m_X10_toldWrong x1 x2 μ).bind fun v1 =>
  if v1 = 0 then
    bind2 (m_X10_unlike x1 x2 μ) fun v4 μ6 =>
    some (v4, μ6)
  else
    some (v1, μ)
set_option maxRecDepth 100000 in
set_option maxHeartbeats 8000000 in
theorem c_X10_judge {G : ax_G} {l : Launch} {sh : List ax_E} {x1 : Int32} {x2 : Int32} {μ : ax_M} (hs : ∀ (k : Nat) (e : ax_E), SHF[k]? = some e → sh[k]? = some e) {v : Int32 × ax_M} (h : m_X10_judge x1 x2 μ = some v) : ax_A G l yX10_judge cX10_judge 4 (some .int) 8 [.ref (G.1 + 51), .int x1, .int x2] sh μ (some (.int v.1), sh, v.2) := by
  refine ax_A.of false (by decide +kernel) (fun h9 => by cases h9) (Nat.le_of_ble_eq_true rfl) (?_ : ax_X G l RX10 cX10_judge 4 (some .int) false 8 (some (.int v.1), sh, v.2) 0 [(0, .ref (G.1 + 51)), (1, .int x1), (2, .int x2)] [] sh μ)
  unfold m_X10_judge at h
  refine ax_aload_n (pc := 0) (i := 0) (q := 0) (ax_dd KX10_judge 0 rfl) rfl rfl ?_
  refine ax_iload_n (pc := 1) (i := 1) (q := 1) (ax_dd KX10_judge 1 rfl) rfl rfl ?_
  refine ax_iload_n (pc := 2) (i := 2) (q := 2) (ax_dd KX10_judge 2 rfl) rfl rfl ?_
  obtain ⟨v1, b2, h⟩ := ob_bind h
  refine ax_kV (pc := 3) (ci := 10) (k := 51) (As := [.int x1, .int x2]) (rest := []) (st1 := [.int v1]) (μ1 := μ) (ax_dd KX10_judge 3 rfl) (c_X10_toldWrong hs b2) kV_X10_258 e_X10_toldWrong (hs 51 _ rfl) cl_X10 (by decide) rfl rfl (by decide) (by decide) (Nat.le_of_ble_eq_true rfl) rfl ?_
  refine ax_istore_n (pc := 6) (i := 3) (lv' := [(3, .int v1), (0, .ref (G.1 + 51)), (1, .int x1), (2, .int x2)]) (ax_dd KX10_judge 4 rfl) rfl (by decide) rfl ?_
  refine ax_iload_n (pc := 7) (i := 3) (q := 0) (ax_dd KX10_judge 5 rfl) rfl rfl ?_
  by_cases c3 : v1 = 0
  · rw [if_pos c3] at h
    refine ax_if_ne_f (pc := 8) (tgt := 20) (ax_dd KX10_judge 6 rfl) (by decide) (fun z => z c3) ?_
    refine ax_aload_n (pc := 11) (i := 0) (q := 1) (ax_dd KX10_judge 7 rfl) rfl rfl ?_
    refine ax_iload_n (pc := 12) (i := 1) (q := 2) (ax_dd KX10_judge 8 rfl) rfl rfl ?_
    refine ax_iload_n (pc := 13) (i := 2) (q := 3) (ax_dd KX10_judge 9 rfl) rfl rfl ?_
    obtain ⟨v4, μ6, b5, h⟩ := ob_bind2 h
    refine ax_kV (pc := 14) (ci := 10) (k := 51) (As := [.int x1, .int x2]) (rest := []) (st1 := [.int v4]) (μ1 := μ6) (ax_dd KX10_judge 10 rfl) (c_X10_unlike hs b5) kV_X10_261 e_X10_unlike (hs 51 _ rfl) cl_X10 (by decide) rfl rfl (by decide) (by decide) (Nat.le_of_ble_eq_true rfl) rfl ?_
    refine ax_goto (pc := 17) (tgt := 21) (ax_dd KX10_judge 11 rfl) (by decide) ?_
    obtain rfl := Option.some.inj h
    exact ax_ireti (pc := 21) (ax_dd KX10_judge 13 rfl) ⟨_, rfl, rfl⟩ rfl
  · rw [if_neg c3] at h
    refine ax_if_ne_t (pc := 8) (tgt := 20) (ax_dd KX10_judge 6 rfl) (by decide) c3 ?_
    refine ax_iload_n (pc := 20) (i := 3) (q := 0) (ax_dd KX10_judge 12 rfl) rfl rfl ?_
    obtain rfl := Option.some.inj h
    exact ax_ireti (pc := 21) (ax_dd KX10_judge 13 rfl) ⟨_, rfl, rfl⟩ rfl
def m_X10_kinds_115 (x1 : Int32) (x2 : Int32) (x3 : Int32) (x4 : Int32) (x6 : Int32) (x7 : Int32) (x8 : Int32) (x9 : Int32) (s1 : Int32) (s2 : Int32) (k62 : Int32 → Int32 → ax_M → Option (Int32 × ax_M)) (μ : ax_M) : Option (Int32 × ax_M) :=
  (ix 6 s1).bind fun j1 =>
  bind2 (m_X10_unlike x1 x2 (ax_w μ 53 j1 s2)) fun v3 μ5 =>
  if v3 = (-1) then
    k62 (x8 ||| (shI (1 : Int32) x9)) (x9 + 1) μ5
  else
    k62 (x8 ||| 0) (x9 + 1) μ5
set_option maxRecDepth 100000 in
set_option maxHeartbeats 8000000 in
theorem a_X10_kinds_115 {G : ax_G} {l : Launch} {sh : List ax_E} {x1 : Int32} {x2 : Int32} {x3 : Int32} {x4 : Int32} {x6 : Int32} {x7 : Int32} {x8 : Int32} {x9 : Int32} {s1 : Int32} {s2 : Int32} {k62 : Int32 → Int32 → ax_M → Option (Int32 × ax_M)} {μ : ax_M} (hs : ∀ (k : Nat) (e : ax_E), SHF[k]? = some e → sh[k]? = some e) (hk62 : ∀ (x8 : Int32) (x9 : Int32) (μ : ax_M) (v : Int32 × ax_M), k62 x8 x9 μ = some v → ax_X G l RX10 cX10_kinds 10 (some .int) false 8 (some (.int v.1), sh, v.2) 62 [(0, .ref (G.1 + 51)), (1, .int x1), (2, .int x2), (3, .int x3), (4, .int x4), (6, .int x6), (7, .int x7), (8, .int x8), (9, .int x9)] [] sh μ) {v : Int32 × ax_M} (h : m_X10_kinds_115 x1 x2 x3 x4 x6 x7 x8 x9 s1 s2 k62 μ = some v) : ax_X G l RX10 cX10_kinds 10 (some .int) false 8 (some (.int v.1), sh, v.2) 115 [(0, .ref (G.1 + 51)), (1, .int x1), (2, .int x2), (3, .int x3), (4, .int x4), (6, .int x6), (7, .int x7), (8, .int x8), (9, .int x9)] [.int s2, .int s1, .ref (G.1 + 53)] sh μ := by
  unfold m_X10_kinds_115 at h
  obtain ⟨j1, b2, h⟩ := ob_bind h
  refine ax_ist (pc := 115) (k := 53) (N := 6) (j := j1) (ax_dd KX10_kinds 61 rfl) (hs 53 _ rfl) b2 ?_
  refine ax_iload (pc := 116) (q := 7) (ax_dd KX10_kinds 62 rfl) rfl ?_
  refine ax_aload_n (pc := 118) (i := 0) (q := 0) (ax_dd KX10_kinds 63 rfl) rfl rfl ?_
  refine ax_iload_n (pc := 119) (i := 1) (q := 1) (ax_dd KX10_kinds 64 rfl) rfl rfl ?_
  refine ax_iload_n (pc := 120) (i := 2) (q := 2) (ax_dd KX10_kinds 65 rfl) rfl rfl ?_
  obtain ⟨v3, μ5, b4, h⟩ := ob_bind2 h
  refine ax_kV (pc := 121) (ci := 10) (k := 51) (As := [.int x1, .int x2]) (rest := [.int x8]) (st1 := [.int v3, .int x8]) (μ1 := μ5) (ax_dd KX10_kinds 66 rfl) (c_X10_unlike hs b4) kV_X10_261 e_X10_unlike (hs 51 _ rfl) cl_X10 (by decide) rfl rfl (by decide) (by decide) (Nat.le_of_ble_eq_true rfl) rfl ?_
  refine ax_iconst (pc := 124) (v := (-1)) (ax_dd KX10_kinds 67 rfl) (by decide) ?_
  by_cases c6 : v3 = (-1)
  · rw [if_pos c6] at h
    refine ax_icmp_ne_f (pc := 125) (tgt := 135) (ax_dd KX10_kinds 68 rfl) (by decide) (fun z => z c6) ?_
    refine ax_iconst (pc := 128) (v := 1) (ax_dd KX10_kinds 69 rfl) (by decide) ?_
    refine ax_iload (pc := 129) (q := 8) (ax_dd KX10_kinds 70 rfl) rfl ?_
    refine ax_ishl (pc := 131) (ax_dd KX10_kinds 71 rfl) ?_
    refine ax_goto (pc := 132) (tgt := 136) (ax_dd KX10_kinds 72 rfl) (by decide) ?_
    refine ax_ior (pc := 136) (ax_dd KX10_kinds 74 rfl) ?_
    refine ax_istore (pc := 137) (lv' := [(8, .int (x8 ||| (shI (1 : Int32) x9))), (0, .ref (G.1 + 51)), (1, .int x1), (2, .int x2), (3, .int x3), (4, .int x4), (6, .int x6), (7, .int x7), (9, .int x9)]) (ax_dd KX10_kinds 75 rfl) (by decide) rfl ?_
    refine ax_iinc (pc := 139) (q := 8) (v := (x9 + 1)) (lv' := [(9, .int (x9 + 1)), (8, .int (x8 ||| (shI (1 : Int32) x9))), (0, .ref (G.1 + 51)), (1, .int x1), (2, .int x2), (3, .int x3), (4, .int x4), (6, .int x6), (7, .int x7)]) (ax_dd KX10_kinds 76 rfl) rfl rfl (by decide) rfl ?_
    refine ax_goto (pc := 142) (tgt := 62) (ax_dd KX10_kinds 77 rfl) (by decide) ?_
    refine ax_sub (lv' := [(0, .ref (G.1 + 51)), (1, .int x1), (2, .int x2), (3, .int x3), (4, .int x4), (6, .int x6), (7, .int x7), (8, .int (x8 ||| (shI (1 : Int32) x9))), (9, .int (x9 + 1))]) [2, 3, 4, 5, 6, 7, 8, 1, 0] rfl ?_
    exact hk62 _ _ _ _ h
  · rw [if_neg c6] at h
    refine ax_icmp_ne_t (pc := 125) (tgt := 135) (ax_dd KX10_kinds 68 rfl) (by decide) c6 ?_
    refine ax_iconst (pc := 135) (v := 0) (ax_dd KX10_kinds 73 rfl) (by decide) ?_
    refine ax_ior (pc := 136) (ax_dd KX10_kinds 74 rfl) ?_
    refine ax_istore (pc := 137) (lv' := [(8, .int (x8 ||| 0)), (0, .ref (G.1 + 51)), (1, .int x1), (2, .int x2), (3, .int x3), (4, .int x4), (6, .int x6), (7, .int x7), (9, .int x9)]) (ax_dd KX10_kinds 75 rfl) (by decide) rfl ?_
    refine ax_iinc (pc := 139) (q := 8) (v := (x9 + 1)) (lv' := [(9, .int (x9 + 1)), (8, .int (x8 ||| 0)), (0, .ref (G.1 + 51)), (1, .int x1), (2, .int x2), (3, .int x3), (4, .int x4), (6, .int x6), (7, .int x7)]) (ax_dd KX10_kinds 76 rfl) rfl rfl (by decide) rfl ?_
    refine ax_goto (pc := 142) (tgt := 62) (ax_dd KX10_kinds 77 rfl) (by decide) ?_
    refine ax_sub (lv' := [(0, .ref (G.1 + 51)), (1, .int x1), (2, .int x2), (3, .int x3), (4, .int x4), (6, .int x6), (7, .int x7), (8, .int (x8 ||| 0)), (9, .int (x9 + 1))]) [2, 3, 4, 5, 6, 7, 8, 1, 0] rfl ?_
    exact hk62 _ _ _ _ h
