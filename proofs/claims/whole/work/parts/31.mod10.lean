def m_X10_walksBy (x1 : Int32) (x2 : Int32) (μ : ax_M) : Option (ax_M) :=
  (m_X10_within (x2 / 100) 0 35 (ax_w (ax_w μ 51 31 0) 51 32 0)).bind fun v1 =>
  m_X10_walksBy_32 x2 fu ((x1.toInt64) + 1) 0 (ax_w (ax_w (ax_w μ 51 31 0) 51 32 0) 51 36 v1)
set_option maxRecDepth 100000 in
set_option maxHeartbeats 8000000 in
theorem c_X10_walksBy {G : ax_G} {l : Launch} {sh : List ax_E} {x1 : Int32} {x2 : Int32} {μ : ax_M} (hs : ∀ (k : Nat) (e : ax_E), SHF[k]? = some e → sh[k]? = some e) {v : ax_M} (h : m_X10_walksBy x1 x2 μ = some v) : ax_A G l yX10_walksBy cX10_walksBy 7 none 7 [.ref (G.1 + 51), .int x1, .int x2] sh μ (none, sh, v) := by
  refine ax_A.of false (by decide +kernel) (fun h9 => by cases h9) (Nat.le_of_ble_eq_true rfl) (?_ : ax_X G l RX10 cX10_walksBy 7 none false 7 (none, sh, v) 0 [(0, .ref (G.1 + 51)), (1, .int x1), (2, .int x2)] [] sh μ)
  unfold m_X10_walksBy at h
  refine ax_iload_n (pc := 0) (i := 1) (q := 1) (ax_dd KX10_walksBy 0 rfl) rfl rfl ?_
  refine ax_i2l (pc := 1) (ax_dd KX10_walksBy 1 rfl) ?_
  refine ax_lconst (pc := 2) (v := 1) (ax_dd KX10_walksBy 2 rfl) (by decide) ?_
  refine ax_ladd (pc := 3) (ax_dd KX10_walksBy 3 rfl) ?_
  refine ax_lstore_n (pc := 4) (i := 3) (lv' := [(3, .long ((x1.toInt64) + 1)), (0, .ref (G.1 + 51)), (1, .int x1), (2, .int x2)]) (ax_dd KX10_walksBy 4 rfl) rfl (by decide) rfl ?_
  refine ax_aload_n (pc := 5) (i := 0) (q := 1) (ax_dd KX10_walksBy 5 rfl) rfl rfl ?_
  refine ax_iconst (pc := 6) (v := 0) (ax_dd KX10_walksBy 6 rfl) (by decide) ?_
  refine ax_putI (pc := 7) (k := 51) (ax_dd KX10_walksBy 7 rfl) f_X10_221 ft_X10 (hs 51 _ rfl) rfl (fun _ h9 => by cases h9; rfl) rfl rfl ?_
  refine ax_aload_n (pc := 10) (i := 0) (q := 1) (ax_dd KX10_walksBy 8 rfl) rfl rfl ?_
  refine ax_iconst (pc := 11) (v := 0) (ax_dd KX10_walksBy 9 rfl) (by decide) ?_
  refine ax_putI (pc := 12) (k := 51) (ax_dd KX10_walksBy 10 rfl) f_X10_224 ft_X10 (hs 51 _ rfl) rfl (fun _ h9 => by cases h9; rfl) rfl rfl ?_
  refine ax_aload_n (pc := 15) (i := 0) (q := 1) (ax_dd KX10_walksBy 11 rfl) rfl rfl ?_
  refine ax_iload_n (pc := 16) (i := 2) (q := 3) (ax_dd KX10_walksBy 12 rfl) rfl rfl ?_
  refine ax_bipush (pc := 17) (v := 100) (ax_dd KX10_walksBy 13 rfl) (by decide) ?_
  refine ax_idiv (pc := 19) (ax_dd KX10_walksBy 14 rfl) (by decide) ?_
  refine ax_iconst (pc := 20) (v := 0) (ax_dd KX10_walksBy 15 rfl) (by decide) ?_
  refine ax_bipush (pc := 21) (v := 35) (ax_dd KX10_walksBy 16 rfl) (by decide) ?_
  obtain ⟨v1, b2, h⟩ := ob_bind h
  refine ax_kS (pc := 23) (As := [.int (x2 / 100), .int 0, .int 35]) (rest := [.ref (G.1 + 51)]) (st1 := [.int v1, .ref (G.1 + 51)]) (μ1 := ax_w (ax_w μ 51 31 0) 51 32 0) (ax_dd KX10_walksBy 17 rfl) (c_X10_within hs b2) kS_X10_164 e_X10_within rfl rfl (by decide) (by decide) (Nat.le_of_ble_eq_true rfl) rfl ?_
  refine ax_putI (pc := 26) (k := 51) (ax_dd KX10_walksBy 18 rfl) f_X10_268 ft_X10 (hs 51 _ rfl) rfl (fun _ h9 => by cases h9; rfl) rfl rfl ?_
  refine ax_iconst (pc := 29) (v := 0) (ax_dd KX10_walksBy 19 rfl) (by decide) ?_
  refine ax_istore (pc := 30) (lv' := [(5, .int 0), (3, .long ((x1.toInt64) + 1)), (0, .ref (G.1 + 51)), (1, .int x1), (2, .int x2)]) (ax_dd KX10_walksBy 20 rfl) (by decide) rfl ?_
  refine ax_sub (lv' := [(0, .ref (G.1 + 51)), (2, .int x2), (3, .long ((x1.toInt64) + 1)), (5, .int 0)]) [2, 4, 1, 0] rfl ?_
  exact a_X10_walksBy_32 hs fu _ _ _ _ h
def m_X10_drawn (x1 : Int32) (x2 : Int32) (x3 : Int32) (μ : ax_M) : Option (Int32 × ax_M) :=
  (m_X10_in x1 0 99999 μ).bind fun v1 =>
  if v1 = 0 then
    some ((-2), μ)
  else
    (m_X10_in x2 0 3599 μ).bind fun v4 =>
    if v4 = 0 then
      some ((-2), μ)
    else
      (m_X10_in x3 0 2 μ).bind fun v7 =>
      if v7 = 0 then
        some ((-2), μ)
      else
        (m_X10_rulesBut (-1) μ).bind fun μ12 =>
        (m_X10_walksBy x1 x2 μ12).bind fun μ15 =>
        if x3 = 0 then
          some ((μ15 51 31), μ15)
        else
          if x3 = 1 then
            some ((μ15 51 36), μ15)
          else
            some ((μ15 51 32), μ15)
set_option maxRecDepth 100000 in
set_option maxHeartbeats 8000000 in
theorem c_X10_drawn {G : ax_G} {l : Launch} {sh : List ax_E} {x1 : Int32} {x2 : Int32} {x3 : Int32} {μ : ax_M} (hs : ∀ (k : Nat) (e : ax_E), SHF[k]? = some e → sh[k]? = some e) {v : Int32 × ax_M} (h : m_X10_drawn x1 x2 x3 μ = some v) : ax_A G l yX10_drawn cX10_drawn 4 (some .int) 8 [.ref (G.1 + 51), .int x1, .int x2, .int x3] sh μ (some (.int v.1), sh, v.2) := by
  refine ax_A.of false (by decide +kernel) (fun h9 => by cases h9) (Nat.le_of_ble_eq_true rfl) (?_ : ax_X G l RX10 cX10_drawn 4 (some .int) false 8 (some (.int v.1), sh, v.2) 0 [(0, .ref (G.1 + 51)), (1, .int x1), (2, .int x2), (3, .int x3)] [] sh μ)
  unfold m_X10_drawn at h
  refine ax_iload_n (pc := 0) (i := 1) (q := 1) (ax_dd KX10_drawn 0 rfl) rfl rfl ?_
  refine ax_iconst (pc := 1) (v := 0) (ax_dd KX10_drawn 1 rfl) (by decide) ?_
  refine ax_ldcw (pc := 2) (ax_dd KX10_drawn 2 rfl) c_X10_277 ?_
  obtain ⟨v1, b2, h⟩ := ob_bind h
  refine ax_kS (pc := 5) (As := [.int x1, .int 0, .int 99999]) (rest := []) (st1 := [.int v1]) (μ1 := μ) (ax_dd KX10_drawn 3 rfl) (c_X10_in hs b2) kS_X10_81 e_X10_in rfl rfl (by decide) (by decide) (Nat.le_of_ble_eq_true rfl) rfl ?_
  by_cases c3 : v1 = 0
  · rw [if_pos c3] at h
    refine ax_if_eq_t (pc := 8) (tgt := 31) (ax_dd KX10_drawn 4 rfl) (by decide) c3 ?_
    refine ax_bipush (pc := 31) (v := (-2)) (ax_dd KX10_drawn 15 rfl) (by decide) ?_
    obtain rfl := Option.some.inj h
    exact ax_ireti (pc := 33) (ax_dd KX10_drawn 16 rfl) ⟨_, rfl, rfl⟩ rfl
  · rw [if_neg c3] at h
    refine ax_if_eq_f (pc := 8) (tgt := 31) (ax_dd KX10_drawn 4 rfl) (by decide) c3 ?_
    refine ax_iload_n (pc := 11) (i := 2) (q := 2) (ax_dd KX10_drawn 5 rfl) rfl rfl ?_
    refine ax_iconst (pc := 12) (v := 0) (ax_dd KX10_drawn 6 rfl) (by decide) ?_
    refine ax_sipush (pc := 13) (v := 3599) (ax_dd KX10_drawn 7 rfl) (by decide) ?_
    obtain ⟨v4, b5, h⟩ := ob_bind h
    refine ax_kS (pc := 16) (As := [.int x2, .int 0, .int 3599]) (rest := []) (st1 := [.int v4]) (μ1 := μ) (ax_dd KX10_drawn 8 rfl) (c_X10_in hs b5) kS_X10_81 e_X10_in rfl rfl (by decide) (by decide) (Nat.le_of_ble_eq_true rfl) rfl ?_
    by_cases c6 : v4 = 0
    · rw [if_pos c6] at h
      refine ax_if_eq_t (pc := 19) (tgt := 31) (ax_dd KX10_drawn 9 rfl) (by decide) c6 ?_
      refine ax_bipush (pc := 31) (v := (-2)) (ax_dd KX10_drawn 15 rfl) (by decide) ?_
      obtain rfl := Option.some.inj h
      exact ax_ireti (pc := 33) (ax_dd KX10_drawn 16 rfl) ⟨_, rfl, rfl⟩ rfl
    · rw [if_neg c6] at h
      refine ax_if_eq_f (pc := 19) (tgt := 31) (ax_dd KX10_drawn 9 rfl) (by decide) c6 ?_
      refine ax_iload_n (pc := 22) (i := 3) (q := 3) (ax_dd KX10_drawn 10 rfl) rfl rfl ?_
      refine ax_iconst (pc := 23) (v := 0) (ax_dd KX10_drawn 11 rfl) (by decide) ?_
      refine ax_iconst (pc := 24) (v := 2) (ax_dd KX10_drawn 12 rfl) (by decide) ?_
      obtain ⟨v7, b8, h⟩ := ob_bind h
      refine ax_kS (pc := 25) (As := [.int x3, .int 0, .int 2]) (rest := []) (st1 := [.int v7]) (μ1 := μ) (ax_dd KX10_drawn 13 rfl) (c_X10_in hs b8) kS_X10_81 e_X10_in rfl rfl (by decide) (by decide) (Nat.le_of_ble_eq_true rfl) rfl ?_
      by_cases c9 : v7 = 0
      · rw [if_pos c9] at h
        refine ax_if_ne_f (pc := 28) (tgt := 34) (ax_dd KX10_drawn 14 rfl) (by decide) (fun z => z c9) ?_
        refine ax_bipush (pc := 31) (v := (-2)) (ax_dd KX10_drawn 15 rfl) (by decide) ?_
        obtain rfl := Option.some.inj h
        exact ax_ireti (pc := 33) (ax_dd KX10_drawn 16 rfl) ⟨_, rfl, rfl⟩ rfl
      · rw [if_neg c9] at h
        refine ax_if_ne_t (pc := 28) (tgt := 34) (ax_dd KX10_drawn 14 rfl) (by decide) c9 ?_
        refine ax_aload_n (pc := 34) (i := 0) (q := 0) (ax_dd KX10_drawn 17 rfl) rfl rfl ?_
        refine ax_iconst (pc := 35) (v := (-1)) (ax_dd KX10_drawn 18 rfl) (by decide) ?_
        obtain ⟨μ12, b11, h⟩ := ob_bind h
        refine ax_kV (pc := 36) (ci := 10) (k := 51) (As := [.int (-1)]) (rest := []) (st1 := []) (μ1 := μ12) (ax_dd KX10_drawn 19 rfl) (c_X10_rulesBut hs b11) kV_X10_198 e_X10_rulesBut (hs 51 _ rfl) cl_X10 (by decide) rfl rfl (by decide) (by decide) (Nat.le_of_ble_eq_true rfl) rfl ?_
        refine ax_aload_n (pc := 39) (i := 0) (q := 0) (ax_dd KX10_drawn 20 rfl) rfl rfl ?_
        refine ax_iload_n (pc := 40) (i := 1) (q := 1) (ax_dd KX10_drawn 21 rfl) rfl rfl ?_
        refine ax_iload_n (pc := 41) (i := 2) (q := 2) (ax_dd KX10_drawn 22 rfl) rfl rfl ?_
        obtain ⟨μ15, b14, h⟩ := ob_bind h
        refine ax_kV (pc := 42) (ci := 10) (k := 51) (As := [.int x1, .int x2]) (rest := []) (st1 := []) (μ1 := μ15) (ax_dd KX10_drawn 23 rfl) (c_X10_walksBy hs b14) kV_X10_278 e_X10_walksBy (hs 51 _ rfl) cl_X10 (by decide) rfl rfl (by decide) (by decide) (Nat.le_of_ble_eq_true rfl) rfl ?_
        refine ax_iload_n (pc := 45) (i := 3) (q := 3) (ax_dd KX10_drawn 24 rfl) rfl rfl ?_
        by_cases c16 : x3 = 0
        · rw [if_pos c16] at h
          refine ax_if_ne_f (pc := 46) (tgt := 56) (ax_dd KX10_drawn 25 rfl) (by decide) (fun z => z c16) ?_
          refine ax_aload_n (pc := 49) (i := 0) (q := 0) (ax_dd KX10_drawn 26 rfl) rfl rfl ?_
          refine ax_getI (pc := 50) (k := 51) (ax_dd KX10_drawn 27 rfl) f_X10_221 (hs 51 _ rfl) rfl ?_
          refine ax_goto (pc := 53) (tgt := 72) (ax_dd KX10_drawn 28 rfl) (by decide) ?_
          obtain rfl := Option.some.inj h
          exact ax_ireti (pc := 72) (ax_dd KX10_drawn 37 rfl) ⟨_, rfl, rfl⟩ rfl
        · rw [if_neg c16] at h
          refine ax_if_ne_t (pc := 46) (tgt := 56) (ax_dd KX10_drawn 25 rfl) (by decide) c16 ?_
          refine ax_iload_n (pc := 56) (i := 3) (q := 3) (ax_dd KX10_drawn 29 rfl) rfl rfl ?_
          refine ax_iconst (pc := 57) (v := 1) (ax_dd KX10_drawn 30 rfl) (by decide) ?_
          by_cases c17 : x3 = 1
          · rw [if_pos c17] at h
            refine ax_icmp_ne_f (pc := 58) (tgt := 68) (ax_dd KX10_drawn 31 rfl) (by decide) (fun z => z c17) ?_
            refine ax_aload_n (pc := 61) (i := 0) (q := 0) (ax_dd KX10_drawn 32 rfl) rfl rfl ?_
            refine ax_getI (pc := 62) (k := 51) (ax_dd KX10_drawn 33 rfl) f_X10_268 (hs 51 _ rfl) rfl ?_
            refine ax_goto (pc := 65) (tgt := 72) (ax_dd KX10_drawn 34 rfl) (by decide) ?_
            obtain rfl := Option.some.inj h
            exact ax_ireti (pc := 72) (ax_dd KX10_drawn 37 rfl) ⟨_, rfl, rfl⟩ rfl
          · rw [if_neg c17] at h
            refine ax_icmp_ne_t (pc := 58) (tgt := 68) (ax_dd KX10_drawn 31 rfl) (by decide) c17 ?_
            refine ax_aload_n (pc := 68) (i := 0) (q := 0) (ax_dd KX10_drawn 35 rfl) rfl rfl ?_
            refine ax_getI (pc := 69) (k := 51) (ax_dd KX10_drawn 36 rfl) f_X10_224 (hs 51 _ rfl) rfl ?_
            obtain rfl := Option.some.inj h
            exact ax_ireti (pc := 72) (ax_dd KX10_drawn 37 rfl) ⟨_, rfl, rfl⟩ rfl
def m_X10_odds_81 (x1 : Int32) (x2 : Int32) (x3 : Int32) (x4 : Int32) (x5 : Int32) : Nat → Int64 → Int32 → ax_M → Option (Int64 × ax_M)
  | 0, _, _, _ => none
  | n + 1, x7, x9, μ =>
    if x2 ≤ x9 then
      (m_X10_lowest x7 (x2.toInt64) x5 μ).bind fun v2 =>
      some (v2, μ)
    else
      (m_X10_walksBy (x1 + x9) x3 μ).bind fun μ6 =>
      if (μ6 51 31) < x4 then
        m_X10_odds_81 x1 x2 x3 x4 x5 n (x7 + 0) (x9 + 1) μ6
      else
        m_X10_odds_81 x1 x2 x3 x4 x5 n (x7 + 1) (x9 + 1) μ6
set_option maxRecDepth 100000 in
set_option maxHeartbeats 8000000 in
theorem a_X10_odds_81 {G : ax_G} {l : Launch} {sh : List ax_E} {x1 : Int32} {x2 : Int32} {x3 : Int32} {x4 : Int32} {x5 : Int32} (hs : ∀ (k : Nat) (e : ax_E), SHF[k]? = some e → sh[k]? = some e) : ∀ (n : Nat) (x7 : Int64) (x9 : Int32) (μ : ax_M) (v : Int64 × ax_M), m_X10_odds_81 x1 x2 x3 x4 x5 n x7 x9 μ = some v → ax_X G l RX10 cX10_odds 10 (some .long) false 8 (some (.long v.1), sh, v.2) 81 [(0, .ref (G.1 + 51)), (1, .int x1), (2, .int x2), (3, .int x3), (4, .int x4), (5, .int x5), (7, .long x7), (9, .int x9)] [] sh μ := by
  intro n
  induction n with
  | zero =>
    intro x7 x9 μ v h
    rw [m_X10_odds_81] at h
    cases h
  | succ n ih =>
    intro x7 x9 μ v h
    rw [m_X10_odds_81] at h
    refine ax_iload (pc := 81) (q := 7) (ax_dd KX10_odds 40 rfl) rfl ?_
    refine ax_iload_n (pc := 83) (i := 2) (q := 2) (ax_dd KX10_odds 41 rfl) rfl rfl ?_
    by_cases c1 : x2 ≤ x9
    · rw [if_pos c1] at h
      refine ax_icmp_ge_t (pc := 84) (tgt := 121) (ax_dd KX10_odds 42 rfl) (by decide) c1 ?_
      refine ax_lload (pc := 121) (q := 6) (ax_dd KX10_odds 61 rfl) rfl ?_
      refine ax_iload_n (pc := 123) (i := 2) (q := 2) (ax_dd KX10_odds 62 rfl) rfl rfl ?_
      refine ax_i2l (pc := 124) (ax_dd KX10_odds 63 rfl) ?_
      refine ax_iload (pc := 125) (q := 5) (ax_dd KX10_odds 64 rfl) rfl ?_
      obtain ⟨v2, b3, h⟩ := ob_bind h
      refine ax_kS (pc := 127) (As := [.long x7, .long (x2.toInt64), .int x5]) (rest := []) (st1 := [.long v2]) (μ1 := μ) (ax_dd KX10_odds 65 rfl) (c_X10_lowest hs b3) kS_X10_251 e_X10_lowest rfl rfl (by decide) (by decide) (Nat.le_of_ble_eq_true rfl) rfl ?_
      obtain rfl := Option.some.inj h
      exact ax_lret (pc := 130) (ax_dd KX10_odds 66 rfl) rfl rfl
    · rw [if_neg c1] at h
      refine ax_icmp_ge_f (pc := 84) (tgt := 121) (ax_dd KX10_odds 42 rfl) (by decide) c1 ?_
      refine ax_aload_n (pc := 87) (i := 0) (q := 0) (ax_dd KX10_odds 43 rfl) rfl rfl ?_
      refine ax_iload_n (pc := 88) (i := 1) (q := 1) (ax_dd KX10_odds 44 rfl) rfl rfl ?_
      refine ax_iload (pc := 89) (q := 7) (ax_dd KX10_odds 45 rfl) rfl ?_
      refine ax_iadd (pc := 91) (ax_dd KX10_odds 46 rfl) ?_
      refine ax_iload_n (pc := 92) (i := 3) (q := 3) (ax_dd KX10_odds 47 rfl) rfl rfl ?_
      obtain ⟨μ6, b5, h⟩ := ob_bind h
      refine ax_kV (pc := 93) (ci := 10) (k := 51) (As := [.int (x1 + x9), .int x3]) (rest := []) (st1 := []) (μ1 := μ6) (ax_dd KX10_odds 48 rfl) (c_X10_walksBy hs b5) kV_X10_278 e_X10_walksBy (hs 51 _ rfl) cl_X10 (by decide) rfl rfl (by decide) (by decide) (Nat.le_of_ble_eq_true rfl) rfl ?_
      refine ax_lload (pc := 96) (q := 6) (ax_dd KX10_odds 49 rfl) rfl ?_
      refine ax_aload_n (pc := 98) (i := 0) (q := 0) (ax_dd KX10_odds 50 rfl) rfl rfl ?_
      refine ax_getI (pc := 99) (k := 51) (ax_dd KX10_odds 51 rfl) f_X10_221 (hs 51 _ rfl) rfl ?_
      refine ax_iload (pc := 102) (q := 4) (ax_dd KX10_odds 52 rfl) rfl ?_
      by_cases c7 : (μ6 51 31) < x4
      · rw [if_pos c7] at h
        refine ax_icmp_lt_t (pc := 104) (tgt := 111) (ax_dd KX10_odds 53 rfl) (by decide) c7 ?_
        refine ax_lconst (pc := 111) (v := 0) (ax_dd KX10_odds 56 rfl) (by decide) ?_
        refine ax_ladd (pc := 112) (ax_dd KX10_odds 57 rfl) ?_
        refine ax_lstore (pc := 113) (lv' := [(7, .long (x7 + 0)), (0, .ref (G.1 + 51)), (1, .int x1), (2, .int x2), (3, .int x3), (4, .int x4), (5, .int x5), (9, .int x9)]) (ax_dd KX10_odds 58 rfl) (by decide) rfl ?_
        refine ax_iinc (pc := 115) (q := 7) (v := (x9 + 1)) (lv' := [(9, .int (x9 + 1)), (7, .long (x7 + 0)), (0, .ref (G.1 + 51)), (1, .int x1), (2, .int x2), (3, .int x3), (4, .int x4), (5, .int x5)]) (ax_dd KX10_odds 59 rfl) rfl rfl (by decide) rfl ?_
        refine ax_goto (pc := 118) (tgt := 81) (ax_dd KX10_odds 60 rfl) (by decide) ?_
        refine ax_sub (lv' := [(0, .ref (G.1 + 51)), (1, .int x1), (2, .int x2), (3, .int x3), (4, .int x4), (5, .int x5), (7, .long (x7 + 0)), (9, .int (x9 + 1))]) [2, 3, 4, 5, 6, 7, 1, 0] rfl ?_
        exact ih _ _ _ _ h
      · rw [if_neg c7] at h
        refine ax_icmp_lt_f (pc := 104) (tgt := 111) (ax_dd KX10_odds 53 rfl) (by decide) c7 ?_
        refine ax_lconst (pc := 107) (v := 1) (ax_dd KX10_odds 54 rfl) (by decide) ?_
        refine ax_goto (pc := 108) (tgt := 112) (ax_dd KX10_odds 55 rfl) (by decide) ?_
        refine ax_ladd (pc := 112) (ax_dd KX10_odds 57 rfl) ?_
        refine ax_lstore (pc := 113) (lv' := [(7, .long (x7 + 1)), (0, .ref (G.1 + 51)), (1, .int x1), (2, .int x2), (3, .int x3), (4, .int x4), (5, .int x5), (9, .int x9)]) (ax_dd KX10_odds 58 rfl) (by decide) rfl ?_
        refine ax_iinc (pc := 115) (q := 7) (v := (x9 + 1)) (lv' := [(9, .int (x9 + 1)), (7, .long (x7 + 1)), (0, .ref (G.1 + 51)), (1, .int x1), (2, .int x2), (3, .int x3), (4, .int x4), (5, .int x5)]) (ax_dd KX10_odds 59 rfl) rfl rfl (by decide) rfl ?_
        refine ax_goto (pc := 118) (tgt := 81) (ax_dd KX10_odds 60 rfl) (by decide) ?_
        refine ax_sub (lv' := [(0, .ref (G.1 + 51)), (1, .int x1), (2, .int x2), (3, .int x3), (4, .int x4), (5, .int x5), (7, .long (x7 + 1)), (9, .int (x9 + 1))]) [2, 3, 4, 5, 6, 7, 1, 0] rfl ?_
        exact ih _ _ _ _ h
def m_X10_odds_37 (x1 : Int32) (x2 : Int32) (x3 : Int32) (x4 : Int32) (x5 : Int32) (s0 : Int32) (μ : ax_M) : Option (Int64 × ax_M) :=
  if s0 = 0 then
    some ((-4611686018427387904), μ)
  else
    (m_X10_in x4 0 99999 μ).bind fun v2 =>
    if v2 = 0 then
      some ((-4611686018427387904), μ)
    else
      (m_X10_in x5 0 1 μ).bind fun v5 =>
      if v5 = 0 then
        some ((-4611686018427387904), μ)
      else
        (m_X10_rulesBut (-1) μ).bind fun μ10 =>
        m_X10_odds_81 x1 x2 x3 x4 x5 fu 0 0 μ10
set_option maxRecDepth 100000 in
set_option maxHeartbeats 8000000 in
theorem a_X10_odds_37 {G : ax_G} {l : Launch} {sh : List ax_E} {x1 : Int32} {x2 : Int32} {x3 : Int32} {x4 : Int32} {x5 : Int32} {s0 : Int32} {μ : ax_M} (hs : ∀ (k : Nat) (e : ax_E), SHF[k]? = some e → sh[k]? = some e) {v : Int64 × ax_M} (h : m_X10_odds_37 x1 x2 x3 x4 x5 s0 μ = some v) : ax_X G l RX10 cX10_odds 10 (some .long) false 8 (some (.long v.1), sh, v.2) 37 [(0, .ref (G.1 + 51)), (1, .int x1), (2, .int x2), (3, .int x3), (4, .int x4), (5, .int x5)] [.int s0] sh μ := by
  unfold m_X10_odds_37 at h
  refine ax_istore (pc := 37) (lv' := [(6, .int s0), (0, .ref (G.1 + 51)), (1, .int x1), (2, .int x2), (3, .int x3), (4, .int x4), (5, .int x5)]) (ax_dd KX10_odds 18 rfl) (by decide) rfl ?_
  refine ax_iload (pc := 39) (q := 0) (ax_dd KX10_odds 19 rfl) rfl ?_
  by_cases c1 : s0 = 0
  · rw [if_pos c1] at h
    refine ax_if_eq_t (pc := 41) (tgt := 66) (ax_dd KX10_odds 20 rfl) (by decide) c1 ?_
    refine ax_ldc2 (pc := 66) (ax_dd KX10_odds 31 rfl) c_X10_213 ?_
    obtain rfl := Option.some.inj h
    exact ax_lret (pc := 69) (ax_dd KX10_odds 32 rfl) rfl rfl
  · rw [if_neg c1] at h
    refine ax_if_eq_f (pc := 41) (tgt := 66) (ax_dd KX10_odds 20 rfl) (by decide) c1 ?_
    refine ax_iload (pc := 44) (q := 5) (ax_dd KX10_odds 21 rfl) rfl ?_
    refine ax_iconst (pc := 46) (v := 0) (ax_dd KX10_odds 22 rfl) (by decide) ?_
    refine ax_ldcw (pc := 47) (ax_dd KX10_odds 23 rfl) c_X10_277 ?_
    obtain ⟨v2, b3, h⟩ := ob_bind h
    refine ax_kS (pc := 50) (As := [.int x4, .int 0, .int 99999]) (rest := []) (st1 := [.int v2]) (μ1 := μ) (ax_dd KX10_odds 24 rfl) (c_X10_in hs b3) kS_X10_81 e_X10_in rfl rfl (by decide) (by decide) (Nat.le_of_ble_eq_true rfl) rfl ?_
    by_cases c4 : v2 = 0
    · rw [if_pos c4] at h
      refine ax_if_eq_t (pc := 53) (tgt := 66) (ax_dd KX10_odds 25 rfl) (by decide) c4 ?_
      refine ax_ldc2 (pc := 66) (ax_dd KX10_odds 31 rfl) c_X10_213 ?_
      obtain rfl := Option.some.inj h
      exact ax_lret (pc := 69) (ax_dd KX10_odds 32 rfl) rfl rfl
    · rw [if_neg c4] at h
      refine ax_if_eq_f (pc := 53) (tgt := 66) (ax_dd KX10_odds 25 rfl) (by decide) c4 ?_
      refine ax_iload (pc := 56) (q := 6) (ax_dd KX10_odds 26 rfl) rfl ?_
      refine ax_iconst (pc := 58) (v := 0) (ax_dd KX10_odds 27 rfl) (by decide) ?_
      refine ax_iconst (pc := 59) (v := 1) (ax_dd KX10_odds 28 rfl) (by decide) ?_
      obtain ⟨v5, b6, h⟩ := ob_bind h
      refine ax_kS (pc := 60) (As := [.int x5, .int 0, .int 1]) (rest := []) (st1 := [.int v5]) (μ1 := μ) (ax_dd KX10_odds 29 rfl) (c_X10_in hs b6) kS_X10_81 e_X10_in rfl rfl (by decide) (by decide) (Nat.le_of_ble_eq_true rfl) rfl ?_
      by_cases c7 : v5 = 0
      · rw [if_pos c7] at h
        refine ax_if_ne_f (pc := 63) (tgt := 70) (ax_dd KX10_odds 30 rfl) (by decide) (fun z => z c7) ?_
        refine ax_ldc2 (pc := 66) (ax_dd KX10_odds 31 rfl) c_X10_213 ?_
        obtain rfl := Option.some.inj h
        exact ax_lret (pc := 69) (ax_dd KX10_odds 32 rfl) rfl rfl
      · rw [if_neg c7] at h
        refine ax_if_ne_t (pc := 63) (tgt := 70) (ax_dd KX10_odds 30 rfl) (by decide) c7 ?_
        refine ax_aload_n (pc := 70) (i := 0) (q := 1) (ax_dd KX10_odds 33 rfl) rfl rfl ?_
        refine ax_iconst (pc := 71) (v := (-1)) (ax_dd KX10_odds 34 rfl) (by decide) ?_
        obtain ⟨μ10, b9, h⟩ := ob_bind h
        refine ax_kV (pc := 72) (ci := 10) (k := 51) (As := [.int (-1)]) (rest := []) (st1 := []) (μ1 := μ10) (ax_dd KX10_odds 35 rfl) (c_X10_rulesBut hs b9) kV_X10_198 e_X10_rulesBut (hs 51 _ rfl) cl_X10 (by decide) rfl rfl (by decide) (by decide) (Nat.le_of_ble_eq_true rfl) rfl ?_
        refine ax_lconst (pc := 75) (v := 0) (ax_dd KX10_odds 36 rfl) (by decide) ?_
        refine ax_lstore (pc := 76) (lv' := [(7, .long 0), (6, .int s0), (0, .ref (G.1 + 51)), (1, .int x1), (2, .int x2), (3, .int x3), (4, .int x4), (5, .int x5)]) (ax_dd KX10_odds 37 rfl) (by decide) rfl ?_
        refine ax_iconst (pc := 78) (v := 0) (ax_dd KX10_odds 38 rfl) (by decide) ?_
        refine ax_istore (pc := 79) (lv' := [(9, .int 0), (7, .long 0), (6, .int s0), (0, .ref (G.1 + 51)), (1, .int x1), (2, .int x2), (3, .int x3), (4, .int x4), (5, .int x5)]) (ax_dd KX10_odds 39 rfl) (by decide) rfl ?_
        refine ax_sub (lv' := [(0, .ref (G.1 + 51)), (1, .int x1), (2, .int x2), (3, .int x3), (4, .int x4), (5, .int x5), (7, .long 0), (9, .int 0)]) [3, 4, 5, 6, 7, 8, 1, 0] rfl ?_
        exact a_X10_odds_81 hs fu _ _ _ _ h
def m_X10_odds (x1 : Int32) (x2 : Int32) (x3 : Int32) (x4 : Int32) (x5 : Int32) (μ : ax_M) : Option (Int64 × ax_M) :=
  (m_X10_in x1 0 99999 μ).bind fun v1 =>
  if v1 = 0 then
    m_X10_odds_37 x1 x2 x3 x4 x5 0 μ
  else
    (m_X10_in x2 1 40 μ).bind fun v4 =>
    if v4 = 0 then
      m_X10_odds_37 x1 x2 x3 x4 x5 0 μ
    else
      (m_X10_in x3 0 3599 μ).bind fun v7 =>
      if v7 = 0 then
        m_X10_odds_37 x1 x2 x3 x4 x5 0 μ
      else
        m_X10_odds_37 x1 x2 x3 x4 x5 1 μ
set_option maxRecDepth 100000 in
set_option maxHeartbeats 8000000 in
theorem c_X10_odds {G : ax_G} {l : Launch} {sh : List ax_E} {x1 : Int32} {x2 : Int32} {x3 : Int32} {x4 : Int32} {x5 : Int32} {μ : ax_M} (hs : ∀ (k : Nat) (e : ax_E), SHF[k]? = some e → sh[k]? = some e) {v : Int64 × ax_M} (h : m_X10_odds x1 x2 x3 x4 x5 μ = some v) : ax_A G l yX10_odds cX10_odds 10 (some .long) 8 [.ref (G.1 + 51), .int x1, .int x2, .int x3, .int x4, .int x5] sh μ (some (.long v.1), sh, v.2) := by
  refine ax_A.of false (by decide +kernel) (fun h9 => by cases h9) (Nat.le_of_ble_eq_true rfl) (?_ : ax_X G l RX10 cX10_odds 10 (some .long) false 8 (some (.long v.1), sh, v.2) 0 [(0, .ref (G.1 + 51)), (1, .int x1), (2, .int x2), (3, .int x3), (4, .int x4), (5, .int x5)] [] sh μ)
  unfold m_X10_odds at h
  refine ax_iload_n (pc := 0) (i := 1) (q := 1) (ax_dd KX10_odds 0 rfl) rfl rfl ?_
  refine ax_iconst (pc := 1) (v := 0) (ax_dd KX10_odds 1 rfl) (by decide) ?_
  refine ax_ldcw (pc := 2) (ax_dd KX10_odds 2 rfl) c_X10_277 ?_
  obtain ⟨v1, b2, h⟩ := ob_bind h
  refine ax_kS (pc := 5) (As := [.int x1, .int 0, .int 99999]) (rest := []) (st1 := [.int v1]) (μ1 := μ) (ax_dd KX10_odds 3 rfl) (c_X10_in hs b2) kS_X10_81 e_X10_in rfl rfl (by decide) (by decide) (Nat.le_of_ble_eq_true rfl) rfl ?_
  by_cases c3 : v1 = 0
  · rw [if_pos c3] at h
    refine ax_if_eq_t (pc := 8) (tgt := 36) (ax_dd KX10_odds 4 rfl) (by decide) c3 ?_
    refine ax_iconst (pc := 36) (v := 0) (ax_dd KX10_odds 17 rfl) (by decide) ?_
    exact a_X10_odds_37 hs h
  · rw [if_neg c3] at h
    refine ax_if_eq_f (pc := 8) (tgt := 36) (ax_dd KX10_odds 4 rfl) (by decide) c3 ?_
    refine ax_iload_n (pc := 11) (i := 2) (q := 2) (ax_dd KX10_odds 5 rfl) rfl rfl ?_
    refine ax_iconst (pc := 12) (v := 1) (ax_dd KX10_odds 6 rfl) (by decide) ?_
    refine ax_bipush (pc := 13) (v := 40) (ax_dd KX10_odds 7 rfl) (by decide) ?_
    obtain ⟨v4, b5, h⟩ := ob_bind h
    refine ax_kS (pc := 15) (As := [.int x2, .int 1, .int 40]) (rest := []) (st1 := [.int v4]) (μ1 := μ) (ax_dd KX10_odds 8 rfl) (c_X10_in hs b5) kS_X10_81 e_X10_in rfl rfl (by decide) (by decide) (Nat.le_of_ble_eq_true rfl) rfl ?_
    by_cases c6 : v4 = 0
    · rw [if_pos c6] at h
      refine ax_if_eq_t (pc := 18) (tgt := 36) (ax_dd KX10_odds 9 rfl) (by decide) c6 ?_
      refine ax_iconst (pc := 36) (v := 0) (ax_dd KX10_odds 17 rfl) (by decide) ?_
      exact a_X10_odds_37 hs h
    · rw [if_neg c6] at h
      refine ax_if_eq_f (pc := 18) (tgt := 36) (ax_dd KX10_odds 9 rfl) (by decide) c6 ?_
      refine ax_iload_n (pc := 21) (i := 3) (q := 3) (ax_dd KX10_odds 10 rfl) rfl rfl ?_
      refine ax_iconst (pc := 22) (v := 0) (ax_dd KX10_odds 11 rfl) (by decide) ?_
      refine ax_sipush (pc := 23) (v := 3599) (ax_dd KX10_odds 12 rfl) (by decide) ?_
      obtain ⟨v7, b8, h⟩ := ob_bind h
      refine ax_kS (pc := 26) (As := [.int x3, .int 0, .int 3599]) (rest := []) (st1 := [.int v7]) (μ1 := μ) (ax_dd KX10_odds 13 rfl) (c_X10_in hs b8) kS_X10_81 e_X10_in rfl rfl (by decide) (by decide) (Nat.le_of_ble_eq_true rfl) rfl ?_
      by_cases c9 : v7 = 0
      · rw [if_pos c9] at h
        refine ax_if_eq_t (pc := 29) (tgt := 36) (ax_dd KX10_odds 14 rfl) (by decide) c9 ?_
        refine ax_iconst (pc := 36) (v := 0) (ax_dd KX10_odds 17 rfl) (by decide) ?_
        exact a_X10_odds_37 hs h
      · rw [if_neg c9] at h
        refine ax_if_eq_f (pc := 29) (tgt := 36) (ax_dd KX10_odds 14 rfl) (by decide) c9 ?_
        refine ax_iconst (pc := 32) (v := 1) (ax_dd KX10_odds 15 rfl) (by decide) ?_
        refine ax_goto (pc := 33) (tgt := 37) (ax_dd KX10_odds 16 rfl) (by decide) ?_
        exact a_X10_odds_37 hs h
def m_X10_image_7 : Nat → Int32 → ax_M → Option (Int32 × ax_M)
  | 0, _, _ => none
  | n + 1, x1, μ =>
    if 18 ≤ x1 then
      some (((ax_w (ax_w (ax_w μ 59 0 (μ 51 0)) 59 1 ((ax_w μ 59 0 (μ 51 0)) 51 4)) 59 2 ((ax_w (ax_w μ 59 0 (μ 51 0)) 59 1 ((ax_w μ 59 0 (μ 51 0)) 51 4)) 51 10)) 51 0), ax_w (ax_w (ax_w μ 59 0 (μ 51 0)) 59 1 ((ax_w μ 59 0 (μ 51 0)) 51 4)) 59 2 ((ax_w (ax_w μ 59 0 (μ 51 0)) 59 1 ((ax_w μ 59 0 (μ 51 0)) 51 4)) 51 10))
    else
      (ix 18 x1).bind fun j8 =>
      (ix 18 x1).bind fun j10 =>
      m_X10_image_7 n (x1 + 1) (ax_w μ 58 j10 (μ 54 j8))
set_option maxRecDepth 100000 in
set_option maxHeartbeats 8000000 in
theorem a_X10_image_7 {G : ax_G} {l : Launch} {sh : List ax_E} (hs : ∀ (k : Nat) (e : ax_E), SHF[k]? = some e → sh[k]? = some e) : ∀ (n : Nat) (x1 : Int32) (μ : ax_M) (v : Int32 × ax_M), m_X10_image_7 n x1 μ = some v → ax_X G l RX10 cX10_image 2 (some .int) false 2 (some (.int v.1), sh, v.2) 7 [(0, .ref (G.1 + 51)), (1, .int x1)] [] sh μ := by
  intro n
  induction n with
  | zero =>
    intro x1 μ v h
    rw [m_X10_image_7] at h
    cases h
  | succ n ih =>
    intro x1 μ v h
    rw [m_X10_image_7] at h
    refine ax_iload_n (pc := 7) (i := 1) (q := 1) (ax_dd KX10_image 5 rfl) rfl rfl ?_
    refine ax_bipush (pc := 8) (v := 18) (ax_dd KX10_image 6 rfl) (by decide) ?_
    by_cases c1 : 18 ≤ x1
    · rw [if_pos c1] at h
      refine ax_icmp_ge_t (pc := 10) (tgt := 31) (ax_dd KX10_image 7 rfl) (by decide) c1 ?_
      refine ax_aload_n (pc := 31) (i := 0) (q := 0) (ax_dd KX10_image 18 rfl) rfl rfl ?_
      refine ax_getR (pc := 32) (k := 51) (q := 59) (ax_dd KX10_image 19 rfl) f_X10_35 (hs 51 _ rfl) rfl ?_
      refine ax_iconst (pc := 35) (v := 0) (ax_dd KX10_image 20 rfl) (by decide) ?_
      refine ax_aload_n (pc := 36) (i := 0) (q := 0) (ax_dd KX10_image 21 rfl) rfl rfl ?_
      refine ax_getI (pc := 37) (k := 51) (ax_dd KX10_image 22 rfl) f_X10_78 (hs 51 _ rfl) rfl ?_
      refine ax_iast (pc := 40) (k := 59) (n := 3) (ax_dd KX10_image 23 rfl) (hs 59 _ rfl) (ax_inC (by decide)) ?_
      show ax_X G l RX10 cX10_image 2 (some .int) false 2 _ 41 [(0, .ref (G.1 + 51)), (1, .int x1)] [] sh (ax_w μ 59 0 (μ 51 0))
      refine ax_aload_n (pc := 41) (i := 0) (q := 0) (ax_dd KX10_image 24 rfl) rfl rfl ?_
      refine ax_getR (pc := 42) (k := 51) (q := 59) (ax_dd KX10_image 25 rfl) f_X10_35 (hs 51 _ rfl) rfl ?_
      refine ax_iconst (pc := 45) (v := 1) (ax_dd KX10_image 26 rfl) (by decide) ?_
      refine ax_aload_n (pc := 46) (i := 0) (q := 0) (ax_dd KX10_image 27 rfl) rfl rfl ?_
      refine ax_getI (pc := 47) (k := 51) (ax_dd KX10_image 28 rfl) f_X10_19 (hs 51 _ rfl) rfl ?_
      refine ax_iast (pc := 50) (k := 59) (n := 3) (ax_dd KX10_image 29 rfl) (hs 59 _ rfl) (ax_inC (by decide)) ?_
      show ax_X G l RX10 cX10_image 2 (some .int) false 2 _ 51 [(0, .ref (G.1 + 51)), (1, .int x1)] [] sh (ax_w (ax_w μ 59 0 (μ 51 0)) 59 1 ((ax_w μ 59 0 (μ 51 0)) 51 4))
      refine ax_aload_n (pc := 51) (i := 0) (q := 0) (ax_dd KX10_image 30 rfl) rfl rfl ?_
      refine ax_getR (pc := 52) (k := 51) (q := 59) (ax_dd KX10_image 31 rfl) f_X10_35 (hs 51 _ rfl) rfl ?_
      refine ax_iconst (pc := 55) (v := 2) (ax_dd KX10_image 32 rfl) (by decide) ?_
      refine ax_aload_n (pc := 56) (i := 0) (q := 0) (ax_dd KX10_image 33 rfl) rfl rfl ?_
      refine ax_getI (pc := 57) (k := 51) (ax_dd KX10_image 34 rfl) f_X10_92 (hs 51 _ rfl) rfl ?_
      refine ax_iast (pc := 60) (k := 59) (n := 3) (ax_dd KX10_image 35 rfl) (hs 59 _ rfl) (ax_inC (by decide)) ?_
      show ax_X G l RX10 cX10_image 2 (some .int) false 2 _ 61 [(0, .ref (G.1 + 51)), (1, .int x1)] [] sh (ax_w (ax_w (ax_w μ 59 0 (μ 51 0)) 59 1 ((ax_w μ 59 0 (μ 51 0)) 51 4)) 59 2 ((ax_w (ax_w μ 59 0 (μ 51 0)) 59 1 ((ax_w μ 59 0 (μ 51 0)) 51 4)) 51 10))
      refine ax_aload_n (pc := 61) (i := 0) (q := 0) (ax_dd KX10_image 36 rfl) rfl rfl ?_
      refine ax_getI (pc := 62) (k := 51) (ax_dd KX10_image 37 rfl) f_X10_78 (hs 51 _ rfl) rfl ?_
      obtain rfl := Option.some.inj h
      exact ax_ireti (pc := 65) (ax_dd KX10_image 38 rfl) ⟨_, rfl, rfl⟩ rfl
    · rw [if_neg c1] at h
      refine ax_icmp_ge_f (pc := 10) (tgt := 31) (ax_dd KX10_image 7 rfl) (by decide) c1 ?_
      refine ax_aload_n (pc := 13) (i := 0) (q := 0) (ax_dd KX10_image 8 rfl) rfl rfl ?_
      refine ax_getR (pc := 14) (k := 51) (q := 58) (ax_dd KX10_image 9 rfl) f_X10_32 (hs 51 _ rfl) rfl ?_
      refine ax_iload_n (pc := 17) (i := 1) (q := 1) (ax_dd KX10_image 10 rfl) rfl rfl ?_
      refine ax_aload_n (pc := 18) (i := 0) (q := 0) (ax_dd KX10_image 11 rfl) rfl rfl ?_
      refine ax_getR (pc := 19) (k := 51) (q := 54) (ax_dd KX10_image 12 rfl) f_X10_16 (hs 51 _ rfl) rfl ?_
      refine ax_iload_n (pc := 22) (i := 1) (q := 1) (ax_dd KX10_image 13 rfl) rfl rfl ?_
      obtain ⟨j8, b9, h⟩ := ob_bind h
      refine ax_ild (pc := 23) (k := 54) (N := 18) (j := j8) (ax_dd KX10_image 14 rfl) (hs 54 _ rfl) b9 ?_
      obtain ⟨j10, b11, h⟩ := ob_bind h
      refine ax_ist (pc := 24) (k := 58) (N := 18) (j := j10) (ax_dd KX10_image 15 rfl) (hs 58 _ rfl) b11 ?_
      refine ax_iinc (pc := 25) (q := 1) (v := (x1 + 1)) (lv' := [(1, .int (x1 + 1)), (0, .ref (G.1 + 51))]) (ax_dd KX10_image 16 rfl) rfl rfl (by decide) rfl ?_
      refine ax_goto (pc := 28) (tgt := 7) (ax_dd KX10_image 17 rfl) (by decide) ?_
      refine ax_sub (lv' := [(0, .ref (G.1 + 51)), (1, .int (x1 + 1))]) [1, 0] rfl ?_
      exact ih _ _ _ h
def m_X10_image (μ : ax_M) : Option (Int32 × ax_M) :=
  m_X10_image_7 fu 0 (ax_w μ 51 11 1)
set_option maxRecDepth 100000 in
set_option maxHeartbeats 8000000 in
theorem c_X10_image {G : ax_G} {l : Launch} {sh : List ax_E} {μ : ax_M} (hs : ∀ (k : Nat) (e : ax_E), SHF[k]? = some e → sh[k]? = some e) {v : Int32 × ax_M} (h : m_X10_image μ = some v) : ax_A G l yX10_image cX10_image 2 (some .int) 2 [.ref (G.1 + 51)] sh μ (some (.int v.1), sh, v.2) := by
  refine ax_A.of false (by decide +kernel) (fun h9 => by cases h9) (Nat.le_of_ble_eq_true rfl) (?_ : ax_X G l RX10 cX10_image 2 (some .int) false 2 (some (.int v.1), sh, v.2) 0 [(0, .ref (G.1 + 51))] [] sh μ)
  unfold m_X10_image at h
  refine ax_aload_n (pc := 0) (i := 0) (q := 0) (ax_dd KX10_image 0 rfl) rfl rfl ?_
  refine ax_iconst (pc := 1) (v := 1) (ax_dd KX10_image 1 rfl) (by decide) ?_
  refine ax_putI (pc := 2) (k := 51) (ax_dd KX10_image 2 rfl) f_X10_282 ft_X10 (hs 51 _ rfl) rfl (fun _ h9 => by cases h9; rfl) rfl rfl ?_
  refine ax_iconst (pc := 5) (v := 0) (ax_dd KX10_image 3 rfl) (by decide) ?_
  refine ax_istore_n (pc := 6) (i := 1) (lv' := [(1, .int 0), (0, .ref (G.1 + 51))]) (ax_dd KX10_image 4 rfl) rfl (by decide) rfl ?_
  refine ax_sub (lv' := [(0, .ref (G.1 + 51)), (1, .int 0)]) [1, 0] rfl ?_
  exact a_X10_image_7 hs fu _ _ _ h
def m_X10_back_12 : Nat → Int32 → ax_M → Option (Int32 × ax_M)
  | 0, _, _ => none
  | n + 1, x1, μ =>
    if 18 ≤ x1 then
      some (((ax_w (ax_w (ax_w μ 51 0 (μ 59 0)) 51 4 ((ax_w μ 51 0 (μ 59 0)) 59 1)) 51 10 ((ax_w (ax_w μ 51 0 (μ 59 0)) 51 4 ((ax_w μ 51 0 (μ 59 0)) 59 1)) 59 2)) 51 0), ax_w (ax_w (ax_w μ 51 0 (μ 59 0)) 51 4 ((ax_w μ 51 0 (μ 59 0)) 59 1)) 51 10 ((ax_w (ax_w μ 51 0 (μ 59 0)) 51 4 ((ax_w μ 51 0 (μ 59 0)) 59 1)) 59 2))
    else
      (ix 18 x1).bind fun j8 =>
      (ix 18 x1).bind fun j10 =>
      m_X10_back_12 n (x1 + 1) (ax_w μ 54 j10 (μ 58 j8))
set_option maxRecDepth 100000 in
set_option maxHeartbeats 8000000 in
theorem a_X10_back_12 {G : ax_G} {l : Launch} {sh : List ax_E} (hs : ∀ (k : Nat) (e : ax_E), SHF[k]? = some e → sh[k]? = some e) : ∀ (n : Nat) (x1 : Int32) (μ : ax_M) (v : Int32 × ax_M), m_X10_back_12 n x1 μ = some v → ax_X G l RX10 cX10_back 2 (some .int) false 2 (some (.int v.1), sh, v.2) 12 [(0, .ref (G.1 + 51)), (1, .int x1)] [] sh μ := by
  intro n
  induction n with
  | zero =>
    intro x1 μ v h
    rw [m_X10_back_12] at h
    cases h
  | succ n ih =>
    intro x1 μ v h
    rw [m_X10_back_12] at h
    refine ax_iload_n (pc := 12) (i := 1) (q := 1) (ax_dd KX10_back 7 rfl) rfl rfl ?_
    refine ax_bipush (pc := 13) (v := 18) (ax_dd KX10_back 8 rfl) (by decide) ?_
    by_cases c1 : 18 ≤ x1
    · rw [if_pos c1] at h
      refine ax_icmp_ge_t (pc := 15) (tgt := 36) (ax_dd KX10_back 9 rfl) (by decide) c1 ?_
      refine ax_aload_n (pc := 36) (i := 0) (q := 0) (ax_dd KX10_back 20 rfl) rfl rfl ?_
      refine ax_aload_n (pc := 37) (i := 0) (q := 0) (ax_dd KX10_back 21 rfl) rfl rfl ?_
      refine ax_getR (pc := 38) (k := 51) (q := 59) (ax_dd KX10_back 22 rfl) f_X10_35 (hs 51 _ rfl) rfl ?_
      refine ax_iconst (pc := 41) (v := 0) (ax_dd KX10_back 23 rfl) (by decide) ?_
      refine ax_iald (pc := 42) (k := 59) (n := 3) (ax_dd KX10_back 24 rfl) (hs 59 _ rfl) (ax_inC (by decide)) ?_
      show ax_X G l RX10 cX10_back 2 (some .int) false 2 _ 43 [(0, .ref (G.1 + 51)), (1, .int x1)] [.int (μ 59 0), .ref (G.1 + 51)] sh μ
      refine ax_putI (pc := 43) (k := 51) (ax_dd KX10_back 25 rfl) f_X10_78 ft_X10 (hs 51 _ rfl) rfl (fun _ h9 => by cases h9; rfl) rfl rfl ?_
      refine ax_aload_n (pc := 46) (i := 0) (q := 0) (ax_dd KX10_back 26 rfl) rfl rfl ?_
      refine ax_aload_n (pc := 47) (i := 0) (q := 0) (ax_dd KX10_back 27 rfl) rfl rfl ?_
      refine ax_getR (pc := 48) (k := 51) (q := 59) (ax_dd KX10_back 28 rfl) f_X10_35 (hs 51 _ rfl) rfl ?_
      refine ax_iconst (pc := 51) (v := 1) (ax_dd KX10_back 29 rfl) (by decide) ?_
      refine ax_iald (pc := 52) (k := 59) (n := 3) (ax_dd KX10_back 30 rfl) (hs 59 _ rfl) (ax_inC (by decide)) ?_
      show ax_X G l RX10 cX10_back 2 (some .int) false 2 _ 53 [(0, .ref (G.1 + 51)), (1, .int x1)] [.int ((ax_w μ 51 0 (μ 59 0)) 59 1), .ref (G.1 + 51)] sh (ax_w μ 51 0 (μ 59 0))
      refine ax_putI (pc := 53) (k := 51) (ax_dd KX10_back 31 rfl) f_X10_19 ft_X10 (hs 51 _ rfl) rfl (fun _ h9 => by cases h9; rfl) rfl rfl ?_
      refine ax_aload_n (pc := 56) (i := 0) (q := 0) (ax_dd KX10_back 32 rfl) rfl rfl ?_
      refine ax_aload_n (pc := 57) (i := 0) (q := 0) (ax_dd KX10_back 33 rfl) rfl rfl ?_
      refine ax_getR (pc := 58) (k := 51) (q := 59) (ax_dd KX10_back 34 rfl) f_X10_35 (hs 51 _ rfl) rfl ?_
      refine ax_iconst (pc := 61) (v := 2) (ax_dd KX10_back 35 rfl) (by decide) ?_
      refine ax_iald (pc := 62) (k := 59) (n := 3) (ax_dd KX10_back 36 rfl) (hs 59 _ rfl) (ax_inC (by decide)) ?_
      show ax_X G l RX10 cX10_back 2 (some .int) false 2 _ 63 [(0, .ref (G.1 + 51)), (1, .int x1)] [.int ((ax_w (ax_w μ 51 0 (μ 59 0)) 51 4 ((ax_w μ 51 0 (μ 59 0)) 59 1)) 59 2), .ref (G.1 + 51)] sh (ax_w (ax_w μ 51 0 (μ 59 0)) 51 4 ((ax_w μ 51 0 (μ 59 0)) 59 1))
      refine ax_putI (pc := 63) (k := 51) (ax_dd KX10_back 37 rfl) f_X10_92 ft_X10 (hs 51 _ rfl) rfl (fun _ h9 => by cases h9; rfl) rfl rfl ?_
      refine ax_aload_n (pc := 66) (i := 0) (q := 0) (ax_dd KX10_back 38 rfl) rfl rfl ?_
      refine ax_getI (pc := 67) (k := 51) (ax_dd KX10_back 39 rfl) f_X10_78 (hs 51 _ rfl) rfl ?_
      obtain rfl := Option.some.inj h
      exact ax_ireti (pc := 70) (ax_dd KX10_back 40 rfl) ⟨_, rfl, rfl⟩ rfl
    · rw [if_neg c1] at h
      refine ax_icmp_ge_f (pc := 15) (tgt := 36) (ax_dd KX10_back 9 rfl) (by decide) c1 ?_
      refine ax_aload_n (pc := 18) (i := 0) (q := 0) (ax_dd KX10_back 10 rfl) rfl rfl ?_
      refine ax_getR (pc := 19) (k := 51) (q := 54) (ax_dd KX10_back 11 rfl) f_X10_16 (hs 51 _ rfl) rfl ?_
      refine ax_iload_n (pc := 22) (i := 1) (q := 1) (ax_dd KX10_back 12 rfl) rfl rfl ?_
      refine ax_aload_n (pc := 23) (i := 0) (q := 0) (ax_dd KX10_back 13 rfl) rfl rfl ?_
      refine ax_getR (pc := 24) (k := 51) (q := 58) (ax_dd KX10_back 14 rfl) f_X10_32 (hs 51 _ rfl) rfl ?_
      refine ax_iload_n (pc := 27) (i := 1) (q := 1) (ax_dd KX10_back 15 rfl) rfl rfl ?_
      obtain ⟨j8, b9, h⟩ := ob_bind h
      refine ax_ild (pc := 28) (k := 58) (N := 18) (j := j8) (ax_dd KX10_back 16 rfl) (hs 58 _ rfl) b9 ?_
      obtain ⟨j10, b11, h⟩ := ob_bind h
      refine ax_ist (pc := 29) (k := 54) (N := 18) (j := j10) (ax_dd KX10_back 17 rfl) (hs 54 _ rfl) b11 ?_
      refine ax_iinc (pc := 30) (q := 1) (v := (x1 + 1)) (lv' := [(1, .int (x1 + 1)), (0, .ref (G.1 + 51))]) (ax_dd KX10_back 18 rfl) rfl rfl (by decide) rfl ?_
      refine ax_goto (pc := 33) (tgt := 12) (ax_dd KX10_back 19 rfl) (by decide) ?_
      refine ax_sub (lv' := [(0, .ref (G.1 + 51)), (1, .int (x1 + 1))]) [1, 0] rfl ?_
      exact ih _ _ _ h
def m_X10_back (μ : ax_M) : Option (Int32 × ax_M) :=
  if (μ 51 11) = 0 then
    some ((-3), μ)
  else
    m_X10_back_12 fu 0 μ
set_option maxRecDepth 100000 in
set_option maxHeartbeats 8000000 in
theorem c_X10_back {G : ax_G} {l : Launch} {sh : List ax_E} {μ : ax_M} (hs : ∀ (k : Nat) (e : ax_E), SHF[k]? = some e → sh[k]? = some e) {v : Int32 × ax_M} (h : m_X10_back μ = some v) : ax_A G l yX10_back cX10_back 2 (some .int) 2 [.ref (G.1 + 51)] sh μ (some (.int v.1), sh, v.2) := by
  refine ax_A.of false (by decide +kernel) (fun h9 => by cases h9) (Nat.le_of_ble_eq_true rfl) (?_ : ax_X G l RX10 cX10_back 2 (some .int) false 2 (some (.int v.1), sh, v.2) 0 [(0, .ref (G.1 + 51))] [] sh μ)
  unfold m_X10_back at h
  refine ax_aload_n (pc := 0) (i := 0) (q := 0) (ax_dd KX10_back 0 rfl) rfl rfl ?_
  refine ax_getI (pc := 1) (k := 51) (ax_dd KX10_back 1 rfl) f_X10_282 (hs 51 _ rfl) rfl ?_
  by_cases c1 : (μ 51 11) = 0
  · rw [if_pos c1] at h
    refine ax_if_ne_f (pc := 4) (tgt := 10) (ax_dd KX10_back 2 rfl) (by decide) (fun z => z c1) ?_
    refine ax_bipush (pc := 7) (v := (-3)) (ax_dd KX10_back 3 rfl) (by decide) ?_
    obtain rfl := Option.some.inj h
    exact ax_ireti (pc := 9) (ax_dd KX10_back 4 rfl) ⟨_, rfl, rfl⟩ rfl
  · rw [if_neg c1] at h
    refine ax_if_ne_t (pc := 4) (tgt := 10) (ax_dd KX10_back 2 rfl) (by decide) c1 ?_
    refine ax_iconst (pc := 10) (v := 0) (ax_dd KX10_back 5 rfl) (by decide) ?_
    refine ax_istore_n (pc := 11) (i := 1) (lv' := [(1, .int 0), (0, .ref (G.1 + 51))]) (ax_dd KX10_back 6 rfl) rfl (by decide) rfl ?_
    refine ax_sub (lv' := [(0, .ref (G.1 + 51)), (1, .int 0)]) [1, 0] rfl ?_
    exact a_X10_back_12 hs fu _ _ _ h
def m_X10_sheet_70 (x1 : Int32) : Nat → Int32 → ax_M → Option (Int32 × ax_M)
  | 0, _, _ => none
  | n + 1, x4, μ =>
    if 40 ≤ x4 then
      some (1, μ)
    else
      (ix 160 (((40 : Int32) * x1) + x4)).bind fun j2 =>
      m_X10_sheet_70 x1 n (x4 + 1) (ax_w μ 62 j2 0)
set_option maxRecDepth 100000 in
set_option maxHeartbeats 8000000 in
theorem a_X10_sheet_70 {G : ax_G} {l : Launch} {sh : List ax_E} {x1 : Int32} (hs : ∀ (k : Nat) (e : ax_E), SHF[k]? = some e → sh[k]? = some e) : ∀ (n : Nat) (x4 : Int32) (μ : ax_M) (v : Int32 × ax_M), m_X10_sheet_70 x1 n x4 μ = some v → ax_X G l RX10 cX10_sheet 5 (some .int) false 3 (some (.int v.1), sh, v.2) 70 [(0, .ref (G.1 + 51)), (1, .int x1), (4, .int x4)] [] sh μ := by
  intro n
  induction n with
  | zero =>
    intro x4 μ v h
    rw [m_X10_sheet_70] at h
    cases h
  | succ n ih =>
    intro x4 μ v h
    rw [m_X10_sheet_70] at h
    refine ax_iload (pc := 70) (q := 2) (ax_dd KX10_sheet 42 rfl) rfl ?_
    refine ax_bipush (pc := 72) (v := 40) (ax_dd KX10_sheet 43 rfl) (by decide) ?_
    by_cases c1 : 40 ≤ x4
    · rw [if_pos c1] at h
      refine ax_icmp_ge_t (pc := 74) (tgt := 96) (ax_dd KX10_sheet 44 rfl) (by decide) c1 ?_
      refine ax_iconst (pc := 96) (v := 1) (ax_dd KX10_sheet 56 rfl) (by decide) ?_
      obtain rfl := Option.some.inj h
      exact ax_ireti (pc := 97) (ax_dd KX10_sheet 57 rfl) ⟨_, rfl, rfl⟩ rfl
    · rw [if_neg c1] at h
      refine ax_icmp_ge_f (pc := 74) (tgt := 96) (ax_dd KX10_sheet 44 rfl) (by decide) c1 ?_
      refine ax_aload_n (pc := 77) (i := 0) (q := 0) (ax_dd KX10_sheet 45 rfl) rfl rfl ?_
      refine ax_getR (pc := 78) (k := 51) (q := 62) (ax_dd KX10_sheet 46 rfl) f_X10_44 (hs 51 _ rfl) rfl ?_
      refine ax_bipush (pc := 81) (v := 40) (ax_dd KX10_sheet 47 rfl) (by decide) ?_
      refine ax_iload_n (pc := 83) (i := 1) (q := 1) (ax_dd KX10_sheet 48 rfl) rfl rfl ?_
      refine ax_imul (pc := 84) (ax_dd KX10_sheet 49 rfl) ?_
      refine ax_iload (pc := 85) (q := 2) (ax_dd KX10_sheet 50 rfl) rfl ?_
      refine ax_iadd (pc := 87) (ax_dd KX10_sheet 51 rfl) ?_
      refine ax_iconst (pc := 88) (v := 0) (ax_dd KX10_sheet 52 rfl) (by decide) ?_
      obtain ⟨j2, b3, h⟩ := ob_bind h
      refine ax_ist (pc := 89) (k := 62) (N := 160) (j := j2) (ax_dd KX10_sheet 53 rfl) (hs 62 _ rfl) b3 ?_
      refine ax_iinc (pc := 90) (q := 2) (v := (x4 + 1)) (lv' := [(4, .int (x4 + 1)), (0, .ref (G.1 + 51)), (1, .int x1)]) (ax_dd KX10_sheet 54 rfl) rfl rfl (by decide) rfl ?_
      refine ax_goto (pc := 93) (tgt := 70) (ax_dd KX10_sheet 55 rfl) (by decide) ?_
      refine ax_sub (lv' := [(0, .ref (G.1 + 51)), (1, .int x1), (4, .int (x4 + 1))]) [1, 2, 0] rfl ?_
      exact ih _ _ _ h
def m_X10_sheet_44 (x1 : Int32) (x2 : Int32) (x3 : Int32) (μ : ax_M) : Option (Int32 × ax_M) :=
  (ix 4 x1).bind fun j1 =>
  if x2 = (-1) then
    (ix 4 x1).bind fun j4 =>
    m_X10_sheet_70 x1 fu 0 (ax_w (ax_w μ 60 j1 x2) 61 j4 0)
  else
    (ix 4 x1).bind fun j6 =>
    m_X10_sheet_70 x1 fu 0 (ax_w (ax_w μ 60 j1 x2) 61 j6 x3)
set_option maxRecDepth 100000 in
set_option maxHeartbeats 8000000 in
theorem a_X10_sheet_44 {G : ax_G} {l : Launch} {sh : List ax_E} {x1 : Int32} {x2 : Int32} {x3 : Int32} {μ : ax_M} (hs : ∀ (k : Nat) (e : ax_E), SHF[k]? = some e → sh[k]? = some e) {v : Int32 × ax_M} (h : m_X10_sheet_44 x1 x2 x3 μ = some v) : ax_X G l RX10 cX10_sheet 5 (some .int) false 3 (some (.int v.1), sh, v.2) 44 [(0, .ref (G.1 + 51)), (1, .int x1), (2, .int x2), (3, .int x3)] [] sh μ := by
  unfold m_X10_sheet_44 at h
  refine ax_aload_n (pc := 44) (i := 0) (q := 0) (ax_dd KX10_sheet 25 rfl) rfl rfl ?_
  refine ax_getR (pc := 45) (k := 51) (q := 60) (ax_dd KX10_sheet 26 rfl) f_X10_38 (hs 51 _ rfl) rfl ?_
  refine ax_iload_n (pc := 48) (i := 1) (q := 1) (ax_dd KX10_sheet 27 rfl) rfl rfl ?_
  refine ax_iload_n (pc := 49) (i := 2) (q := 2) (ax_dd KX10_sheet 28 rfl) rfl rfl ?_
  obtain ⟨j1, b2, h⟩ := ob_bind h
  refine ax_ist (pc := 50) (k := 60) (N := 4) (j := j1) (ax_dd KX10_sheet 29 rfl) (hs 60 _ rfl) b2 ?_
  refine ax_aload_n (pc := 51) (i := 0) (q := 0) (ax_dd KX10_sheet 30 rfl) rfl rfl ?_
  refine ax_getR (pc := 52) (k := 51) (q := 61) (ax_dd KX10_sheet 31 rfl) f_X10_41 (hs 51 _ rfl) rfl ?_
  refine ax_iload_n (pc := 55) (i := 1) (q := 1) (ax_dd KX10_sheet 32 rfl) rfl rfl ?_
  refine ax_iload_n (pc := 56) (i := 2) (q := 2) (ax_dd KX10_sheet 33 rfl) rfl rfl ?_
  refine ax_iconst (pc := 57) (v := (-1)) (ax_dd KX10_sheet 34 rfl) (by decide) ?_
  by_cases c3 : x2 = (-1)
  · rw [if_pos c3] at h
    refine ax_icmp_ne_f (pc := 58) (tgt := 65) (ax_dd KX10_sheet 35 rfl) (by decide) (fun z => z c3) ?_
    refine ax_iconst (pc := 61) (v := 0) (ax_dd KX10_sheet 36 rfl) (by decide) ?_
    refine ax_goto (pc := 62) (tgt := 66) (ax_dd KX10_sheet 37 rfl) (by decide) ?_
    obtain ⟨j4, b5, h⟩ := ob_bind h
    refine ax_ist (pc := 66) (k := 61) (N := 4) (j := j4) (ax_dd KX10_sheet 39 rfl) (hs 61 _ rfl) b5 ?_
    refine ax_iconst (pc := 67) (v := 0) (ax_dd KX10_sheet 40 rfl) (by decide) ?_
    refine ax_istore (pc := 68) (lv' := [(4, .int 0), (0, .ref (G.1 + 51)), (1, .int x1), (2, .int x2), (3, .int x3)]) (ax_dd KX10_sheet 41 rfl) (by decide) rfl ?_
    refine ax_sub (lv' := [(0, .ref (G.1 + 51)), (1, .int x1), (4, .int 0)]) [1, 2, 0] rfl ?_
    exact a_X10_sheet_70 hs fu _ _ _ h
  · rw [if_neg c3] at h
    refine ax_icmp_ne_t (pc := 58) (tgt := 65) (ax_dd KX10_sheet 35 rfl) (by decide) c3 ?_
    refine ax_iload_n (pc := 65) (i := 3) (q := 3) (ax_dd KX10_sheet 38 rfl) rfl rfl ?_
    obtain ⟨j6, b7, h⟩ := ob_bind h
    refine ax_ist (pc := 66) (k := 61) (N := 4) (j := j6) (ax_dd KX10_sheet 39 rfl) (hs 61 _ rfl) b7 ?_
    refine ax_iconst (pc := 67) (v := 0) (ax_dd KX10_sheet 40 rfl) (by decide) ?_
    refine ax_istore (pc := 68) (lv' := [(4, .int 0), (0, .ref (G.1 + 51)), (1, .int x1), (2, .int x2), (3, .int x3)]) (ax_dd KX10_sheet 41 rfl) (by decide) rfl ?_
    refine ax_sub (lv' := [(0, .ref (G.1 + 51)), (1, .int x1), (4, .int 0)]) [1, 2, 0] rfl ?_
    exact a_X10_sheet_70 hs fu _ _ _ h
def m_X10_sheet_32 (x1 : Int32) (x2 : Int32) (x3 : Int32) (μ : ax_M) : Option (Int32 × ax_M) :=
  if x2 = (-1) then
    m_X10_sheet_44 x1 x2 x3 μ
  else
    if 0 ≤ x3 then
      m_X10_sheet_44 x1 x2 x3 μ
    else
      some ((-14), μ)
set_option maxRecDepth 100000 in
set_option maxHeartbeats 8000000 in
theorem a_X10_sheet_32 {G : ax_G} {l : Launch} {sh : List ax_E} {x1 : Int32} {x2 : Int32} {x3 : Int32} {μ : ax_M} (hs : ∀ (k : Nat) (e : ax_E), SHF[k]? = some e → sh[k]? = some e) {v : Int32 × ax_M} (h : m_X10_sheet_32 x1 x2 x3 μ = some v) : ax_X G l RX10 cX10_sheet 5 (some .int) false 3 (some (.int v.1), sh, v.2) 32 [(0, .ref (G.1 + 51)), (1, .int x1), (2, .int x2), (3, .int x3)] [] sh μ := by
  unfold m_X10_sheet_32 at h
  refine ax_iload_n (pc := 32) (i := 2) (q := 2) (ax_dd KX10_sheet 18 rfl) rfl rfl ?_
  refine ax_iconst (pc := 33) (v := (-1)) (ax_dd KX10_sheet 19 rfl) (by decide) ?_
  by_cases c1 : x2 = (-1)
  · rw [if_pos c1] at h
    refine ax_icmp_eq_t (pc := 34) (tgt := 44) (ax_dd KX10_sheet 20 rfl) (by decide) c1 ?_
    exact a_X10_sheet_44 hs h
  · rw [if_neg c1] at h
    refine ax_icmp_eq_f (pc := 34) (tgt := 44) (ax_dd KX10_sheet 20 rfl) (by decide) c1 ?_
    refine ax_iload_n (pc := 37) (i := 3) (q := 3) (ax_dd KX10_sheet 21 rfl) rfl rfl ?_
    by_cases c2 : 0 ≤ x3
    · rw [if_pos c2] at h
      refine ax_if_ge_t (pc := 38) (tgt := 44) (ax_dd KX10_sheet 22 rfl) (by decide) c2 ?_
      exact a_X10_sheet_44 hs h
    · rw [if_neg c2] at h
      refine ax_if_ge_f (pc := 38) (tgt := 44) (ax_dd KX10_sheet 22 rfl) (by decide) c2 ?_
      refine ax_bipush (pc := 41) (v := (-14)) (ax_dd KX10_sheet 23 rfl) (by decide) ?_
      obtain rfl := Option.some.inj h
      exact ax_ireti (pc := 43) (ax_dd KX10_sheet 24 rfl) ⟨_, rfl, rfl⟩ rfl
def m_X10_sheet (x1 : Int32) (x2 : Int32) (x3 : Int32) (μ : ax_M) : Option (Int32 × ax_M) :=
  (m_X10_in x1 0 3 μ).bind fun v1 =>
  if v1 = 0 then
    some ((-2), μ)
  else
    (m_X10_in x2 (-1) 2 μ).bind fun v4 =>
    if v4 = 0 then
      some ((-2), μ)
    else
      if x2 = (-1) then
        m_X10_sheet_32 x1 x2 x3 μ
      else
        if x3 ≤ 40 then
          m_X10_sheet_32 x1 x2 x3 μ
        else
          some ((-2), μ)
set_option maxRecDepth 100000 in
set_option maxHeartbeats 8000000 in
theorem c_X10_sheet {G : ax_G} {l : Launch} {sh : List ax_E} {x1 : Int32} {x2 : Int32} {x3 : Int32} {μ : ax_M} (hs : ∀ (k : Nat) (e : ax_E), SHF[k]? = some e → sh[k]? = some e) {v : Int32 × ax_M} (h : m_X10_sheet x1 x2 x3 μ = some v) : ax_A G l yX10_sheet cX10_sheet 5 (some .int) 3 [.ref (G.1 + 51), .int x1, .int x2, .int x3] sh μ (some (.int v.1), sh, v.2) := by
  refine ax_A.of false (by decide +kernel) (fun h9 => by cases h9) (Nat.le_of_ble_eq_true rfl) (?_ : ax_X G l RX10 cX10_sheet 5 (some .int) false 3 (some (.int v.1), sh, v.2) 0 [(0, .ref (G.1 + 51)), (1, .int x1), (2, .int x2), (3, .int x3)] [] sh μ)
  unfold m_X10_sheet at h
  refine ax_iload_n (pc := 0) (i := 1) (q := 1) (ax_dd KX10_sheet 0 rfl) rfl rfl ?_
  refine ax_iconst (pc := 1) (v := 0) (ax_dd KX10_sheet 1 rfl) (by decide) ?_
  refine ax_iconst (pc := 2) (v := 3) (ax_dd KX10_sheet 2 rfl) (by decide) ?_
  obtain ⟨v1, b2, h⟩ := ob_bind h
  refine ax_kS (pc := 3) (As := [.int x1, .int 0, .int 3]) (rest := []) (st1 := [.int v1]) (μ1 := μ) (ax_dd KX10_sheet 3 rfl) (c_X10_in hs b2) kS_X10_81 e_X10_in rfl rfl (by decide) (by decide) (Nat.le_of_ble_eq_true rfl) rfl ?_
  by_cases c3 : v1 = 0
  · rw [if_pos c3] at h
    refine ax_if_eq_t (pc := 6) (tgt := 29) (ax_dd KX10_sheet 4 rfl) (by decide) c3 ?_
    refine ax_bipush (pc := 29) (v := (-2)) (ax_dd KX10_sheet 16 rfl) (by decide) ?_
    obtain rfl := Option.some.inj h
    exact ax_ireti (pc := 31) (ax_dd KX10_sheet 17 rfl) ⟨_, rfl, rfl⟩ rfl
  · rw [if_neg c3] at h
    refine ax_if_eq_f (pc := 6) (tgt := 29) (ax_dd KX10_sheet 4 rfl) (by decide) c3 ?_
    refine ax_iload_n (pc := 9) (i := 2) (q := 2) (ax_dd KX10_sheet 5 rfl) rfl rfl ?_
    refine ax_iconst (pc := 10) (v := (-1)) (ax_dd KX10_sheet 6 rfl) (by decide) ?_
    refine ax_iconst (pc := 11) (v := 2) (ax_dd KX10_sheet 7 rfl) (by decide) ?_
    obtain ⟨v4, b5, h⟩ := ob_bind h
    refine ax_kS (pc := 12) (As := [.int x2, .int (-1), .int 2]) (rest := []) (st1 := [.int v4]) (μ1 := μ) (ax_dd KX10_sheet 8 rfl) (c_X10_in hs b5) kS_X10_81 e_X10_in rfl rfl (by decide) (by decide) (Nat.le_of_ble_eq_true rfl) rfl ?_
    by_cases c6 : v4 = 0
    · rw [if_pos c6] at h
      refine ax_if_eq_t (pc := 15) (tgt := 29) (ax_dd KX10_sheet 9 rfl) (by decide) c6 ?_
      refine ax_bipush (pc := 29) (v := (-2)) (ax_dd KX10_sheet 16 rfl) (by decide) ?_
      obtain rfl := Option.some.inj h
      exact ax_ireti (pc := 31) (ax_dd KX10_sheet 17 rfl) ⟨_, rfl, rfl⟩ rfl
    · rw [if_neg c6] at h
      refine ax_if_eq_f (pc := 15) (tgt := 29) (ax_dd KX10_sheet 9 rfl) (by decide) c6 ?_
      refine ax_iload_n (pc := 18) (i := 2) (q := 2) (ax_dd KX10_sheet 10 rfl) rfl rfl ?_
      refine ax_iconst (pc := 19) (v := (-1)) (ax_dd KX10_sheet 11 rfl) (by decide) ?_
      by_cases c7 : x2 = (-1)
      · rw [if_pos c7] at h
        refine ax_icmp_eq_t (pc := 20) (tgt := 32) (ax_dd KX10_sheet 12 rfl) (by decide) c7 ?_
        exact a_X10_sheet_32 hs h
      · rw [if_neg c7] at h
        refine ax_icmp_eq_f (pc := 20) (tgt := 32) (ax_dd KX10_sheet 12 rfl) (by decide) c7 ?_
        refine ax_iload_n (pc := 23) (i := 3) (q := 3) (ax_dd KX10_sheet 13 rfl) rfl rfl ?_
        refine ax_bipush (pc := 24) (v := 40) (ax_dd KX10_sheet 14 rfl) (by decide) ?_
        by_cases c8 : x3 ≤ 40
        · rw [if_pos c8] at h
          refine ax_icmp_le_t (pc := 26) (tgt := 32) (ax_dd KX10_sheet 15 rfl) (by decide) c8 ?_
          exact a_X10_sheet_32 hs h
        · rw [if_neg c8] at h
          refine ax_icmp_le_f (pc := 26) (tgt := 32) (ax_dd KX10_sheet 15 rfl) (by decide) c8 ?_
          refine ax_bipush (pc := 29) (v := (-2)) (ax_dd KX10_sheet 16 rfl) (by decide) ?_
          obtain rfl := Option.some.inj h
          exact ax_ireti (pc := 31) (ax_dd KX10_sheet 17 rfl) ⟨_, rfl, rfl⟩ rfl
def m_X10_cell (x1 : Int32) (x2 : Int32) (x3 : Int32) (μ : ax_M) : Option (Int32 × ax_M) :=
  (m_X10_in x1 0 3 μ).bind fun v1 =>
  if v1 = 0 then
    some ((-2), μ)
  else
    (ix 4 x1).bind fun j4 =>
    if (μ 60 j4) = (-1) then
      some ((-11), μ)
    else
      (ix 4 x1).bind fun j7 =>
      (m_X10_in x2 0 ((μ 61 j7) - 1) μ).bind fun v9 =>
      if v9 = 0 then
        some ((-12), μ)
      else
        (ix 4 x1).bind fun j12 =>
        if (μ 60 j12) = 0 then
          (ix 160 (((40 : Int32) * x1) + x2)).bind fun j15 =>
          some (1, ax_w μ 62 j15 (x3.toInt8.toInt32))
        else
          (ix 4 x1).bind fun j17 =>
          if (μ 60 j17) = 1 then
            (ix 160 (((40 : Int32) * x1) + x2)).bind fun j20 =>
            some (1, ax_w μ 62 j20 (x3.toInt16.toInt32))
          else
            (ix 160 (((40 : Int32) * x1) + x2)).bind fun j22 =>
            some (1, ax_w μ 62 j22 x3)
set_option maxRecDepth 100000 in
set_option maxHeartbeats 8000000 in
theorem c_X10_cell {G : ax_G} {l : Launch} {sh : List ax_E} {x1 : Int32} {x2 : Int32} {x3 : Int32} {μ : ax_M} (hs : ∀ (k : Nat) (e : ax_E), SHF[k]? = some e → sh[k]? = some e) {v : Int32 × ax_M} (h : m_X10_cell x1 x2 x3 μ = some v) : ax_A G l yX10_cell cX10_cell 4 (some .int) 3 [.ref (G.1 + 51), .int x1, .int x2, .int x3] sh μ (some (.int v.1), sh, v.2) := by
  refine ax_A.of false (by decide +kernel) (fun h9 => by cases h9) (Nat.le_of_ble_eq_true rfl) (?_ : ax_X G l RX10 cX10_cell 4 (some .int) false 3 (some (.int v.1), sh, v.2) 0 [(0, .ref (G.1 + 51)), (1, .int x1), (2, .int x2), (3, .int x3)] [] sh μ)
  unfold m_X10_cell at h
  refine ax_iload_n (pc := 0) (i := 1) (q := 1) (ax_dd KX10_cell 0 rfl) rfl rfl ?_
  refine ax_iconst (pc := 1) (v := 0) (ax_dd KX10_cell 1 rfl) (by decide) ?_
  refine ax_iconst (pc := 2) (v := 3) (ax_dd KX10_cell 2 rfl) (by decide) ?_
  obtain ⟨v1, b2, h⟩ := ob_bind h
  refine ax_kS (pc := 3) (As := [.int x1, .int 0, .int 3]) (rest := []) (st1 := [.int v1]) (μ1 := μ) (ax_dd KX10_cell 3 rfl) (c_X10_in hs b2) kS_X10_81 e_X10_in rfl rfl (by decide) (by decide) (Nat.le_of_ble_eq_true rfl) rfl ?_
  by_cases c3 : v1 = 0
  · rw [if_pos c3] at h
    refine ax_if_ne_f (pc := 6) (tgt := 12) (ax_dd KX10_cell 4 rfl) (by decide) (fun z => z c3) ?_
    refine ax_bipush (pc := 9) (v := (-2)) (ax_dd KX10_cell 5 rfl) (by decide) ?_
    obtain rfl := Option.some.inj h
    exact ax_ireti (pc := 11) (ax_dd KX10_cell 6 rfl) ⟨_, rfl, rfl⟩ rfl
  · rw [if_neg c3] at h
    refine ax_if_ne_t (pc := 6) (tgt := 12) (ax_dd KX10_cell 4 rfl) (by decide) c3 ?_
    refine ax_aload_n (pc := 12) (i := 0) (q := 0) (ax_dd KX10_cell 7 rfl) rfl rfl ?_
    refine ax_getR (pc := 13) (k := 51) (q := 60) (ax_dd KX10_cell 8 rfl) f_X10_38 (hs 51 _ rfl) rfl ?_
    refine ax_iload_n (pc := 16) (i := 1) (q := 1) (ax_dd KX10_cell 9 rfl) rfl rfl ?_
    obtain ⟨j4, b5, h⟩ := ob_bind h
    refine ax_ild (pc := 17) (k := 60) (N := 4) (j := j4) (ax_dd KX10_cell 10 rfl) (hs 60 _ rfl) b5 ?_
    refine ax_iconst (pc := 18) (v := (-1)) (ax_dd KX10_cell 11 rfl) (by decide) ?_
    by_cases c6 : (μ 60 j4) = (-1)
    · rw [if_pos c6] at h
      refine ax_icmp_ne_f (pc := 19) (tgt := 25) (ax_dd KX10_cell 12 rfl) (by decide) (fun z => z c6) ?_
      refine ax_bipush (pc := 22) (v := (-11)) (ax_dd KX10_cell 13 rfl) (by decide) ?_
      obtain rfl := Option.some.inj h
      exact ax_ireti (pc := 24) (ax_dd KX10_cell 14 rfl) ⟨_, rfl, rfl⟩ rfl
    · rw [if_neg c6] at h
      refine ax_icmp_ne_t (pc := 19) (tgt := 25) (ax_dd KX10_cell 12 rfl) (by decide) c6 ?_
      refine ax_iload_n (pc := 25) (i := 2) (q := 2) (ax_dd KX10_cell 15 rfl) rfl rfl ?_
      refine ax_iconst (pc := 26) (v := 0) (ax_dd KX10_cell 16 rfl) (by decide) ?_
      refine ax_aload_n (pc := 27) (i := 0) (q := 0) (ax_dd KX10_cell 17 rfl) rfl rfl ?_
      refine ax_getR (pc := 28) (k := 51) (q := 61) (ax_dd KX10_cell 18 rfl) f_X10_41 (hs 51 _ rfl) rfl ?_
      refine ax_iload_n (pc := 31) (i := 1) (q := 1) (ax_dd KX10_cell 19 rfl) rfl rfl ?_
      obtain ⟨j7, b8, h⟩ := ob_bind h
      refine ax_ild (pc := 32) (k := 61) (N := 4) (j := j7) (ax_dd KX10_cell 20 rfl) (hs 61 _ rfl) b8 ?_
      refine ax_iconst (pc := 33) (v := 1) (ax_dd KX10_cell 21 rfl) (by decide) ?_
      refine ax_isub (pc := 34) (ax_dd KX10_cell 22 rfl) ?_
      obtain ⟨v9, b10, h⟩ := ob_bind h
      refine ax_kS (pc := 35) (As := [.int x2, .int 0, .int ((μ 61 j7) - 1)]) (rest := []) (st1 := [.int v9]) (μ1 := μ) (ax_dd KX10_cell 23 rfl) (c_X10_in hs b10) kS_X10_81 e_X10_in rfl rfl (by decide) (by decide) (Nat.le_of_ble_eq_true rfl) rfl ?_
      by_cases c11 : v9 = 0
      · rw [if_pos c11] at h
        refine ax_if_ne_f (pc := 38) (tgt := 44) (ax_dd KX10_cell 24 rfl) (by decide) (fun z => z c11) ?_
        refine ax_bipush (pc := 41) (v := (-12)) (ax_dd KX10_cell 25 rfl) (by decide) ?_
        obtain rfl := Option.some.inj h
        exact ax_ireti (pc := 43) (ax_dd KX10_cell 26 rfl) ⟨_, rfl, rfl⟩ rfl
      · rw [if_neg c11] at h
        refine ax_if_ne_t (pc := 38) (tgt := 44) (ax_dd KX10_cell 24 rfl) (by decide) c11 ?_
        refine ax_aload_n (pc := 44) (i := 0) (q := 0) (ax_dd KX10_cell 27 rfl) rfl rfl ?_
        refine ax_getR (pc := 45) (k := 51) (q := 62) (ax_dd KX10_cell 28 rfl) f_X10_44 (hs 51 _ rfl) rfl ?_
        refine ax_bipush (pc := 48) (v := 40) (ax_dd KX10_cell 29 rfl) (by decide) ?_
        refine ax_iload_n (pc := 50) (i := 1) (q := 1) (ax_dd KX10_cell 30 rfl) rfl rfl ?_
        refine ax_imul (pc := 51) (ax_dd KX10_cell 31 rfl) ?_
        refine ax_iload_n (pc := 52) (i := 2) (q := 2) (ax_dd KX10_cell 32 rfl) rfl rfl ?_
        refine ax_iadd (pc := 53) (ax_dd KX10_cell 33 rfl) ?_
        refine ax_aload_n (pc := 54) (i := 0) (q := 0) (ax_dd KX10_cell 34 rfl) rfl rfl ?_
        refine ax_getR (pc := 55) (k := 51) (q := 60) (ax_dd KX10_cell 35 rfl) f_X10_38 (hs 51 _ rfl) rfl ?_
        refine ax_iload_n (pc := 58) (i := 1) (q := 1) (ax_dd KX10_cell 36 rfl) rfl rfl ?_
        obtain ⟨j12, b13, h⟩ := ob_bind h
        refine ax_ild (pc := 59) (k := 60) (N := 4) (j := j12) (ax_dd KX10_cell 37 rfl) (hs 60 _ rfl) b13 ?_
        by_cases c14 : (μ 60 j12) = 0
        · rw [if_pos c14] at h
          refine ax_if_ne_f (pc := 60) (tgt := 68) (ax_dd KX10_cell 38 rfl) (by decide) (fun z => z c14) ?_
          refine ax_iload_n (pc := 63) (i := 3) (q := 3) (ax_dd KX10_cell 39 rfl) rfl rfl ?_
          refine ax_i2b (pc := 64) (ax_dd KX10_cell 40 rfl) ?_
          refine ax_goto (pc := 65) (tgt := 84) (ax_dd KX10_cell 41 rfl) (by decide) ?_
          obtain ⟨j15, b16, h⟩ := ob_bind h
          refine ax_ist (pc := 84) (k := 62) (N := 160) (j := j15) (ax_dd KX10_cell 52 rfl) (hs 62 _ rfl) b16 ?_
          refine ax_iconst (pc := 85) (v := 1) (ax_dd KX10_cell 53 rfl) (by decide) ?_
          obtain rfl := Option.some.inj h
          exact ax_ireti (pc := 86) (ax_dd KX10_cell 54 rfl) ⟨_, rfl, rfl⟩ rfl
        · rw [if_neg c14] at h
          refine ax_if_ne_t (pc := 60) (tgt := 68) (ax_dd KX10_cell 38 rfl) (by decide) c14 ?_
          refine ax_aload_n (pc := 68) (i := 0) (q := 0) (ax_dd KX10_cell 42 rfl) rfl rfl ?_
          refine ax_getR (pc := 69) (k := 51) (q := 60) (ax_dd KX10_cell 43 rfl) f_X10_38 (hs 51 _ rfl) rfl ?_
          refine ax_iload_n (pc := 72) (i := 1) (q := 1) (ax_dd KX10_cell 44 rfl) rfl rfl ?_
          obtain ⟨j17, b18, h⟩ := ob_bind h
          refine ax_ild (pc := 73) (k := 60) (N := 4) (j := j17) (ax_dd KX10_cell 45 rfl) (hs 60 _ rfl) b18 ?_
          refine ax_iconst (pc := 74) (v := 1) (ax_dd KX10_cell 46 rfl) (by decide) ?_
          by_cases c19 : (μ 60 j17) = 1
          · rw [if_pos c19] at h
            refine ax_icmp_ne_f (pc := 75) (tgt := 83) (ax_dd KX10_cell 47 rfl) (by decide) (fun z => z c19) ?_
            refine ax_iload_n (pc := 78) (i := 3) (q := 3) (ax_dd KX10_cell 48 rfl) rfl rfl ?_
            refine ax_i2s (pc := 79) (ax_dd KX10_cell 49 rfl) ?_
            refine ax_goto (pc := 80) (tgt := 84) (ax_dd KX10_cell 50 rfl) (by decide) ?_
            obtain ⟨j20, b21, h⟩ := ob_bind h
            refine ax_ist (pc := 84) (k := 62) (N := 160) (j := j20) (ax_dd KX10_cell 52 rfl) (hs 62 _ rfl) b21 ?_
            refine ax_iconst (pc := 85) (v := 1) (ax_dd KX10_cell 53 rfl) (by decide) ?_
            obtain rfl := Option.some.inj h
            exact ax_ireti (pc := 86) (ax_dd KX10_cell 54 rfl) ⟨_, rfl, rfl⟩ rfl
          · rw [if_neg c19] at h
            refine ax_icmp_ne_t (pc := 75) (tgt := 83) (ax_dd KX10_cell 47 rfl) (by decide) c19 ?_
            refine ax_iload_n (pc := 83) (i := 3) (q := 3) (ax_dd KX10_cell 51 rfl) rfl rfl ?_
            obtain ⟨j22, b23, h⟩ := ob_bind h
            refine ax_ist (pc := 84) (k := 62) (N := 160) (j := j22) (ax_dd KX10_cell 52 rfl) (hs 62 _ rfl) b23 ?_
            refine ax_iconst (pc := 85) (v := 1) (ax_dd KX10_cell 53 rfl) (by decide) ?_
            obtain rfl := Option.some.inj h
            exact ax_ireti (pc := 86) (ax_dd KX10_cell 54 rfl) ⟨_, rfl, rfl⟩ rfl
def m_X10_copy_173 (x5 : Int32) (x6 : Int32) (x7 : Int32) (x8 : Int32) (s0 : Int32) (k147 : Int32 → ax_M → Option (Int32 × ax_M)) (μ : ax_M) : Option (Int32 × ax_M) :=
  (ix 160 (x6 + s0)).bind fun j1 =>
  (ix 160 (x7 + s0)).bind fun j3 =>
  k147 (x8 + 1) (ax_w μ 62 j3 (μ 62 j1))
set_option maxRecDepth 100000 in
set_option maxHeartbeats 8000000 in
theorem a_X10_copy_173 {G : ax_G} {l : Launch} {sh : List ax_E} {x5 : Int32} {x6 : Int32} {x7 : Int32} {x8 : Int32} {s0 : Int32} {k147 : Int32 → ax_M → Option (Int32 × ax_M)} {μ : ax_M} (hs : ∀ (k : Nat) (e : ax_E), SHF[k]? = some e → sh[k]? = some e) (hk147 : ∀ (x8 : Int32) (μ : ax_M) (v : Int32 × ax_M), k147 x8 μ = some v → ax_X G l RX10 cX10_copy 10 (some .int) false 3 (some (.int v.1), sh, v.2) 147 [(0, .ref (G.1 + 51)), (5, .int x5), (6, .int x6), (7, .int x7), (8, .int x8)] [] sh μ) {v : Int32 × ax_M} (h : m_X10_copy_173 x5 x6 x7 x8 s0 k147 μ = some v) : ax_X G l RX10 cX10_copy 10 (some .int) false 3 (some (.int v.1), sh, v.2) 173 [(0, .ref (G.1 + 51)), (5, .int x5), (6, .int x6), (7, .int x7), (8, .int x8)] [.int s0] sh μ := by
  unfold m_X10_copy_173 at h
  refine ax_istore (pc := 173) (lv' := [(9, .int s0), (0, .ref (G.1 + 51)), (5, .int x5), (6, .int x6), (7, .int x7), (8, .int x8)]) (ax_dd KX10_copy 100 rfl) (by decide) rfl ?_
  refine ax_aload_n (pc := 175) (i := 0) (q := 1) (ax_dd KX10_copy 101 rfl) rfl rfl ?_
  refine ax_getR (pc := 176) (k := 51) (q := 62) (ax_dd KX10_copy 102 rfl) f_X10_44 (hs 51 _ rfl) rfl ?_
  refine ax_iload (pc := 179) (q := 4) (ax_dd KX10_copy 103 rfl) rfl ?_
  refine ax_iload (pc := 181) (q := 0) (ax_dd KX10_copy 104 rfl) rfl ?_
  refine ax_iadd (pc := 183) (ax_dd KX10_copy 105 rfl) ?_
  refine ax_aload_n (pc := 184) (i := 0) (q := 1) (ax_dd KX10_copy 106 rfl) rfl rfl ?_
  refine ax_getR (pc := 185) (k := 51) (q := 62) (ax_dd KX10_copy 107 rfl) f_X10_44 (hs 51 _ rfl) rfl ?_
  refine ax_iload (pc := 188) (q := 3) (ax_dd KX10_copy 108 rfl) rfl ?_
  refine ax_iload (pc := 190) (q := 0) (ax_dd KX10_copy 109 rfl) rfl ?_
  refine ax_iadd (pc := 192) (ax_dd KX10_copy 110 rfl) ?_
  obtain ⟨j1, b2, h⟩ := ob_bind h
  refine ax_ild (pc := 193) (k := 62) (N := 160) (j := j1) (ax_dd KX10_copy 111 rfl) (hs 62 _ rfl) b2 ?_
  obtain ⟨j3, b4, h⟩ := ob_bind h
  refine ax_ist (pc := 194) (k := 62) (N := 160) (j := j3) (ax_dd KX10_copy 112 rfl) (hs 62 _ rfl) b4 ?_
  refine ax_iinc (pc := 195) (q := 5) (v := (x8 + 1)) (lv' := [(8, .int (x8 + 1)), (9, .int s0), (0, .ref (G.1 + 51)), (5, .int x5), (6, .int x6), (7, .int x7)]) (ax_dd KX10_copy 113 rfl) rfl rfl (by decide) rfl ?_
  refine ax_goto (pc := 198) (tgt := 147) (ax_dd KX10_copy 114 rfl) (by decide) ?_
  refine ax_sub (lv' := [(0, .ref (G.1 + 51)), (5, .int x5), (6, .int x6), (7, .int x7), (8, .int (x8 + 1))]) [2, 3, 4, 5, 0] rfl ?_
  exact hk147 _ _ _ h
def m_X10_copy_147 (x5 : Int32) (x6 : Int32) (x7 : Int32) : Nat → Int32 → ax_M → Option (Int32 × ax_M)
  | 0, _, _ => none
  | n + 1, x8, μ =>
    if x5 ≤ x8 then
      some (x5, μ)
    else
      if x7 ≤ x6 then
        m_X10_copy_173 x5 x6 x7 x8 x8 (m_X10_copy_147 x5 x6 x7 n) μ
      else
        m_X10_copy_173 x5 x6 x7 x8 ((x5 - 1) - x8) (m_X10_copy_147 x5 x6 x7 n) μ
set_option maxRecDepth 100000 in
set_option maxHeartbeats 8000000 in
theorem a_X10_copy_147 {G : ax_G} {l : Launch} {sh : List ax_E} {x5 : Int32} {x6 : Int32} {x7 : Int32} (hs : ∀ (k : Nat) (e : ax_E), SHF[k]? = some e → sh[k]? = some e) : ∀ (n : Nat) (x8 : Int32) (μ : ax_M) (v : Int32 × ax_M), m_X10_copy_147 x5 x6 x7 n x8 μ = some v → ax_X G l RX10 cX10_copy 10 (some .int) false 3 (some (.int v.1), sh, v.2) 147 [(0, .ref (G.1 + 51)), (5, .int x5), (6, .int x6), (7, .int x7), (8, .int x8)] [] sh μ := by
  intro n
  induction n with
  | zero =>
    intro x8 μ v h
    rw [m_X10_copy_147] at h
    cases h
  | succ n ih =>
    intro x8 μ v h
    rw [m_X10_copy_147] at h
    refine ax_iload (pc := 147) (q := 4) (ax_dd KX10_copy 87 rfl) rfl ?_
    refine ax_iload (pc := 149) (q := 1) (ax_dd KX10_copy 88 rfl) rfl ?_
    by_cases c1 : x5 ≤ x8
    · rw [if_pos c1] at h
      refine ax_icmp_ge_t (pc := 151) (tgt := 201) (ax_dd KX10_copy 89 rfl) (by decide) c1 ?_
      refine ax_iload (pc := 201) (q := 1) (ax_dd KX10_copy 115 rfl) rfl ?_
      obtain rfl := Option.some.inj h
      exact ax_ireti (pc := 203) (ax_dd KX10_copy 116 rfl) ⟨_, rfl, rfl⟩ rfl
    · rw [if_neg c1] at h
      refine ax_icmp_ge_f (pc := 151) (tgt := 201) (ax_dd KX10_copy 89 rfl) (by decide) c1 ?_
      refine ax_iload (pc := 154) (q := 2) (ax_dd KX10_copy 90 rfl) rfl ?_
      refine ax_iload (pc := 156) (q := 3) (ax_dd KX10_copy 91 rfl) rfl ?_
      by_cases c2 : x7 ≤ x6
      · rw [if_pos c2] at h
        refine ax_icmp_ge_t (pc := 158) (tgt := 171) (ax_dd KX10_copy 92 rfl) (by decide) c2 ?_
        refine ax_iload (pc := 171) (q := 4) (ax_dd KX10_copy 99 rfl) rfl ?_
        exact a_X10_copy_173 hs ih h
      · rw [if_neg c2] at h
        refine ax_icmp_ge_f (pc := 158) (tgt := 171) (ax_dd KX10_copy 92 rfl) (by decide) c2 ?_
        refine ax_iload (pc := 161) (q := 1) (ax_dd KX10_copy 93 rfl) rfl ?_
        refine ax_iconst (pc := 163) (v := 1) (ax_dd KX10_copy 94 rfl) (by decide) ?_
        refine ax_isub (pc := 164) (ax_dd KX10_copy 95 rfl) ?_
        refine ax_iload (pc := 165) (q := 4) (ax_dd KX10_copy 96 rfl) rfl ?_
        refine ax_isub (pc := 167) (ax_dd KX10_copy 97 rfl) ?_
        refine ax_goto (pc := 168) (tgt := 173) (ax_dd KX10_copy 98 rfl) (by decide) ?_
        exact a_X10_copy_173 hs ih h
def m_X10_copy (x1 : Int32) (x2 : Int32) (x3 : Int32) (x4 : Int32) (x5 : Int32) (μ : ax_M) : Option (Int32 × ax_M) :=
  (m_X10_in x1 0 3 μ).bind fun v1 =>
  if v1 = 0 then
    some ((-2), μ)
  else
    (m_X10_in x3 0 3 μ).bind fun v4 =>
    if v4 = 0 then
      some ((-2), μ)
    else
      (ix 4 x1).bind fun j7 =>
      if (μ 60 j7) = (-1) then
        some ((-11), μ)
      else
        (ix 4 x3).bind fun j10 =>
        if (μ 60 j10) = (-1) then
          some ((-11), μ)
        else
          (ix 4 x1).bind fun j13 =>
          (ix 4 x3).bind fun j15 =>
          if (μ 60 j13) = (μ 60 j15) then
            if x5 < 0 then
              some ((-12), μ)
            else
              if x2 < 0 then
                some ((-12), μ)
              else
                if x4 < 0 then
                  some ((-12), μ)
                else
                  (ix 4 x1).bind fun j21 =>
                  if (μ 61 j21) < x2 then
                    some ((-12), μ)
                  else
                    (ix 4 x3).bind fun j24 =>
                    if (μ 61 j24) < x4 then
                      some ((-12), μ)
                    else
                      (ix 4 x1).bind fun j27 =>
                      if ((μ 61 j27) - x2) < x5 then
                        some ((-12), μ)
                      else
                        (ix 4 x3).bind fun j30 =>
                        if x5 ≤ ((μ 61 j30) - x4) then
                          m_X10_copy_147 x5 (((40 : Int32) * x1) + x2) (((40 : Int32) * x3) + x4) fu 0 μ
                        else
                          some ((-12), μ)
          else
            some ((-13), μ)
set_option maxRecDepth 100000 in
set_option maxHeartbeats 8000000 in
theorem c_X10_copy {G : ax_G} {l : Launch} {sh : List ax_E} {x1 : Int32} {x2 : Int32} {x3 : Int32} {x4 : Int32} {x5 : Int32} {μ : ax_M} (hs : ∀ (k : Nat) (e : ax_E), SHF[k]? = some e → sh[k]? = some e) {v : Int32 × ax_M} (h : m_X10_copy x1 x2 x3 x4 x5 μ = some v) : ax_A G l yX10_copy cX10_copy 10 (some .int) 3 [.ref (G.1 + 51), .int x1, .int x2, .int x3, .int x4, .int x5] sh μ (some (.int v.1), sh, v.2) := by
  refine ax_A.of false (by decide +kernel) (fun h9 => by cases h9) (Nat.le_of_ble_eq_true rfl) (?_ : ax_X G l RX10 cX10_copy 10 (some .int) false 3 (some (.int v.1), sh, v.2) 0 [(0, .ref (G.1 + 51)), (1, .int x1), (2, .int x2), (3, .int x3), (4, .int x4), (5, .int x5)] [] sh μ)
  unfold m_X10_copy at h
  refine ax_iload_n (pc := 0) (i := 1) (q := 1) (ax_dd KX10_copy 0 rfl) rfl rfl ?_
  refine ax_iconst (pc := 1) (v := 0) (ax_dd KX10_copy 1 rfl) (by decide) ?_
  refine ax_iconst (pc := 2) (v := 3) (ax_dd KX10_copy 2 rfl) (by decide) ?_
  obtain ⟨v1, b2, h⟩ := ob_bind h
  refine ax_kS (pc := 3) (As := [.int x1, .int 0, .int 3]) (rest := []) (st1 := [.int v1]) (μ1 := μ) (ax_dd KX10_copy 3 rfl) (c_X10_in hs b2) kS_X10_81 e_X10_in rfl rfl (by decide) (by decide) (Nat.le_of_ble_eq_true rfl) rfl ?_
  by_cases c3 : v1 = 0
  · rw [if_pos c3] at h
    refine ax_if_eq_t (pc := 6) (tgt := 18) (ax_dd KX10_copy 4 rfl) (by decide) c3 ?_
    refine ax_bipush (pc := 18) (v := (-2)) (ax_dd KX10_copy 10 rfl) (by decide) ?_
    obtain rfl := Option.some.inj h
    exact ax_ireti (pc := 20) (ax_dd KX10_copy 11 rfl) ⟨_, rfl, rfl⟩ rfl
  · rw [if_neg c3] at h
    refine ax_if_eq_f (pc := 6) (tgt := 18) (ax_dd KX10_copy 4 rfl) (by decide) c3 ?_
    refine ax_iload_n (pc := 9) (i := 3) (q := 3) (ax_dd KX10_copy 5 rfl) rfl rfl ?_
    refine ax_iconst (pc := 10) (v := 0) (ax_dd KX10_copy 6 rfl) (by decide) ?_
    refine ax_iconst (pc := 11) (v := 3) (ax_dd KX10_copy 7 rfl) (by decide) ?_
    obtain ⟨v4, b5, h⟩ := ob_bind h
    refine ax_kS (pc := 12) (As := [.int x3, .int 0, .int 3]) (rest := []) (st1 := [.int v4]) (μ1 := μ) (ax_dd KX10_copy 8 rfl) (c_X10_in hs b5) kS_X10_81 e_X10_in rfl rfl (by decide) (by decide) (Nat.le_of_ble_eq_true rfl) rfl ?_
    by_cases c6 : v4 = 0
    · rw [if_pos c6] at h
      refine ax_if_ne_f (pc := 15) (tgt := 21) (ax_dd KX10_copy 9 rfl) (by decide) (fun z => z c6) ?_
      refine ax_bipush (pc := 18) (v := (-2)) (ax_dd KX10_copy 10 rfl) (by decide) ?_
      obtain rfl := Option.some.inj h
      exact ax_ireti (pc := 20) (ax_dd KX10_copy 11 rfl) ⟨_, rfl, rfl⟩ rfl
    · rw [if_neg c6] at h
      refine ax_if_ne_t (pc := 15) (tgt := 21) (ax_dd KX10_copy 9 rfl) (by decide) c6 ?_
      refine ax_aload_n (pc := 21) (i := 0) (q := 0) (ax_dd KX10_copy 12 rfl) rfl rfl ?_
      refine ax_getR (pc := 22) (k := 51) (q := 60) (ax_dd KX10_copy 13 rfl) f_X10_38 (hs 51 _ rfl) rfl ?_
      refine ax_iload_n (pc := 25) (i := 1) (q := 1) (ax_dd KX10_copy 14 rfl) rfl rfl ?_
      obtain ⟨j7, b8, h⟩ := ob_bind h
      refine ax_ild (pc := 26) (k := 60) (N := 4) (j := j7) (ax_dd KX10_copy 15 rfl) (hs 60 _ rfl) b8 ?_
      refine ax_iconst (pc := 27) (v := (-1)) (ax_dd KX10_copy 16 rfl) (by decide) ?_
      by_cases c9 : (μ 60 j7) = (-1)
      · rw [if_pos c9] at h
        refine ax_icmp_eq_t (pc := 28) (tgt := 41) (ax_dd KX10_copy 17 rfl) (by decide) c9 ?_
        refine ax_bipush (pc := 41) (v := (-11)) (ax_dd KX10_copy 24 rfl) (by decide) ?_
        obtain rfl := Option.some.inj h
        exact ax_ireti (pc := 43) (ax_dd KX10_copy 25 rfl) ⟨_, rfl, rfl⟩ rfl
      · rw [if_neg c9] at h
        refine ax_icmp_eq_f (pc := 28) (tgt := 41) (ax_dd KX10_copy 17 rfl) (by decide) c9 ?_
        refine ax_aload_n (pc := 31) (i := 0) (q := 0) (ax_dd KX10_copy 18 rfl) rfl rfl ?_
        refine ax_getR (pc := 32) (k := 51) (q := 60) (ax_dd KX10_copy 19 rfl) f_X10_38 (hs 51 _ rfl) rfl ?_
        refine ax_iload_n (pc := 35) (i := 3) (q := 3) (ax_dd KX10_copy 20 rfl) rfl rfl ?_
        obtain ⟨j10, b11, h⟩ := ob_bind h
        refine ax_ild (pc := 36) (k := 60) (N := 4) (j := j10) (ax_dd KX10_copy 21 rfl) (hs 60 _ rfl) b11 ?_
        refine ax_iconst (pc := 37) (v := (-1)) (ax_dd KX10_copy 22 rfl) (by decide) ?_
        by_cases c12 : (μ 60 j10) = (-1)
        · rw [if_pos c12] at h
          refine ax_icmp_ne_f (pc := 38) (tgt := 44) (ax_dd KX10_copy 23 rfl) (by decide) (fun z => z c12) ?_
          refine ax_bipush (pc := 41) (v := (-11)) (ax_dd KX10_copy 24 rfl) (by decide) ?_
          obtain rfl := Option.some.inj h
          exact ax_ireti (pc := 43) (ax_dd KX10_copy 25 rfl) ⟨_, rfl, rfl⟩ rfl
        · rw [if_neg c12] at h
          refine ax_icmp_ne_t (pc := 38) (tgt := 44) (ax_dd KX10_copy 23 rfl) (by decide) c12 ?_
          refine ax_aload_n (pc := 44) (i := 0) (q := 0) (ax_dd KX10_copy 26 rfl) rfl rfl ?_
          refine ax_getR (pc := 45) (k := 51) (q := 60) (ax_dd KX10_copy 27 rfl) f_X10_38 (hs 51 _ rfl) rfl ?_
          refine ax_iload_n (pc := 48) (i := 1) (q := 1) (ax_dd KX10_copy 28 rfl) rfl rfl ?_
          obtain ⟨j13, b14, h⟩ := ob_bind h
          refine ax_ild (pc := 49) (k := 60) (N := 4) (j := j13) (ax_dd KX10_copy 29 rfl) (hs 60 _ rfl) b14 ?_
          refine ax_aload_n (pc := 50) (i := 0) (q := 0) (ax_dd KX10_copy 30 rfl) rfl rfl ?_
          refine ax_getR (pc := 51) (k := 51) (q := 60) (ax_dd KX10_copy 31 rfl) f_X10_38 (hs 51 _ rfl) rfl ?_
          refine ax_iload_n (pc := 54) (i := 3) (q := 3) (ax_dd KX10_copy 32 rfl) rfl rfl ?_
          obtain ⟨j15, b16, h⟩ := ob_bind h
          refine ax_ild (pc := 55) (k := 60) (N := 4) (j := j15) (ax_dd KX10_copy 33 rfl) (hs 60 _ rfl) b16 ?_
          by_cases c17 : (μ 60 j13) = (μ 60 j15)
          · rw [if_pos c17] at h
            refine ax_icmp_eq_t (pc := 56) (tgt := 62) (ax_dd KX10_copy 34 rfl) (by decide) c17 ?_
            refine ax_iload (pc := 62) (q := 5) (ax_dd KX10_copy 37 rfl) rfl ?_
            by_cases c18 : x5 < 0
            · rw [if_pos c18] at h
              refine ax_if_lt_t (pc := 64) (tgt := 124) (ax_dd KX10_copy 38 rfl) (by decide) c18 ?_
              refine ax_bipush (pc := 124) (v := (-12)) (ax_dd KX10_copy 71 rfl) (by decide) ?_
              obtain rfl := Option.some.inj h
              exact ax_ireti (pc := 126) (ax_dd KX10_copy 72 rfl) ⟨_, rfl, rfl⟩ rfl
            · rw [if_neg c18] at h
              refine ax_if_lt_f (pc := 64) (tgt := 124) (ax_dd KX10_copy 38 rfl) (by decide) c18 ?_
              refine ax_iload_n (pc := 67) (i := 2) (q := 2) (ax_dd KX10_copy 39 rfl) rfl rfl ?_
              by_cases c19 : x2 < 0
              · rw [if_pos c19] at h
                refine ax_if_lt_t (pc := 68) (tgt := 124) (ax_dd KX10_copy 40 rfl) (by decide) c19 ?_
                refine ax_bipush (pc := 124) (v := (-12)) (ax_dd KX10_copy 71 rfl) (by decide) ?_
                obtain rfl := Option.some.inj h
                exact ax_ireti (pc := 126) (ax_dd KX10_copy 72 rfl) ⟨_, rfl, rfl⟩ rfl
              · rw [if_neg c19] at h
                refine ax_if_lt_f (pc := 68) (tgt := 124) (ax_dd KX10_copy 40 rfl) (by decide) c19 ?_
                refine ax_iload (pc := 71) (q := 4) (ax_dd KX10_copy 41 rfl) rfl ?_
                by_cases c20 : x4 < 0
                · rw [if_pos c20] at h
                  refine ax_if_lt_t (pc := 73) (tgt := 124) (ax_dd KX10_copy 42 rfl) (by decide) c20 ?_
                  refine ax_bipush (pc := 124) (v := (-12)) (ax_dd KX10_copy 71 rfl) (by decide) ?_
                  obtain rfl := Option.some.inj h
                  exact ax_ireti (pc := 126) (ax_dd KX10_copy 72 rfl) ⟨_, rfl, rfl⟩ rfl
                · rw [if_neg c20] at h
                  refine ax_if_lt_f (pc := 73) (tgt := 124) (ax_dd KX10_copy 42 rfl) (by decide) c20 ?_
                  refine ax_iload_n (pc := 76) (i := 2) (q := 2) (ax_dd KX10_copy 43 rfl) rfl rfl ?_
                  refine ax_aload_n (pc := 77) (i := 0) (q := 0) (ax_dd KX10_copy 44 rfl) rfl rfl ?_
                  refine ax_getR (pc := 78) (k := 51) (q := 61) (ax_dd KX10_copy 45 rfl) f_X10_41 (hs 51 _ rfl) rfl ?_
                  refine ax_iload_n (pc := 81) (i := 1) (q := 1) (ax_dd KX10_copy 46 rfl) rfl rfl ?_
                  obtain ⟨j21, b22, h⟩ := ob_bind h
                  refine ax_ild (pc := 82) (k := 61) (N := 4) (j := j21) (ax_dd KX10_copy 47 rfl) (hs 61 _ rfl) b22 ?_
                  by_cases c23 : (μ 61 j21) < x2
                  · rw [if_pos c23] at h
                    refine ax_icmp_gt_t (pc := 83) (tgt := 124) (ax_dd KX10_copy 48 rfl) (by decide) c23 ?_
                    refine ax_bipush (pc := 124) (v := (-12)) (ax_dd KX10_copy 71 rfl) (by decide) ?_
                    obtain rfl := Option.some.inj h
                    exact ax_ireti (pc := 126) (ax_dd KX10_copy 72 rfl) ⟨_, rfl, rfl⟩ rfl
                  · rw [if_neg c23] at h
                    refine ax_icmp_gt_f (pc := 83) (tgt := 124) (ax_dd KX10_copy 48 rfl) (by decide) c23 ?_
                    refine ax_iload (pc := 86) (q := 4) (ax_dd KX10_copy 49 rfl) rfl ?_
                    refine ax_aload_n (pc := 88) (i := 0) (q := 0) (ax_dd KX10_copy 50 rfl) rfl rfl ?_
                    refine ax_getR (pc := 89) (k := 51) (q := 61) (ax_dd KX10_copy 51 rfl) f_X10_41 (hs 51 _ rfl) rfl ?_
                    refine ax_iload_n (pc := 92) (i := 3) (q := 3) (ax_dd KX10_copy 52 rfl) rfl rfl ?_
                    obtain ⟨j24, b25, h⟩ := ob_bind h
                    refine ax_ild (pc := 93) (k := 61) (N := 4) (j := j24) (ax_dd KX10_copy 53 rfl) (hs 61 _ rfl) b25 ?_
                    by_cases c26 : (μ 61 j24) < x4
                    · rw [if_pos c26] at h
                      refine ax_icmp_gt_t (pc := 94) (tgt := 124) (ax_dd KX10_copy 54 rfl) (by decide) c26 ?_
                      refine ax_bipush (pc := 124) (v := (-12)) (ax_dd KX10_copy 71 rfl) (by decide) ?_
                      obtain rfl := Option.some.inj h
                      exact ax_ireti (pc := 126) (ax_dd KX10_copy 72 rfl) ⟨_, rfl, rfl⟩ rfl
                    · rw [if_neg c26] at h
                      refine ax_icmp_gt_f (pc := 94) (tgt := 124) (ax_dd KX10_copy 54 rfl) (by decide) c26 ?_
                      refine ax_iload (pc := 97) (q := 5) (ax_dd KX10_copy 55 rfl) rfl ?_
                      refine ax_aload_n (pc := 99) (i := 0) (q := 0) (ax_dd KX10_copy 56 rfl) rfl rfl ?_
                      refine ax_getR (pc := 100) (k := 51) (q := 61) (ax_dd KX10_copy 57 rfl) f_X10_41 (hs 51 _ rfl) rfl ?_
                      refine ax_iload_n (pc := 103) (i := 1) (q := 1) (ax_dd KX10_copy 58 rfl) rfl rfl ?_
                      obtain ⟨j27, b28, h⟩ := ob_bind h
                      refine ax_ild (pc := 104) (k := 61) (N := 4) (j := j27) (ax_dd KX10_copy 59 rfl) (hs 61 _ rfl) b28 ?_
                      refine ax_iload_n (pc := 105) (i := 2) (q := 2) (ax_dd KX10_copy 60 rfl) rfl rfl ?_
                      refine ax_isub (pc := 106) (ax_dd KX10_copy 61 rfl) ?_
                      by_cases c29 : ((μ 61 j27) - x2) < x5
                      · rw [if_pos c29] at h
                        refine ax_icmp_gt_t (pc := 107) (tgt := 124) (ax_dd KX10_copy 62 rfl) (by decide) c29 ?_
                        refine ax_bipush (pc := 124) (v := (-12)) (ax_dd KX10_copy 71 rfl) (by decide) ?_
                        obtain rfl := Option.some.inj h
                        exact ax_ireti (pc := 126) (ax_dd KX10_copy 72 rfl) ⟨_, rfl, rfl⟩ rfl
                      · rw [if_neg c29] at h
                        refine ax_icmp_gt_f (pc := 107) (tgt := 124) (ax_dd KX10_copy 62 rfl) (by decide) c29 ?_
                        refine ax_iload (pc := 110) (q := 5) (ax_dd KX10_copy 63 rfl) rfl ?_
                        refine ax_aload_n (pc := 112) (i := 0) (q := 0) (ax_dd KX10_copy 64 rfl) rfl rfl ?_
                        refine ax_getR (pc := 113) (k := 51) (q := 61) (ax_dd KX10_copy 65 rfl) f_X10_41 (hs 51 _ rfl) rfl ?_
                        refine ax_iload_n (pc := 116) (i := 3) (q := 3) (ax_dd KX10_copy 66 rfl) rfl rfl ?_
                        obtain ⟨j30, b31, h⟩ := ob_bind h
                        refine ax_ild (pc := 117) (k := 61) (N := 4) (j := j30) (ax_dd KX10_copy 67 rfl) (hs 61 _ rfl) b31 ?_
                        refine ax_iload (pc := 118) (q := 4) (ax_dd KX10_copy 68 rfl) rfl ?_
                        refine ax_isub (pc := 120) (ax_dd KX10_copy 69 rfl) ?_
                        by_cases c32 : x5 ≤ ((μ 61 j30) - x4)
                        · rw [if_pos c32] at h
                          refine ax_icmp_le_t (pc := 121) (tgt := 127) (ax_dd KX10_copy 70 rfl) (by decide) c32 ?_
                          refine ax_bipush (pc := 127) (v := 40) (ax_dd KX10_copy 73 rfl) (by decide) ?_
                          refine ax_iload_n (pc := 129) (i := 1) (q := 1) (ax_dd KX10_copy 74 rfl) rfl rfl ?_
                          refine ax_imul (pc := 130) (ax_dd KX10_copy 75 rfl) ?_
                          refine ax_iload_n (pc := 131) (i := 2) (q := 2) (ax_dd KX10_copy 76 rfl) rfl rfl ?_
                          refine ax_iadd (pc := 132) (ax_dd KX10_copy 77 rfl) ?_
                          refine ax_istore (pc := 133) (lv' := [(6, .int (((40 : Int32) * x1) + x2)), (0, .ref (G.1 + 51)), (1, .int x1), (2, .int x2), (3, .int x3), (4, .int x4), (5, .int x5)]) (ax_dd KX10_copy 78 rfl) (by decide) rfl ?_
                          refine ax_bipush (pc := 135) (v := 40) (ax_dd KX10_copy 79 rfl) (by decide) ?_
                          refine ax_iload_n (pc := 137) (i := 3) (q := 4) (ax_dd KX10_copy 80 rfl) rfl rfl ?_
                          refine ax_imul (pc := 138) (ax_dd KX10_copy 81 rfl) ?_
                          refine ax_iload (pc := 139) (q := 5) (ax_dd KX10_copy 82 rfl) rfl ?_
                          refine ax_iadd (pc := 141) (ax_dd KX10_copy 83 rfl) ?_
                          refine ax_istore (pc := 142) (lv' := [(7, .int (((40 : Int32) * x3) + x4)), (6, .int (((40 : Int32) * x1) + x2)), (0, .ref (G.1 + 51)), (1, .int x1), (2, .int x2), (3, .int x3), (4, .int x4), (5, .int x5)]) (ax_dd KX10_copy 84 rfl) (by decide) rfl ?_
                          refine ax_iconst (pc := 144) (v := 0) (ax_dd KX10_copy 85 rfl) (by decide) ?_
                          refine ax_istore (pc := 145) (lv' := [(8, .int 0), (7, .int (((40 : Int32) * x3) + x4)), (6, .int (((40 : Int32) * x1) + x2)), (0, .ref (G.1 + 51)), (1, .int x1), (2, .int x2), (3, .int x3), (4, .int x4), (5, .int x5)]) (ax_dd KX10_copy 86 rfl) (by decide) rfl ?_
                          refine ax_sub (lv' := [(0, .ref (G.1 + 51)), (5, .int x5), (6, .int (((40 : Int32) * x1) + x2)), (7, .int (((40 : Int32) * x3) + x4)), (8, .int 0)]) [3, 8, 2, 1, 0] rfl ?_
                          exact a_X10_copy_147 hs fu _ _ _ h
                        · rw [if_neg c32] at h
                          refine ax_icmp_le_f (pc := 121) (tgt := 127) (ax_dd KX10_copy 70 rfl) (by decide) c32 ?_
                          refine ax_bipush (pc := 124) (v := (-12)) (ax_dd KX10_copy 71 rfl) (by decide) ?_
                          obtain rfl := Option.some.inj h
                          exact ax_ireti (pc := 126) (ax_dd KX10_copy 72 rfl) ⟨_, rfl, rfl⟩ rfl
          · rw [if_neg c17] at h
            refine ax_icmp_eq_f (pc := 56) (tgt := 62) (ax_dd KX10_copy 34 rfl) (by decide) c17 ?_
            refine ax_bipush (pc := 59) (v := (-13)) (ax_dd KX10_copy 35 rfl) (by decide) ?_
            obtain rfl := Option.some.inj h
            exact ax_ireti (pc := 61) (ax_dd KX10_copy 36 rfl) ⟨_, rfl, rfl⟩ rfl
