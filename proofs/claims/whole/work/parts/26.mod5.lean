def m_X10_over_77 (x1 : Int32) : Nat → Int32 → Int32 → ax_M → Option (Int32 × ax_M)
  | 0, _, _, _ => none
  | n + 1, x3, x4, μ =>
    if (μ 51 0) ≤ x4 then
      some (x3, μ)
    else
      (m_X10_lies x4 x1 μ).bind fun v2 =>
      if v2 = 0 then
        m_X10_over_77 x1 n (x3 + 0) (x4 + 1) μ
      else
        m_X10_over_77 x1 n (x3 + 1) (x4 + 1) μ
set_option maxRecDepth 100000 in
set_option maxHeartbeats 8000000 in
theorem a_X10_over_77 {G : ax_G} {l : Launch} {sh : List ax_E} {x1 : Int32} (hs : ∀ (k : Nat) (e : ax_E), SHF[k]? = some e → sh[k]? = some e) : ∀ (n : Nat) (x3 : Int32) (x4 : Int32) (μ : ax_M) (v : Int32 × ax_M), m_X10_over_77 x1 n x3 x4 μ = some v → ax_X G l RX10 cX10_over 5 (some .int) false 7 (some (.int v.1), sh, v.2) 77 [(0, .ref (G.1 + 51)), (1, .int x1), (3, .int x3), (4, .int x4)] [] sh μ := by
  intro n
  induction n with
  | zero =>
    intro x3 x4 μ v h
    rw [m_X10_over_77] at h
    cases h
  | succ n ih =>
    intro x3 x4 μ v h
    rw [m_X10_over_77] at h
    refine ax_iload (pc := 77) (q := 3) (ax_dd KX10_over 44 rfl) rfl ?_
    refine ax_aload_n (pc := 79) (i := 0) (q := 0) (ax_dd KX10_over 45 rfl) rfl rfl ?_
    refine ax_getI (pc := 80) (k := 51) (ax_dd KX10_over 46 rfl) f_X10_78 (hs 51 _ rfl) rfl ?_
    by_cases c1 : (μ 51 0) ≤ x4
    · rw [if_pos c1] at h
      refine ax_icmp_ge_t (pc := 83) (tgt := 110) (ax_dd KX10_over 47 rfl) (by decide) c1 ?_
      refine ax_iload_n (pc := 110) (i := 3) (q := 2) (ax_dd KX10_over 61 rfl) rfl rfl ?_
      obtain rfl := Option.some.inj h
      exact ax_ireti (pc := 111) (ax_dd KX10_over 62 rfl) ⟨_, rfl, rfl⟩ rfl
    · rw [if_neg c1] at h
      refine ax_icmp_ge_f (pc := 83) (tgt := 110) (ax_dd KX10_over 47 rfl) (by decide) c1 ?_
      refine ax_iload_n (pc := 86) (i := 3) (q := 2) (ax_dd KX10_over 48 rfl) rfl rfl ?_
      refine ax_aload_n (pc := 87) (i := 0) (q := 0) (ax_dd KX10_over 49 rfl) rfl rfl ?_
      refine ax_iload (pc := 88) (q := 3) (ax_dd KX10_over 50 rfl) rfl ?_
      refine ax_iload_n (pc := 90) (i := 1) (q := 1) (ax_dd KX10_over 51 rfl) rfl rfl ?_
      obtain ⟨v2, b3, h⟩ := ob_bind h
      refine ax_kV (pc := 91) (ci := 10) (k := 51) (As := [.int x4, .int x1]) (rest := [.int x3]) (st1 := [.int v2, .int x3]) (μ1 := μ) (ax_dd KX10_over 52 rfl) (c_X10_lies hs b3) kV_X10_189 e_X10_lies (hs 51 _ rfl) cl_X10 (by decide) rfl rfl (by decide) (by decide) (Nat.le_of_ble_eq_true rfl) rfl ?_
      by_cases c4 : v2 = 0
      · rw [if_pos c4] at h
        refine ax_if_eq_t (pc := 94) (tgt := 101) (ax_dd KX10_over 53 rfl) (by decide) c4 ?_
        refine ax_iconst (pc := 101) (v := 0) (ax_dd KX10_over 56 rfl) (by decide) ?_
        refine ax_iadd (pc := 102) (ax_dd KX10_over 57 rfl) ?_
        refine ax_istore_n (pc := 103) (i := 3) (lv' := [(3, .int (x3 + 0)), (0, .ref (G.1 + 51)), (1, .int x1), (4, .int x4)]) (ax_dd KX10_over 58 rfl) rfl (by decide) rfl ?_
        refine ax_iinc (pc := 104) (q := 3) (v := (x4 + 1)) (lv' := [(4, .int (x4 + 1)), (3, .int (x3 + 0)), (0, .ref (G.1 + 51)), (1, .int x1)]) (ax_dd KX10_over 59 rfl) rfl rfl (by decide) rfl ?_
        refine ax_goto (pc := 107) (tgt := 77) (ax_dd KX10_over 60 rfl) (by decide) ?_
        refine ax_sub (lv' := [(0, .ref (G.1 + 51)), (1, .int x1), (3, .int (x3 + 0)), (4, .int (x4 + 1))]) [2, 3, 1, 0] rfl ?_
        exact ih _ _ _ _ h
      · rw [if_neg c4] at h
        refine ax_if_eq_f (pc := 94) (tgt := 101) (ax_dd KX10_over 53 rfl) (by decide) c4 ?_
        refine ax_iconst (pc := 97) (v := 1) (ax_dd KX10_over 54 rfl) (by decide) ?_
        refine ax_goto (pc := 98) (tgt := 102) (ax_dd KX10_over 55 rfl) (by decide) ?_
        refine ax_iadd (pc := 102) (ax_dd KX10_over 57 rfl) ?_
        refine ax_istore_n (pc := 103) (i := 3) (lv' := [(3, .int (x3 + 1)), (0, .ref (G.1 + 51)), (1, .int x1), (4, .int x4)]) (ax_dd KX10_over 58 rfl) rfl (by decide) rfl ?_
        refine ax_iinc (pc := 104) (q := 3) (v := (x4 + 1)) (lv' := [(4, .int (x4 + 1)), (3, .int (x3 + 1)), (0, .ref (G.1 + 51)), (1, .int x1)]) (ax_dd KX10_over 59 rfl) rfl rfl (by decide) rfl ?_
        refine ax_goto (pc := 107) (tgt := 77) (ax_dd KX10_over 60 rfl) (by decide) ?_
        refine ax_sub (lv' := [(0, .ref (G.1 + 51)), (1, .int x1), (3, .int (x3 + 1)), (4, .int (x4 + 1))]) [2, 3, 1, 0] rfl ?_
        exact ih _ _ _ _ h
def m_X10_over (x1 : Int32) (x2 : Int32) (μ : ax_M) : Option (Int32 × ax_M) :=
  (m_X10_isCell x1 μ).bind fun v1 =>
  if v1 = 0 then
    some ((-5), μ)
  else
    (m_X10_in x2 0 3 μ).bind fun v4 =>
    if v4 = 0 then
      some ((-7), μ)
    else
      (m_X10_rulesBut (-1) μ).bind fun μ9 =>
      if 3 ≤ x2 then
        m_X10_over_77 x1 fu 0 0 μ9
      else
        if x2 = 0 then
          (ix 36 x1).bind fun j12 =>
          some ((μ9 68 j12), μ9)
        else
          if x2 = 1 then
            bind2 (m_X10_finedAt x1 μ9) fun v15 μ17 =>
            some (v15, μ17)
          else
            bind2 (m_X10_isLetOn x1 μ9) fun v18 μ20 =>
            if v18 = 0 then
              some (0, μ20)
            else
              some (1, μ20)
set_option maxRecDepth 100000 in
set_option maxHeartbeats 8000000 in
theorem c_X10_over {G : ax_G} {l : Launch} {sh : List ax_E} {x1 : Int32} {x2 : Int32} {μ : ax_M} (hs : ∀ (k : Nat) (e : ax_E), SHF[k]? = some e → sh[k]? = some e) {v : Int32 × ax_M} (h : m_X10_over x1 x2 μ = some v) : ax_A G l yX10_over cX10_over 5 (some .int) 7 [.ref (G.1 + 51), .int x1, .int x2] sh μ (some (.int v.1), sh, v.2) := by
  refine ax_A.of false (by decide +kernel) (fun h9 => by cases h9) (Nat.le_of_ble_eq_true rfl) (?_ : ax_X G l RX10 cX10_over 5 (some .int) false 7 (some (.int v.1), sh, v.2) 0 [(0, .ref (G.1 + 51)), (1, .int x1), (2, .int x2)] [] sh μ)
  unfold m_X10_over at h
  refine ax_iload_n (pc := 0) (i := 1) (q := 1) (ax_dd KX10_over 0 rfl) rfl rfl ?_
  obtain ⟨v1, b2, h⟩ := ob_bind h
  refine ax_kS (pc := 1) (As := [.int x1]) (rest := []) (st1 := [.int v1]) (μ1 := μ) (ax_dd KX10_over 1 rfl) (c_X10_isCell hs b2) kS_X10_170 e_X10_isCell rfl rfl (by decide) (by decide) (Nat.le_of_ble_eq_true rfl) rfl ?_
  by_cases c3 : v1 = 0
  · rw [if_pos c3] at h
    refine ax_if_ne_f (pc := 4) (tgt := 10) (ax_dd KX10_over 2 rfl) (by decide) (fun z => z c3) ?_
    refine ax_bipush (pc := 7) (v := (-5)) (ax_dd KX10_over 3 rfl) (by decide) ?_
    obtain rfl := Option.some.inj h
    exact ax_ireti (pc := 9) (ax_dd KX10_over 4 rfl) ⟨_, rfl, rfl⟩ rfl
  · rw [if_neg c3] at h
    refine ax_if_ne_t (pc := 4) (tgt := 10) (ax_dd KX10_over 2 rfl) (by decide) c3 ?_
    refine ax_iload_n (pc := 10) (i := 2) (q := 2) (ax_dd KX10_over 5 rfl) rfl rfl ?_
    refine ax_iconst (pc := 11) (v := 0) (ax_dd KX10_over 6 rfl) (by decide) ?_
    refine ax_iconst (pc := 12) (v := 3) (ax_dd KX10_over 7 rfl) (by decide) ?_
    obtain ⟨v4, b5, h⟩ := ob_bind h
    refine ax_kS (pc := 13) (As := [.int x2, .int 0, .int 3]) (rest := []) (st1 := [.int v4]) (μ1 := μ) (ax_dd KX10_over 8 rfl) (c_X10_in hs b5) kS_X10_81 e_X10_in rfl rfl (by decide) (by decide) (Nat.le_of_ble_eq_true rfl) rfl ?_
    by_cases c6 : v4 = 0
    · rw [if_pos c6] at h
      refine ax_if_ne_f (pc := 16) (tgt := 22) (ax_dd KX10_over 9 rfl) (by decide) (fun z => z c6) ?_
      refine ax_bipush (pc := 19) (v := (-7)) (ax_dd KX10_over 10 rfl) (by decide) ?_
      obtain rfl := Option.some.inj h
      exact ax_ireti (pc := 21) (ax_dd KX10_over 11 rfl) ⟨_, rfl, rfl⟩ rfl
    · rw [if_neg c6] at h
      refine ax_if_ne_t (pc := 16) (tgt := 22) (ax_dd KX10_over 9 rfl) (by decide) c6 ?_
      refine ax_aload_n (pc := 22) (i := 0) (q := 0) (ax_dd KX10_over 12 rfl) rfl rfl ?_
      refine ax_iconst (pc := 23) (v := (-1)) (ax_dd KX10_over 13 rfl) (by decide) ?_
      obtain ⟨μ9, b8, h⟩ := ob_bind h
      refine ax_kV (pc := 24) (ci := 10) (k := 51) (As := [.int (-1)]) (rest := []) (st1 := []) (μ1 := μ9) (ax_dd KX10_over 14 rfl) (c_X10_rulesBut hs b8) kV_X10_198 e_X10_rulesBut (hs 51 _ rfl) cl_X10 (by decide) rfl rfl (by decide) (by decide) (Nat.le_of_ble_eq_true rfl) rfl ?_
      refine ax_iload_n (pc := 27) (i := 2) (q := 2) (ax_dd KX10_over 15 rfl) rfl rfl ?_
      refine ax_iconst (pc := 28) (v := 3) (ax_dd KX10_over 16 rfl) (by decide) ?_
      by_cases c10 : 3 ≤ x2
      · rw [if_pos c10] at h
        refine ax_icmp_ge_t (pc := 29) (tgt := 72) (ax_dd KX10_over 17 rfl) (by decide) c10 ?_
        refine ax_iconst (pc := 72) (v := 0) (ax_dd KX10_over 40 rfl) (by decide) ?_
        refine ax_istore_n (pc := 73) (i := 3) (lv' := [(3, .int 0), (0, .ref (G.1 + 51)), (1, .int x1), (2, .int x2)]) (ax_dd KX10_over 41 rfl) rfl (by decide) rfl ?_
        refine ax_iconst (pc := 74) (v := 0) (ax_dd KX10_over 42 rfl) (by decide) ?_
        refine ax_istore (pc := 75) (lv' := [(4, .int 0), (3, .int 0), (0, .ref (G.1 + 51)), (1, .int x1), (2, .int x2)]) (ax_dd KX10_over 43 rfl) (by decide) rfl ?_
        refine ax_sub (lv' := [(0, .ref (G.1 + 51)), (1, .int x1), (3, .int 0), (4, .int 0)]) [2, 3, 1, 0] rfl ?_
        exact a_X10_over_77 hs fu _ _ _ _ h
      · rw [if_neg c10] at h
        refine ax_icmp_ge_f (pc := 29) (tgt := 72) (ax_dd KX10_over 17 rfl) (by decide) c10 ?_
        refine ax_iload_n (pc := 32) (i := 2) (q := 2) (ax_dd KX10_over 18 rfl) rfl rfl ?_
        by_cases c11 : x2 = 0
        · rw [if_pos c11] at h
          refine ax_if_ne_f (pc := 33) (tgt := 45) (ax_dd KX10_over 19 rfl) (by decide) (fun z => z c11) ?_
          refine ax_aload_n (pc := 36) (i := 0) (q := 0) (ax_dd KX10_over 20 rfl) rfl rfl ?_
          refine ax_getR (pc := 37) (k := 51) (q := 68) (ax_dd KX10_over 21 rfl) f_X10_62 (hs 51 _ rfl) rfl ?_
          refine ax_iload_n (pc := 40) (i := 1) (q := 1) (ax_dd KX10_over 22 rfl) rfl rfl ?_
          obtain ⟨j12, b13, h⟩ := ob_bind h
          refine ax_ild (pc := 41) (k := 68) (N := 36) (j := j12) (ax_dd KX10_over 23 rfl) (hs 68 _ rfl) b13 ?_
          refine ax_goto (pc := 42) (tgt := 71) (ax_dd KX10_over 24 rfl) (by decide) ?_
          obtain rfl := Option.some.inj h
          exact ax_ireti (pc := 71) (ax_dd KX10_over 39 rfl) ⟨_, rfl, rfl⟩ rfl
        · rw [if_neg c11] at h
          refine ax_if_ne_t (pc := 33) (tgt := 45) (ax_dd KX10_over 19 rfl) (by decide) c11 ?_
          refine ax_iload_n (pc := 45) (i := 2) (q := 2) (ax_dd KX10_over 25 rfl) rfl rfl ?_
          refine ax_iconst (pc := 46) (v := 1) (ax_dd KX10_over 26 rfl) (by decide) ?_
          by_cases c14 : x2 = 1
          · rw [if_pos c14] at h
            refine ax_icmp_ne_f (pc := 47) (tgt := 58) (ax_dd KX10_over 27 rfl) (by decide) (fun z => z c14) ?_
            refine ax_aload_n (pc := 50) (i := 0) (q := 0) (ax_dd KX10_over 28 rfl) rfl rfl ?_
            refine ax_iload_n (pc := 51) (i := 1) (q := 1) (ax_dd KX10_over 29 rfl) rfl rfl ?_
            obtain ⟨v15, μ17, b16, h⟩ := ob_bind2 h
            refine ax_kV (pc := 52) (ci := 10) (k := 51) (As := [.int x1]) (rest := []) (st1 := [.int v15]) (μ1 := μ17) (ax_dd KX10_over 30 rfl) (c_X10_finedAt hs b16) kV_X10_207 e_X10_finedAt (hs 51 _ rfl) cl_X10 (by decide) rfl rfl (by decide) (by decide) (Nat.le_of_ble_eq_true rfl) rfl ?_
            refine ax_goto (pc := 55) (tgt := 71) (ax_dd KX10_over 31 rfl) (by decide) ?_
            obtain rfl := Option.some.inj h
            exact ax_ireti (pc := 71) (ax_dd KX10_over 39 rfl) ⟨_, rfl, rfl⟩ rfl
          · rw [if_neg c14] at h
            refine ax_icmp_ne_t (pc := 47) (tgt := 58) (ax_dd KX10_over 27 rfl) (by decide) c14 ?_
            refine ax_aload_n (pc := 58) (i := 0) (q := 0) (ax_dd KX10_over 32 rfl) rfl rfl ?_
            refine ax_iload_n (pc := 59) (i := 1) (q := 1) (ax_dd KX10_over 33 rfl) rfl rfl ?_
            obtain ⟨v18, μ20, b19, h⟩ := ob_bind2 h
            refine ax_kV (pc := 60) (ci := 10) (k := 51) (As := [.int x1]) (rest := []) (st1 := [.int v18]) (μ1 := μ20) (ax_dd KX10_over 34 rfl) (c_X10_isLetOn hs b19) kV_X10_210 e_X10_isLetOn (hs 51 _ rfl) cl_X10 (by decide) rfl rfl (by decide) (by decide) (Nat.le_of_ble_eq_true rfl) rfl ?_
            by_cases c21 : v18 = 0
            · rw [if_pos c21] at h
              refine ax_if_eq_t (pc := 63) (tgt := 70) (ax_dd KX10_over 35 rfl) (by decide) c21 ?_
              refine ax_iconst (pc := 70) (v := 0) (ax_dd KX10_over 38 rfl) (by decide) ?_
              obtain rfl := Option.some.inj h
              exact ax_ireti (pc := 71) (ax_dd KX10_over 39 rfl) ⟨_, rfl, rfl⟩ rfl
            · rw [if_neg c21] at h
              refine ax_if_eq_f (pc := 63) (tgt := 70) (ax_dd KX10_over 35 rfl) (by decide) c21 ?_
              refine ax_iconst (pc := 66) (v := 1) (ax_dd KX10_over 36 rfl) (by decide) ?_
              refine ax_goto (pc := 67) (tgt := 71) (ax_dd KX10_over 37 rfl) (by decide) ?_
              obtain rfl := Option.some.inj h
              exact ax_ireti (pc := 71) (ax_dd KX10_over 39 rfl) ⟨_, rfl, rfl⟩ rfl
def m_X10_rules_27 (x1 : Int32) : Nat → Int64 → Int32 → ax_M → Option (Int64 × ax_M)
  | 0, _, _, _ => none
  | n + 1, x2, x4, μ =>
    if 36 ≤ x4 then
      some (x2, μ)
    else
      (ix 36 x4).bind fun j2 =>
      if (μ 68 j2) = x1 then
        m_X10_rules_27 x1 n (x2 ||| (shL (1 : Int64) x4)) (x4 + 1) μ
      else
        m_X10_rules_27 x1 n (x2 ||| 0) (x4 + 1) μ
set_option maxRecDepth 100000 in
set_option maxHeartbeats 8000000 in
theorem a_X10_rules_27 {G : ax_G} {l : Launch} {sh : List ax_E} {x1 : Int32} (hs : ∀ (k : Nat) (e : ax_E), SHF[k]? = some e → sh[k]? = some e) : ∀ (n : Nat) (x2 : Int64) (x4 : Int32) (μ : ax_M) (v : Int64 × ax_M), m_X10_rules_27 x1 n x2 x4 μ = some v → ax_X G l RX10 cX10_rules 5 (some .long) false 7 (some (.long v.1), sh, v.2) 27 [(0, .ref (G.1 + 51)), (1, .int x1), (2, .long x2), (4, .int x4)] [] sh μ := by
  intro n
  induction n with
  | zero =>
    intro x2 x4 μ v h
    rw [m_X10_rules_27] at h
    cases h
  | succ n ih =>
    intro x2 x4 μ v h
    rw [m_X10_rules_27] at h
    refine ax_iload (pc := 27) (q := 3) (ax_dd KX10_rules 16 rfl) rfl ?_
    refine ax_bipush (pc := 29) (v := 36) (ax_dd KX10_rules 17 rfl) (by decide) ?_
    by_cases c1 : 36 ≤ x4
    · rw [if_pos c1] at h
      refine ax_icmp_ge_t (pc := 31) (tgt := 62) (ax_dd KX10_rules 18 rfl) (by decide) c1 ?_
      refine ax_lload_n (pc := 62) (i := 2) (q := 2) (ax_dd KX10_rules 35 rfl) rfl rfl ?_
      obtain rfl := Option.some.inj h
      exact ax_lret (pc := 63) (ax_dd KX10_rules 36 rfl) rfl rfl
    · rw [if_neg c1] at h
      refine ax_icmp_ge_f (pc := 31) (tgt := 62) (ax_dd KX10_rules 18 rfl) (by decide) c1 ?_
      refine ax_lload_n (pc := 34) (i := 2) (q := 2) (ax_dd KX10_rules 19 rfl) rfl rfl ?_
      refine ax_aload_n (pc := 35) (i := 0) (q := 0) (ax_dd KX10_rules 20 rfl) rfl rfl ?_
      refine ax_getR (pc := 36) (k := 51) (q := 68) (ax_dd KX10_rules 21 rfl) f_X10_62 (hs 51 _ rfl) rfl ?_
      refine ax_iload (pc := 39) (q := 3) (ax_dd KX10_rules 22 rfl) rfl ?_
      obtain ⟨j2, b3, h⟩ := ob_bind h
      refine ax_ild (pc := 41) (k := 68) (N := 36) (j := j2) (ax_dd KX10_rules 23 rfl) (hs 68 _ rfl) b3 ?_
      refine ax_iload_n (pc := 42) (i := 1) (q := 1) (ax_dd KX10_rules 24 rfl) rfl rfl ?_
      by_cases c4 : (μ 68 j2) = x1
      · rw [if_pos c4] at h
        refine ax_icmp_ne_f (pc := 43) (tgt := 53) (ax_dd KX10_rules 25 rfl) (by decide) (fun z => z c4) ?_
        refine ax_lconst (pc := 46) (v := 1) (ax_dd KX10_rules 26 rfl) (by decide) ?_
        refine ax_iload (pc := 47) (q := 3) (ax_dd KX10_rules 27 rfl) rfl ?_
        refine ax_lshl (pc := 49) (ax_dd KX10_rules 28 rfl) ?_
        refine ax_goto (pc := 50) (tgt := 54) (ax_dd KX10_rules 29 rfl) (by decide) ?_
        refine ax_lor (pc := 54) (ax_dd KX10_rules 31 rfl) ?_
        refine ax_lstore_n (pc := 55) (i := 2) (lv' := [(2, .long (x2 ||| (shL (1 : Int64) x4))), (0, .ref (G.1 + 51)), (1, .int x1), (4, .int x4)]) (ax_dd KX10_rules 32 rfl) rfl (by decide) rfl ?_
        refine ax_iinc (pc := 56) (q := 3) (v := (x4 + 1)) (lv' := [(4, .int (x4 + 1)), (2, .long (x2 ||| (shL (1 : Int64) x4))), (0, .ref (G.1 + 51)), (1, .int x1)]) (ax_dd KX10_rules 33 rfl) rfl rfl (by decide) rfl ?_
        refine ax_goto (pc := 59) (tgt := 27) (ax_dd KX10_rules 34 rfl) (by decide) ?_
        refine ax_sub (lv' := [(0, .ref (G.1 + 51)), (1, .int x1), (2, .long (x2 ||| (shL (1 : Int64) x4))), (4, .int (x4 + 1))]) [2, 3, 1, 0] rfl ?_
        exact ih _ _ _ _ h
      · rw [if_neg c4] at h
        refine ax_icmp_ne_t (pc := 43) (tgt := 53) (ax_dd KX10_rules 25 rfl) (by decide) c4 ?_
        refine ax_lconst (pc := 53) (v := 0) (ax_dd KX10_rules 30 rfl) (by decide) ?_
        refine ax_lor (pc := 54) (ax_dd KX10_rules 31 rfl) ?_
        refine ax_lstore_n (pc := 55) (i := 2) (lv' := [(2, .long (x2 ||| 0)), (0, .ref (G.1 + 51)), (1, .int x1), (4, .int x4)]) (ax_dd KX10_rules 32 rfl) rfl (by decide) rfl ?_
        refine ax_iinc (pc := 56) (q := 3) (v := (x4 + 1)) (lv' := [(4, .int (x4 + 1)), (2, .long (x2 ||| 0)), (0, .ref (G.1 + 51)), (1, .int x1)]) (ax_dd KX10_rules 33 rfl) rfl rfl (by decide) rfl ?_
        refine ax_goto (pc := 59) (tgt := 27) (ax_dd KX10_rules 34 rfl) (by decide) ?_
        refine ax_sub (lv' := [(0, .ref (G.1 + 51)), (1, .int x1), (2, .long (x2 ||| 0)), (4, .int (x4 + 1))]) [2, 3, 1, 0] rfl ?_
        exact ih _ _ _ _ h
def m_X10_rules_17 (x1 : Int32) (μ : ax_M) : Option (Int64 × ax_M) :=
  (m_X10_rulesBut (-1) μ).bind fun μ3 =>
  m_X10_rules_27 x1 fu 0 0 μ3
set_option maxRecDepth 100000 in
set_option maxHeartbeats 8000000 in
theorem a_X10_rules_17 {G : ax_G} {l : Launch} {sh : List ax_E} {x1 : Int32} {μ : ax_M} (hs : ∀ (k : Nat) (e : ax_E), SHF[k]? = some e → sh[k]? = some e) {v : Int64 × ax_M} (h : m_X10_rules_17 x1 μ = some v) : ax_X G l RX10 cX10_rules 5 (some .long) false 7 (some (.long v.1), sh, v.2) 17 [(0, .ref (G.1 + 51)), (1, .int x1)] [] sh μ := by
  unfold m_X10_rules_17 at h
  refine ax_aload_n (pc := 17) (i := 0) (q := 0) (ax_dd KX10_rules 9 rfl) rfl rfl ?_
  refine ax_iconst (pc := 18) (v := (-1)) (ax_dd KX10_rules 10 rfl) (by decide) ?_
  obtain ⟨μ3, b2, h⟩ := ob_bind h
  refine ax_kV (pc := 19) (ci := 10) (k := 51) (As := [.int (-1)]) (rest := []) (st1 := []) (μ1 := μ3) (ax_dd KX10_rules 11 rfl) (c_X10_rulesBut hs b2) kV_X10_198 e_X10_rulesBut (hs 51 _ rfl) cl_X10 (by decide) rfl rfl (by decide) (by decide) (Nat.le_of_ble_eq_true rfl) rfl ?_
  refine ax_lconst (pc := 22) (v := 0) (ax_dd KX10_rules 12 rfl) (by decide) ?_
  refine ax_lstore_n (pc := 23) (i := 2) (lv' := [(2, .long 0), (0, .ref (G.1 + 51)), (1, .int x1)]) (ax_dd KX10_rules 13 rfl) rfl (by decide) rfl ?_
  refine ax_iconst (pc := 24) (v := 0) (ax_dd KX10_rules 14 rfl) (by decide) ?_
  refine ax_istore (pc := 25) (lv' := [(4, .int 0), (2, .long 0), (0, .ref (G.1 + 51)), (1, .int x1)]) (ax_dd KX10_rules 15 rfl) (by decide) rfl ?_
  refine ax_sub (lv' := [(0, .ref (G.1 + 51)), (1, .int x1), (2, .long 0), (4, .int 0)]) [2, 3, 1, 0] rfl ?_
  exact a_X10_rules_27 hs fu _ _ _ _ h
def m_X10_rules (x1 : Int32) (μ : ax_M) : Option (Int64 × ax_M) :=
  if x1 = (-1) then
    m_X10_rules_17 x1 μ
  else
    (m_X10_isRug x1 μ).bind fun v2 =>
    if v2 = 0 then
      some ((-4611686018427387904), μ)
    else
      m_X10_rules_17 x1 μ
set_option maxRecDepth 100000 in
set_option maxHeartbeats 8000000 in
theorem c_X10_rules {G : ax_G} {l : Launch} {sh : List ax_E} {x1 : Int32} {μ : ax_M} (hs : ∀ (k : Nat) (e : ax_E), SHF[k]? = some e → sh[k]? = some e) {v : Int64 × ax_M} (h : m_X10_rules x1 μ = some v) : ax_A G l yX10_rules cX10_rules 5 (some .long) 7 [.ref (G.1 + 51), .int x1] sh μ (some (.long v.1), sh, v.2) := by
  refine ax_A.of false (by decide +kernel) (fun h9 => by cases h9) (Nat.le_of_ble_eq_true rfl) (?_ : ax_X G l RX10 cX10_rules 5 (some .long) false 7 (some (.long v.1), sh, v.2) 0 [(0, .ref (G.1 + 51)), (1, .int x1)] [] sh μ)
  unfold m_X10_rules at h
  refine ax_iload_n (pc := 0) (i := 1) (q := 1) (ax_dd KX10_rules 0 rfl) rfl rfl ?_
  refine ax_iconst (pc := 1) (v := (-1)) (ax_dd KX10_rules 1 rfl) (by decide) ?_
  by_cases c1 : x1 = (-1)
  · rw [if_pos c1] at h
    refine ax_icmp_eq_t (pc := 2) (tgt := 17) (ax_dd KX10_rules 2 rfl) (by decide) c1 ?_
    exact a_X10_rules_17 hs h
  · rw [if_neg c1] at h
    refine ax_icmp_eq_f (pc := 2) (tgt := 17) (ax_dd KX10_rules 2 rfl) (by decide) c1 ?_
    refine ax_aload_n (pc := 5) (i := 0) (q := 0) (ax_dd KX10_rules 3 rfl) rfl rfl ?_
    refine ax_iload_n (pc := 6) (i := 1) (q := 1) (ax_dd KX10_rules 4 rfl) rfl rfl ?_
    obtain ⟨v2, b3, h⟩ := ob_bind h
    refine ax_kV (pc := 7) (ci := 10) (k := 51) (As := [.int x1]) (rest := []) (st1 := [.int v2]) (μ1 := μ) (ax_dd KX10_rules 5 rfl) (c_X10_isRug hs b3) kV_X10_167 e_X10_isRug (hs 51 _ rfl) cl_X10 (by decide) rfl rfl (by decide) (by decide) (Nat.le_of_ble_eq_true rfl) rfl ?_
    by_cases c4 : v2 = 0
    · rw [if_pos c4] at h
      refine ax_if_ne_f (pc := 10) (tgt := 17) (ax_dd KX10_rules 6 rfl) (by decide) (fun z => z c4) ?_
      refine ax_ldc2 (pc := 13) (ax_dd KX10_rules 7 rfl) c_X10_213 ?_
      obtain rfl := Option.some.inj h
      exact ax_lret (pc := 16) (ax_dd KX10_rules 8 rfl) rfl rfl
    · rw [if_neg c4] at h
      refine ax_if_ne_t (pc := 10) (tgt := 17) (ax_dd KX10_rules 6 rfl) (by decide) c4 ?_
      exact a_X10_rules_17 hs h
def m_X10_walkWrong_83 (x1 : Int32) (x2 : Int32) (x4 : Int32) (k27 : Int32 → Option (Int32)) (μ : ax_M) : Option (Int32) :=
  if x4 = 0 then
    some (-2)
  else
    k27 (x2 + 1)
set_option maxRecDepth 100000 in
set_option maxHeartbeats 8000000 in
theorem a_X10_walkWrong_83 {G : ax_G} {l : Launch} {sh : List ax_E} {x1 : Int32} {x2 : Int32} {x4 : Int32} {k27 : Int32 → Option (Int32)} {μ : ax_M} (hs : ∀ (k : Nat) (e : ax_E), SHF[k]? = some e → sh[k]? = some e) (hk27 : ∀ (x2 : Int32) (v : Int32), k27 x2 = some v → ax_X G l RX10 cX10_walkWrong 5 (some .int) false 4 (some (.int v), sh, μ) 27 [(0, .ref (G.1 + 51)), (1, .int x1), (2, .int x2)] [] sh μ) {v : Int32} (h : m_X10_walkWrong_83 x1 x2 x4 k27 μ = some v) : ax_X G l RX10 cX10_walkWrong 5 (some .int) false 4 (some (.int v), sh, μ) 83 [(0, .ref (G.1 + 51)), (1, .int x1), (2, .int x2), (4, .int x4)] [] sh μ := by
  unfold m_X10_walkWrong_83 at h
  refine ax_iload (pc := 83) (q := 3) (ax_dd KX10_walkWrong 52 rfl) rfl ?_
  by_cases c1 : x4 = 0
  · rw [if_pos c1] at h
    refine ax_if_ne_f (pc := 85) (tgt := 91) (ax_dd KX10_walkWrong 53 rfl) (by decide) (fun z => z c1) ?_
    refine ax_bipush (pc := 88) (v := (-2)) (ax_dd KX10_walkWrong 54 rfl) (by decide) ?_
    obtain rfl := Option.some.inj h
    exact ax_ireti (pc := 90) (ax_dd KX10_walkWrong 55 rfl) ⟨_, rfl, rfl⟩ rfl
  · rw [if_neg c1] at h
    refine ax_if_ne_t (pc := 85) (tgt := 91) (ax_dd KX10_walkWrong 53 rfl) (by decide) c1 ?_
    refine ax_iinc (pc := 91) (q := 2) (v := (x2 + 1)) (lv' := [(2, .int (x2 + 1)), (0, .ref (G.1 + 51)), (1, .int x1), (4, .int x4)]) (ax_dd KX10_walkWrong 56 rfl) rfl rfl (by decide) rfl ?_
    refine ax_goto (pc := 94) (tgt := 27) (ax_dd KX10_walkWrong 57 rfl) (by decide) ?_
    refine ax_sub (lv' := [(0, .ref (G.1 + 51)), (1, .int x1), (2, .int (x2 + 1))]) [1, 2, 0] rfl ?_
    exact hk27 _ _ h
def m_X10_walkWrong_27 (x1 : Int32) (μ : ax_M) : Nat → Int32 → Option (Int32)
  | 0, _ => none
  | n + 1, x2 =>
    (ix 4 x1).bind fun j1 =>
    if (μ 61 j1) ≤ x2 then
      some 0
    else
      (ix 160 (((40 : Int32) * x1) + x2)).bind fun j4 =>
      (m_X10_isCell (μ 62 j4) μ).bind fun v6 =>
      if v6 = 0 then
        m_X10_walkWrong_83 x1 x2 v6 (m_X10_walkWrong_27 x1 μ n) μ
      else
        if x2 ≤ 0 then
          m_X10_walkWrong_83 x1 x2 v6 (m_X10_walkWrong_27 x1 μ n) μ
        else
          (ix 160 ((((40 : Int32) * x1) + x2) - 1)).bind fun j10 =>
          (m_X10_isBeside (μ 62 j4) (μ 62 j10) μ).bind fun v12 =>
          m_X10_walkWrong_83 x1 x2 v12 (m_X10_walkWrong_27 x1 μ n) μ
set_option maxRecDepth 100000 in
set_option maxHeartbeats 8000000 in
theorem a_X10_walkWrong_27 {G : ax_G} {l : Launch} {sh : List ax_E} {x1 : Int32} {μ : ax_M} (hs : ∀ (k : Nat) (e : ax_E), SHF[k]? = some e → sh[k]? = some e) : ∀ (n : Nat) (x2 : Int32) (v : Int32), m_X10_walkWrong_27 x1 μ n x2 = some v → ax_X G l RX10 cX10_walkWrong 5 (some .int) false 4 (some (.int v), sh, μ) 27 [(0, .ref (G.1 + 51)), (1, .int x1), (2, .int x2)] [] sh μ := by
  intro n
  induction n with
  | zero =>
    intro x2 v h
    rw [m_X10_walkWrong_27] at h
    cases h
  | succ n ih =>
    intro x2 v h
    rw [m_X10_walkWrong_27] at h
    refine ax_iload_n (pc := 27) (i := 2) (q := 2) (ax_dd KX10_walkWrong 17 rfl) rfl rfl ?_
    refine ax_aload_n (pc := 28) (i := 0) (q := 0) (ax_dd KX10_walkWrong 18 rfl) rfl rfl ?_
    refine ax_getR (pc := 29) (k := 51) (q := 61) (ax_dd KX10_walkWrong 19 rfl) f_X10_41 (hs 51 _ rfl) rfl ?_
    refine ax_iload_n (pc := 32) (i := 1) (q := 1) (ax_dd KX10_walkWrong 20 rfl) rfl rfl ?_
    obtain ⟨j1, b2, h⟩ := ob_bind h
    refine ax_ild (pc := 33) (k := 61) (N := 4) (j := j1) (ax_dd KX10_walkWrong 21 rfl) (hs 61 _ rfl) b2 ?_
    by_cases c3 : (μ 61 j1) ≤ x2
    · rw [if_pos c3] at h
      refine ax_icmp_ge_t (pc := 34) (tgt := 97) (ax_dd KX10_walkWrong 22 rfl) (by decide) c3 ?_
      refine ax_iconst (pc := 97) (v := 0) (ax_dd KX10_walkWrong 58 rfl) (by decide) ?_
      obtain rfl := Option.some.inj h
      exact ax_ireti (pc := 98) (ax_dd KX10_walkWrong 59 rfl) ⟨_, rfl, rfl⟩ rfl
    · rw [if_neg c3] at h
      refine ax_icmp_ge_f (pc := 34) (tgt := 97) (ax_dd KX10_walkWrong 22 rfl) (by decide) c3 ?_
      refine ax_aload_n (pc := 37) (i := 0) (q := 0) (ax_dd KX10_walkWrong 23 rfl) rfl rfl ?_
      refine ax_getR (pc := 38) (k := 51) (q := 62) (ax_dd KX10_walkWrong 24 rfl) f_X10_44 (hs 51 _ rfl) rfl ?_
      refine ax_bipush (pc := 41) (v := 40) (ax_dd KX10_walkWrong 25 rfl) (by decide) ?_
      refine ax_iload_n (pc := 43) (i := 1) (q := 1) (ax_dd KX10_walkWrong 26 rfl) rfl rfl ?_
      refine ax_imul (pc := 44) (ax_dd KX10_walkWrong 27 rfl) ?_
      refine ax_iload_n (pc := 45) (i := 2) (q := 2) (ax_dd KX10_walkWrong 28 rfl) rfl rfl ?_
      refine ax_iadd (pc := 46) (ax_dd KX10_walkWrong 29 rfl) ?_
      obtain ⟨j4, b5, h⟩ := ob_bind h
      refine ax_ild (pc := 47) (k := 62) (N := 160) (j := j4) (ax_dd KX10_walkWrong 30 rfl) (hs 62 _ rfl) b5 ?_
      refine ax_istore_n (pc := 48) (i := 3) (lv' := [(3, .int (μ 62 j4)), (0, .ref (G.1 + 51)), (1, .int x1), (2, .int x2)]) (ax_dd KX10_walkWrong 31 rfl) rfl (by decide) rfl ?_
      refine ax_iload_n (pc := 49) (i := 3) (q := 0) (ax_dd KX10_walkWrong 32 rfl) rfl rfl ?_
      obtain ⟨v6, b7, h⟩ := ob_bind h
      refine ax_kS (pc := 50) (As := [.int (μ 62 j4)]) (rest := []) (st1 := [.int v6]) (μ1 := μ) (ax_dd KX10_walkWrong 33 rfl) (c_X10_isCell hs b7) kS_X10_170 e_X10_isCell rfl rfl (by decide) (by decide) (Nat.le_of_ble_eq_true rfl) rfl ?_
      refine ax_istore (pc := 53) (lv' := [(4, .int v6), (3, .int (μ 62 j4)), (0, .ref (G.1 + 51)), (1, .int x1), (2, .int x2)]) (ax_dd KX10_walkWrong 34 rfl) (by decide) rfl ?_
      refine ax_iload (pc := 55) (q := 0) (ax_dd KX10_walkWrong 35 rfl) rfl ?_
      by_cases c8 : v6 = 0
      · rw [if_pos c8] at h
        refine ax_if_eq_t (pc := 57) (tgt := 83) (ax_dd KX10_walkWrong 36 rfl) (by decide) c8 ?_
        refine ax_sub (lv' := [(0, .ref (G.1 + 51)), (1, .int x1), (2, .int x2), (4, .int v6)]) [2, 3, 4, 0] rfl ?_
        exact a_X10_walkWrong_83 hs ih h
      · rw [if_neg c8] at h
        refine ax_if_eq_f (pc := 57) (tgt := 83) (ax_dd KX10_walkWrong 36 rfl) (by decide) c8 ?_
        refine ax_iload_n (pc := 60) (i := 2) (q := 4) (ax_dd KX10_walkWrong 37 rfl) rfl rfl ?_
        by_cases c9 : x2 ≤ 0
        · rw [if_pos c9] at h
          refine ax_if_le_t (pc := 61) (tgt := 83) (ax_dd KX10_walkWrong 38 rfl) (by decide) c9 ?_
          refine ax_sub (lv' := [(0, .ref (G.1 + 51)), (1, .int x1), (2, .int x2), (4, .int v6)]) [2, 3, 4, 0] rfl ?_
          exact a_X10_walkWrong_83 hs ih h
        · rw [if_neg c9] at h
          refine ax_if_le_f (pc := 61) (tgt := 83) (ax_dd KX10_walkWrong 38 rfl) (by decide) c9 ?_
          refine ax_iload_n (pc := 64) (i := 3) (q := 1) (ax_dd KX10_walkWrong 39 rfl) rfl rfl ?_
          refine ax_aload_n (pc := 65) (i := 0) (q := 2) (ax_dd KX10_walkWrong 40 rfl) rfl rfl ?_
          refine ax_getR (pc := 66) (k := 51) (q := 62) (ax_dd KX10_walkWrong 41 rfl) f_X10_44 (hs 51 _ rfl) rfl ?_
          refine ax_bipush (pc := 69) (v := 40) (ax_dd KX10_walkWrong 42 rfl) (by decide) ?_
          refine ax_iload_n (pc := 71) (i := 1) (q := 3) (ax_dd KX10_walkWrong 43 rfl) rfl rfl ?_
          refine ax_imul (pc := 72) (ax_dd KX10_walkWrong 44 rfl) ?_
          refine ax_iload_n (pc := 73) (i := 2) (q := 4) (ax_dd KX10_walkWrong 45 rfl) rfl rfl ?_
          refine ax_iadd (pc := 74) (ax_dd KX10_walkWrong 46 rfl) ?_
          refine ax_iconst (pc := 75) (v := 1) (ax_dd KX10_walkWrong 47 rfl) (by decide) ?_
          refine ax_isub (pc := 76) (ax_dd KX10_walkWrong 48 rfl) ?_
          obtain ⟨j10, b11, h⟩ := ob_bind h
          refine ax_ild (pc := 77) (k := 62) (N := 160) (j := j10) (ax_dd KX10_walkWrong 49 rfl) (hs 62 _ rfl) b11 ?_
          obtain ⟨v12, b13, h⟩ := ob_bind h
          refine ax_kS (pc := 78) (As := [.int (μ 62 j4), .int (μ 62 j10)]) (rest := []) (st1 := [.int v12]) (μ1 := μ) (ax_dd KX10_walkWrong 50 rfl) (c_X10_isBeside hs b13) kS_X10_215 e_X10_isBeside rfl rfl (by decide) (by decide) (Nat.le_of_ble_eq_true rfl) rfl ?_
          refine ax_istore (pc := 81) (lv' := [(4, .int v12), (3, .int (μ 62 j4)), (0, .ref (G.1 + 51)), (1, .int x1), (2, .int x2)]) (ax_dd KX10_walkWrong 51 rfl) (by decide) rfl ?_
          refine ax_sub (lv' := [(0, .ref (G.1 + 51)), (1, .int x1), (2, .int x2), (4, .int v12)]) [2, 3, 4, 0] rfl ?_
          exact a_X10_walkWrong_83 hs ih h
def m_X10_walkWrong (x1 : Int32) (μ : ax_M) : Option (Int32) :=
  (m_X10_in x1 0 3 μ).bind fun v1 =>
  if v1 = 0 then
    some (-2)
  else
    (ix 4 x1).bind fun j4 =>
    if (μ 60 j4) = (-1) then
      some (-11)
    else
      m_X10_walkWrong_27 x1 μ fu 0
set_option maxRecDepth 100000 in
set_option maxHeartbeats 8000000 in
theorem c_X10_walkWrong {G : ax_G} {l : Launch} {sh : List ax_E} {x1 : Int32} {μ : ax_M} (hs : ∀ (k : Nat) (e : ax_E), SHF[k]? = some e → sh[k]? = some e) {v : Int32} (h : m_X10_walkWrong x1 μ = some v) : ax_A G l yX10_walkWrong cX10_walkWrong 5 (some .int) 4 [.ref (G.1 + 51), .int x1] sh μ (some (.int v), sh, μ) := by
  refine ax_A.of false (by decide +kernel) (fun h9 => by cases h9) (Nat.le_of_ble_eq_true rfl) (?_ : ax_X G l RX10 cX10_walkWrong 5 (some .int) false 4 (some (.int v), sh, μ) 0 [(0, .ref (G.1 + 51)), (1, .int x1)] [] sh μ)
  unfold m_X10_walkWrong at h
  refine ax_iload_n (pc := 0) (i := 1) (q := 1) (ax_dd KX10_walkWrong 0 rfl) rfl rfl ?_
  refine ax_iconst (pc := 1) (v := 0) (ax_dd KX10_walkWrong 1 rfl) (by decide) ?_
  refine ax_iconst (pc := 2) (v := 3) (ax_dd KX10_walkWrong 2 rfl) (by decide) ?_
  obtain ⟨v1, b2, h⟩ := ob_bind h
  refine ax_kS (pc := 3) (As := [.int x1, .int 0, .int 3]) (rest := []) (st1 := [.int v1]) (μ1 := μ) (ax_dd KX10_walkWrong 3 rfl) (c_X10_in hs b2) kS_X10_81 e_X10_in rfl rfl (by decide) (by decide) (Nat.le_of_ble_eq_true rfl) rfl ?_
  by_cases c3 : v1 = 0
  · rw [if_pos c3] at h
    refine ax_if_ne_f (pc := 6) (tgt := 12) (ax_dd KX10_walkWrong 4 rfl) (by decide) (fun z => z c3) ?_
    refine ax_bipush (pc := 9) (v := (-2)) (ax_dd KX10_walkWrong 5 rfl) (by decide) ?_
    obtain rfl := Option.some.inj h
    exact ax_ireti (pc := 11) (ax_dd KX10_walkWrong 6 rfl) ⟨_, rfl, rfl⟩ rfl
  · rw [if_neg c3] at h
    refine ax_if_ne_t (pc := 6) (tgt := 12) (ax_dd KX10_walkWrong 4 rfl) (by decide) c3 ?_
    refine ax_aload_n (pc := 12) (i := 0) (q := 0) (ax_dd KX10_walkWrong 7 rfl) rfl rfl ?_
    refine ax_getR (pc := 13) (k := 51) (q := 60) (ax_dd KX10_walkWrong 8 rfl) f_X10_38 (hs 51 _ rfl) rfl ?_
    refine ax_iload_n (pc := 16) (i := 1) (q := 1) (ax_dd KX10_walkWrong 9 rfl) rfl rfl ?_
    obtain ⟨j4, b5, h⟩ := ob_bind h
    refine ax_ild (pc := 17) (k := 60) (N := 4) (j := j4) (ax_dd KX10_walkWrong 10 rfl) (hs 60 _ rfl) b5 ?_
    refine ax_iconst (pc := 18) (v := (-1)) (ax_dd KX10_walkWrong 11 rfl) (by decide) ?_
    by_cases c6 : (μ 60 j4) = (-1)
    · rw [if_pos c6] at h
      refine ax_icmp_ne_f (pc := 19) (tgt := 25) (ax_dd KX10_walkWrong 12 rfl) (by decide) (fun z => z c6) ?_
      refine ax_bipush (pc := 22) (v := (-11)) (ax_dd KX10_walkWrong 13 rfl) (by decide) ?_
      obtain rfl := Option.some.inj h
      exact ax_ireti (pc := 24) (ax_dd KX10_walkWrong 14 rfl) ⟨_, rfl, rfl⟩ rfl
    · rw [if_neg c6] at h
      refine ax_icmp_ne_t (pc := 19) (tgt := 25) (ax_dd KX10_walkWrong 12 rfl) (by decide) c6 ?_
      refine ax_iconst (pc := 25) (v := 0) (ax_dd KX10_walkWrong 15 rfl) (by decide) ?_
      refine ax_istore_n (pc := 26) (i := 2) (lv' := [(2, .int 0), (0, .ref (G.1 + 51)), (1, .int x1)]) (ax_dd KX10_walkWrong 16 rfl) rfl (by decide) rfl ?_
      refine ax_sub (lv' := [(0, .ref (G.1 + 51)), (1, .int x1), (2, .int 0)]) [1, 2, 0] rfl ?_
      exact a_X10_walkWrong_27 hs fu _ _ h
def m_X10_goesOver_176 (x1 : Int32) (x2 : Int32) (x3 : Int32) (s1 : Int32) (s2 : Int32) (k27 : Int32 → ax_M → Option (ax_M)) (μ : ax_M) : Option (ax_M) :=
  (ix 36 x3).bind fun j1 =>
  if ((ax_w μ 51 32 (s1 + s2)) 68 j1) = (-1) then
    k27 (x2 + 1) (ax_w (ax_w μ 51 32 (s1 + s2)) 51 33 (((ax_w μ 51 32 (s1 + s2)) 51 33) ||| 0))
  else
    (ix 36 x3).bind fun j4 =>
    k27 (x2 + 1) (ax_w (ax_w μ 51 32 (s1 + s2)) 51 33 (((ax_w μ 51 32 (s1 + s2)) 51 33) ||| (shI (1 : Int32) ((ax_w μ 51 32 (s1 + s2)) 68 j4))))
set_option maxRecDepth 100000 in
set_option maxHeartbeats 8000000 in
theorem a_X10_goesOver_176 {G : ax_G} {l : Launch} {sh : List ax_E} {x1 : Int32} {x2 : Int32} {x3 : Int32} {s1 : Int32} {s2 : Int32} {k27 : Int32 → ax_M → Option (ax_M)} {μ : ax_M} (hs : ∀ (k : Nat) (e : ax_E), SHF[k]? = some e → sh[k]? = some e) (hk27 : ∀ (x2 : Int32) (μ : ax_M) (v : ax_M), k27 x2 μ = some v → ax_X G l RX10 cX10_goesOver 6 none false 7 (none, sh, v) 27 [(0, .ref (G.1 + 51)), (1, .int x1), (2, .int x2)] [] sh μ) {v : ax_M} (h : m_X10_goesOver_176 x1 x2 x3 s1 s2 k27 μ = some v) : ax_X G l RX10 cX10_goesOver 6 none false 7 (none, sh, v) 176 [(0, .ref (G.1 + 51)), (1, .int x1), (2, .int x2), (3, .int x3)] [.int s2, .int s1, .ref (G.1 + 51)] sh μ := by
  unfold m_X10_goesOver_176 at h
  refine ax_iadd (pc := 176) (ax_dd KX10_goesOver 102 rfl) ?_
  refine ax_putI (pc := 177) (k := 51) (ax_dd KX10_goesOver 103 rfl) f_X10_224 ft_X10 (hs 51 _ rfl) rfl (fun _ h9 => by cases h9; rfl) rfl rfl ?_
  refine ax_aload_n (pc := 180) (i := 0) (q := 0) (ax_dd KX10_goesOver 104 rfl) rfl rfl ?_
  refine ax_dup (pc := 181) (ax_dd KX10_goesOver 105 rfl) rfl ?_
  refine ax_getI (pc := 182) (k := 51) (ax_dd KX10_goesOver 106 rfl) f_X10_227 (hs 51 _ rfl) rfl ?_
  refine ax_aload_n (pc := 185) (i := 0) (q := 0) (ax_dd KX10_goesOver 107 rfl) rfl rfl ?_
  refine ax_getR (pc := 186) (k := 51) (q := 68) (ax_dd KX10_goesOver 108 rfl) f_X10_62 (hs 51 _ rfl) rfl ?_
  refine ax_iload_n (pc := 189) (i := 3) (q := 3) (ax_dd KX10_goesOver 109 rfl) rfl rfl ?_
  obtain ⟨j1, b2, h⟩ := ob_bind h
  refine ax_ild (pc := 190) (k := 68) (N := 36) (j := j1) (ax_dd KX10_goesOver 110 rfl) (hs 68 _ rfl) b2 ?_
  refine ax_iconst (pc := 191) (v := (-1)) (ax_dd KX10_goesOver 111 rfl) (by decide) ?_
  by_cases c3 : ((ax_w μ 51 32 (s1 + s2)) 68 j1) = (-1)
  · rw [if_pos c3] at h
    refine ax_icmp_ne_f (pc := 192) (tgt := 199) (ax_dd KX10_goesOver 112 rfl) (by decide) (fun z => z c3) ?_
    refine ax_iconst (pc := 195) (v := 0) (ax_dd KX10_goesOver 113 rfl) (by decide) ?_
    refine ax_goto (pc := 196) (tgt := 207) (ax_dd KX10_goesOver 114 rfl) (by decide) ?_
    refine ax_ior (pc := 207) (ax_dd KX10_goesOver 121 rfl) ?_
    refine ax_putI (pc := 208) (k := 51) (ax_dd KX10_goesOver 122 rfl) f_X10_227 ft_X10 (hs 51 _ rfl) rfl (fun _ h9 => by cases h9; rfl) rfl rfl ?_
    refine ax_iinc (pc := 211) (q := 2) (v := (x2 + 1)) (lv' := [(2, .int (x2 + 1)), (0, .ref (G.1 + 51)), (1, .int x1), (3, .int x3)]) (ax_dd KX10_goesOver 123 rfl) rfl rfl (by decide) rfl ?_
    refine ax_goto (pc := 214) (tgt := 27) (ax_dd KX10_goesOver 124 rfl) (by decide) ?_
    refine ax_sub (lv' := [(0, .ref (G.1 + 51)), (1, .int x1), (2, .int (x2 + 1))]) [1, 2, 0] rfl ?_
    exact hk27 _ _ _ h
  · rw [if_neg c3] at h
    refine ax_icmp_ne_t (pc := 192) (tgt := 199) (ax_dd KX10_goesOver 112 rfl) (by decide) c3 ?_
    refine ax_iconst (pc := 199) (v := 1) (ax_dd KX10_goesOver 115 rfl) (by decide) ?_
    refine ax_aload_n (pc := 200) (i := 0) (q := 0) (ax_dd KX10_goesOver 116 rfl) rfl rfl ?_
    refine ax_getR (pc := 201) (k := 51) (q := 68) (ax_dd KX10_goesOver 117 rfl) f_X10_62 (hs 51 _ rfl) rfl ?_
    refine ax_iload_n (pc := 204) (i := 3) (q := 3) (ax_dd KX10_goesOver 118 rfl) rfl rfl ?_
    obtain ⟨j4, b5, h⟩ := ob_bind h
    refine ax_ild (pc := 205) (k := 68) (N := 36) (j := j4) (ax_dd KX10_goesOver 119 rfl) (hs 68 _ rfl) b5 ?_
    refine ax_ishl (pc := 206) (ax_dd KX10_goesOver 120 rfl) ?_
    refine ax_ior (pc := 207) (ax_dd KX10_goesOver 121 rfl) ?_
    refine ax_putI (pc := 208) (k := 51) (ax_dd KX10_goesOver 122 rfl) f_X10_227 ft_X10 (hs 51 _ rfl) rfl (fun _ h9 => by cases h9; rfl) rfl rfl ?_
    refine ax_iinc (pc := 211) (q := 2) (v := (x2 + 1)) (lv' := [(2, .int (x2 + 1)), (0, .ref (G.1 + 51)), (1, .int x1), (3, .int x3)]) (ax_dd KX10_goesOver 123 rfl) rfl rfl (by decide) rfl ?_
    refine ax_goto (pc := 214) (tgt := 27) (ax_dd KX10_goesOver 124 rfl) (by decide) ?_
    refine ax_sub (lv' := [(0, .ref (G.1 + 51)), (1, .int x1), (2, .int (x2 + 1))]) [1, 2, 0] rfl ?_
    exact hk27 _ _ _ h
def m_X10_goesOver_147 (x1 : Int32) (x2 : Int32) (x3 : Int32) (x4 : Int32) (k27 : Int32 → ax_M → Option (ax_M)) (μ : ax_M) : Option (ax_M) :=
  bind2 (m_X10_finedAt x3 μ) fun v1 μ3 =>
  if x4 = 0 then
    m_X10_goesOver_176 x1 x2 x3 ((ax_w μ3 51 31 ((μ 51 31) + v1)) 51 32) 0 k27 (ax_w μ3 51 31 ((μ 51 31) + v1))
  else
    m_X10_goesOver_176 x1 x2 x3 ((ax_w μ3 51 31 ((μ 51 31) + v1)) 51 32) 1 k27 (ax_w μ3 51 31 ((μ 51 31) + v1))
set_option maxRecDepth 100000 in
set_option maxHeartbeats 8000000 in
theorem a_X10_goesOver_147 {G : ax_G} {l : Launch} {sh : List ax_E} {x1 : Int32} {x2 : Int32} {x3 : Int32} {x4 : Int32} {k27 : Int32 → ax_M → Option (ax_M)} {μ : ax_M} (hs : ∀ (k : Nat) (e : ax_E), SHF[k]? = some e → sh[k]? = some e) (hk27 : ∀ (x2 : Int32) (μ : ax_M) (v : ax_M), k27 x2 μ = some v → ax_X G l RX10 cX10_goesOver 6 none false 7 (none, sh, v) 27 [(0, .ref (G.1 + 51)), (1, .int x1), (2, .int x2)] [] sh μ) {v : ax_M} (h : m_X10_goesOver_147 x1 x2 x3 x4 k27 μ = some v) : ax_X G l RX10 cX10_goesOver 6 none false 7 (none, sh, v) 147 [(0, .ref (G.1 + 51)), (1, .int x1), (2, .int x2), (3, .int x3), (4, .int x4)] [] sh μ := by
  unfold m_X10_goesOver_147 at h
  refine ax_aload_n (pc := 147) (i := 0) (q := 0) (ax_dd KX10_goesOver 86 rfl) rfl rfl ?_
  refine ax_dup (pc := 148) (ax_dd KX10_goesOver 87 rfl) rfl ?_
  refine ax_getI (pc := 149) (k := 51) (ax_dd KX10_goesOver 88 rfl) f_X10_221 (hs 51 _ rfl) rfl ?_
  refine ax_aload_n (pc := 152) (i := 0) (q := 0) (ax_dd KX10_goesOver 89 rfl) rfl rfl ?_
  refine ax_iload_n (pc := 153) (i := 3) (q := 3) (ax_dd KX10_goesOver 90 rfl) rfl rfl ?_
  obtain ⟨v1, μ3, b2, h⟩ := ob_bind2 h
  refine ax_kV (pc := 154) (ci := 10) (k := 51) (As := [.int x3]) (rest := [.int (μ 51 31), .ref (G.1 + 51)]) (st1 := [.int v1, .int (μ 51 31), .ref (G.1 + 51)]) (μ1 := μ3) (ax_dd KX10_goesOver 91 rfl) (c_X10_finedAt hs b2) kV_X10_207 e_X10_finedAt (hs 51 _ rfl) cl_X10 (by decide) rfl rfl (by decide) (by decide) (Nat.le_of_ble_eq_true rfl) rfl ?_
  refine ax_iadd (pc := 157) (ax_dd KX10_goesOver 92 rfl) ?_
  refine ax_putI (pc := 158) (k := 51) (ax_dd KX10_goesOver 93 rfl) f_X10_221 ft_X10 (hs 51 _ rfl) rfl (fun _ h9 => by cases h9; rfl) rfl rfl ?_
  refine ax_aload_n (pc := 161) (i := 0) (q := 0) (ax_dd KX10_goesOver 94 rfl) rfl rfl ?_
  refine ax_dup (pc := 162) (ax_dd KX10_goesOver 95 rfl) rfl ?_
  refine ax_getI (pc := 163) (k := 51) (ax_dd KX10_goesOver 96 rfl) f_X10_224 (hs 51 _ rfl) rfl ?_
  refine ax_iload (pc := 166) (q := 4) (ax_dd KX10_goesOver 97 rfl) rfl ?_
  by_cases c4 : x4 = 0
  · rw [if_pos c4] at h
    refine ax_if_eq_t (pc := 168) (tgt := 175) (ax_dd KX10_goesOver 98 rfl) (by decide) c4 ?_
    refine ax_iconst (pc := 175) (v := 0) (ax_dd KX10_goesOver 101 rfl) (by decide) ?_
    refine ax_sub (lv' := [(0, .ref (G.1 + 51)), (1, .int x1), (2, .int x2), (3, .int x3)]) [0, 1, 2, 3] rfl ?_
    exact a_X10_goesOver_176 hs hk27 h
  · rw [if_neg c4] at h
    refine ax_if_eq_f (pc := 168) (tgt := 175) (ax_dd KX10_goesOver 98 rfl) (by decide) c4 ?_
    refine ax_iconst (pc := 171) (v := 1) (ax_dd KX10_goesOver 99 rfl) (by decide) ?_
    refine ax_goto (pc := 172) (tgt := 176) (ax_dd KX10_goesOver 100 rfl) (by decide) ?_
    refine ax_sub (lv' := [(0, .ref (G.1 + 51)), (1, .int x1), (2, .int x2), (3, .int x3)]) [0, 1, 2, 3] rfl ?_
    exact a_X10_goesOver_176 hs hk27 h
def m_X10_goesOver_124 (x1 : Int32) (x2 : Int32) (x3 : Int32) (x4 : Int32) (s0 : Int32) (k27 : Int32 → ax_M → Option (ax_M)) (μ : ax_M) : Option (ax_M) :=
  if s0 = 0 then
    m_X10_goesOver_147 x1 x2 x3 x4 k27 μ
  else
    bind2 (m_X10_isLetOn x3 μ) fun v2 μ4 =>
    if v2 = 0 then
      k27 (x2 + 1) (ax_w μ4 51 30 x2)
    else
      m_X10_goesOver_147 x1 x2 x3 x4 k27 μ4
set_option maxRecDepth 100000 in
set_option maxHeartbeats 8000000 in
theorem a_X10_goesOver_124 {G : ax_G} {l : Launch} {sh : List ax_E} {x1 : Int32} {x2 : Int32} {x3 : Int32} {x4 : Int32} {s0 : Int32} {k27 : Int32 → ax_M → Option (ax_M)} {μ : ax_M} (hs : ∀ (k : Nat) (e : ax_E), SHF[k]? = some e → sh[k]? = some e) (hk27 : ∀ (x2 : Int32) (μ : ax_M) (v : ax_M), k27 x2 μ = some v → ax_X G l RX10 cX10_goesOver 6 none false 7 (none, sh, v) 27 [(0, .ref (G.1 + 51)), (1, .int x1), (2, .int x2)] [] sh μ) {v : ax_M} (h : m_X10_goesOver_124 x1 x2 x3 x4 s0 k27 μ = some v) : ax_X G l RX10 cX10_goesOver 6 none false 7 (none, sh, v) 124 [(0, .ref (G.1 + 51)), (1, .int x1), (2, .int x2), (3, .int x3), (4, .int x4)] [.int s0] sh μ := by
  unfold m_X10_goesOver_124 at h
  refine ax_istore (pc := 124) (lv' := [(5, .int s0), (0, .ref (G.1 + 51)), (1, .int x1), (2, .int x2), (3, .int x3), (4, .int x4)]) (ax_dd KX10_goesOver 75 rfl) (by decide) rfl ?_
  refine ax_iload (pc := 126) (q := 0) (ax_dd KX10_goesOver 76 rfl) rfl ?_
  by_cases c1 : s0 = 0
  · rw [if_pos c1] at h
    refine ax_if_eq_t (pc := 128) (tgt := 147) (ax_dd KX10_goesOver 77 rfl) (by decide) c1 ?_
    refine ax_sub (lv' := [(0, .ref (G.1 + 51)), (1, .int x1), (2, .int x2), (3, .int x3), (4, .int x4)]) [1, 2, 3, 4, 5] rfl ?_
    exact a_X10_goesOver_147 hs hk27 h
  · rw [if_neg c1] at h
    refine ax_if_eq_f (pc := 128) (tgt := 147) (ax_dd KX10_goesOver 77 rfl) (by decide) c1 ?_
    refine ax_aload_n (pc := 131) (i := 0) (q := 1) (ax_dd KX10_goesOver 78 rfl) rfl rfl ?_
    refine ax_iload_n (pc := 132) (i := 3) (q := 4) (ax_dd KX10_goesOver 79 rfl) rfl rfl ?_
    obtain ⟨v2, μ4, b3, h⟩ := ob_bind2 h
    refine ax_kV (pc := 133) (ci := 10) (k := 51) (As := [.int x3]) (rest := []) (st1 := [.int v2]) (μ1 := μ4) (ax_dd KX10_goesOver 80 rfl) (c_X10_isLetOn hs b3) kV_X10_210 e_X10_isLetOn (hs 51 _ rfl) cl_X10 (by decide) rfl rfl (by decide) (by decide) (Nat.le_of_ble_eq_true rfl) rfl ?_
    by_cases c5 : v2 = 0
    · rw [if_pos c5] at h
      refine ax_if_ne_f (pc := 136) (tgt := 147) (ax_dd KX10_goesOver 81 rfl) (by decide) (fun z => z c5) ?_
      refine ax_aload_n (pc := 139) (i := 0) (q := 1) (ax_dd KX10_goesOver 82 rfl) rfl rfl ?_
      refine ax_iload_n (pc := 140) (i := 2) (q := 3) (ax_dd KX10_goesOver 83 rfl) rfl rfl ?_
      refine ax_putI (pc := 141) (k := 51) (ax_dd KX10_goesOver 84 rfl) f_X10_218 ft_X10 (hs 51 _ rfl) rfl (fun _ h9 => by cases h9; rfl) rfl rfl ?_
      refine ax_goto (pc := 144) (tgt := 211) (ax_dd KX10_goesOver 85 rfl) (by decide) ?_
      refine ax_iinc (pc := 211) (q := 3) (v := (x2 + 1)) (lv' := [(2, .int (x2 + 1)), (5, .int s0), (0, .ref (G.1 + 51)), (1, .int x1), (3, .int x3), (4, .int x4)]) (ax_dd KX10_goesOver 123 rfl) rfl rfl (by decide) rfl ?_
      refine ax_goto (pc := 214) (tgt := 27) (ax_dd KX10_goesOver 124 rfl) (by decide) ?_
      refine ax_sub (lv' := [(0, .ref (G.1 + 51)), (1, .int x1), (2, .int (x2 + 1))]) [2, 3, 0] rfl ?_
      exact hk27 _ _ _ h
    · rw [if_neg c5] at h
      refine ax_if_ne_t (pc := 136) (tgt := 147) (ax_dd KX10_goesOver 81 rfl) (by decide) c5 ?_
      refine ax_sub (lv' := [(0, .ref (G.1 + 51)), (1, .int x1), (2, .int x2), (3, .int x3), (4, .int x4)]) [1, 2, 3, 4, 5] rfl ?_
      exact a_X10_goesOver_147 hs hk27 h
def m_X10_goesOver_110 (x1 : Int32) (x2 : Int32) (x3 : Int32) (x4 : Int32) (k27 : Int32 → ax_M → Option (ax_M)) (μ : ax_M) : Option (ax_M) :=
  if x2 = 0 then
    m_X10_goesOver_124 x1 x2 x3 x4 1 k27 μ
  else
    if x4 = 0 then
      m_X10_goesOver_124 x1 x2 x3 x4 0 k27 μ
    else
      m_X10_goesOver_124 x1 x2 x3 x4 1 k27 μ
set_option maxRecDepth 100000 in
set_option maxHeartbeats 8000000 in
theorem a_X10_goesOver_110 {G : ax_G} {l : Launch} {sh : List ax_E} {x1 : Int32} {x2 : Int32} {x3 : Int32} {x4 : Int32} {k27 : Int32 → ax_M → Option (ax_M)} {μ : ax_M} (hs : ∀ (k : Nat) (e : ax_E), SHF[k]? = some e → sh[k]? = some e) (hk27 : ∀ (x2 : Int32) (μ : ax_M) (v : ax_M), k27 x2 μ = some v → ax_X G l RX10 cX10_goesOver 6 none false 7 (none, sh, v) 27 [(0, .ref (G.1 + 51)), (1, .int x1), (2, .int x2)] [] sh μ) {v : ax_M} (h : m_X10_goesOver_110 x1 x2 x3 x4 k27 μ = some v) : ax_X G l RX10 cX10_goesOver 6 none false 7 (none, sh, v) 110 [(0, .ref (G.1 + 51)), (1, .int x1), (2, .int x2), (3, .int x3), (4, .int x4)] [] sh μ := by
  unfold m_X10_goesOver_110 at h
  refine ax_iload_n (pc := 110) (i := 2) (q := 2) (ax_dd KX10_goesOver 68 rfl) rfl rfl ?_
  by_cases c1 : x2 = 0
  · rw [if_pos c1] at h
    refine ax_if_eq_t (pc := 111) (tgt := 119) (ax_dd KX10_goesOver 69 rfl) (by decide) c1 ?_
    refine ax_iconst (pc := 119) (v := 1) (ax_dd KX10_goesOver 72 rfl) (by decide) ?_
    refine ax_goto (pc := 120) (tgt := 124) (ax_dd KX10_goesOver 73 rfl) (by decide) ?_
    exact a_X10_goesOver_124 hs hk27 h
  · rw [if_neg c1] at h
    refine ax_if_eq_f (pc := 111) (tgt := 119) (ax_dd KX10_goesOver 69 rfl) (by decide) c1 ?_
    refine ax_iload (pc := 114) (q := 4) (ax_dd KX10_goesOver 70 rfl) rfl ?_
    by_cases c2 : x4 = 0
    · rw [if_pos c2] at h
      refine ax_if_eq_t (pc := 116) (tgt := 123) (ax_dd KX10_goesOver 71 rfl) (by decide) c2 ?_
      refine ax_iconst (pc := 123) (v := 0) (ax_dd KX10_goesOver 74 rfl) (by decide) ?_
      exact a_X10_goesOver_124 hs hk27 h
    · rw [if_neg c2] at h
      refine ax_if_eq_f (pc := 116) (tgt := 123) (ax_dd KX10_goesOver 71 rfl) (by decide) c2 ?_
      refine ax_iconst (pc := 119) (v := 1) (ax_dd KX10_goesOver 72 rfl) (by decide) ?_
      refine ax_goto (pc := 120) (tgt := 124) (ax_dd KX10_goesOver 73 rfl) (by decide) ?_
      exact a_X10_goesOver_124 hs hk27 h
def m_X10_goesOver_27 (x1 : Int32) : Nat → Int32 → ax_M → Option (ax_M)
  | 0, _, _ => none
  | n + 1, x2, μ =>
    (ix 4 x1).bind fun j1 =>
    if (μ 61 j1) ≤ x2 then
      some μ
    else
      if (μ 51 30) = (-1) then
        (ix 160 (((40 : Int32) * x1) + x2)).bind fun j5 =>
        (m_X10_within (μ 62 j5) 0 35 μ).bind fun v7 =>
        if x2 ≤ 0 then
          m_X10_goesOver_110 x1 x2 v7 0 (m_X10_goesOver_27 x1 n) μ
        else
          (ix 36 v7).bind fun j10 =>
          (ix 160 ((((40 : Int32) * x1) + x2) - 1)).bind fun j12 =>
          (m_X10_within (μ 62 j12) 0 35 μ).bind fun v14 =>
          (ix 36 v14).bind fun j16 =>
          if (μ 68 j10) = (μ 68 j16) then
            m_X10_goesOver_110 x1 x2 v7 0 (m_X10_goesOver_27 x1 n) μ
          else
            m_X10_goesOver_110 x1 x2 v7 1 (m_X10_goesOver_27 x1 n) μ
      else
        some μ
set_option maxRecDepth 100000 in
set_option maxHeartbeats 8000000 in
theorem a_X10_goesOver_27 {G : ax_G} {l : Launch} {sh : List ax_E} {x1 : Int32} (hs : ∀ (k : Nat) (e : ax_E), SHF[k]? = some e → sh[k]? = some e) : ∀ (n : Nat) (x2 : Int32) (μ : ax_M) (v : ax_M), m_X10_goesOver_27 x1 n x2 μ = some v → ax_X G l RX10 cX10_goesOver 6 none false 7 (none, sh, v) 27 [(0, .ref (G.1 + 51)), (1, .int x1), (2, .int x2)] [] sh μ := by
  intro n
  induction n with
  | zero =>
    intro x2 μ v h
    rw [m_X10_goesOver_27] at h
    cases h
  | succ n ih =>
    intro x2 μ v h
    rw [m_X10_goesOver_27] at h
    refine ax_iload_n (pc := 27) (i := 2) (q := 2) (ax_dd KX10_goesOver 17 rfl) rfl rfl ?_
    refine ax_aload_n (pc := 28) (i := 0) (q := 0) (ax_dd KX10_goesOver 18 rfl) rfl rfl ?_
    refine ax_getR (pc := 29) (k := 51) (q := 61) (ax_dd KX10_goesOver 19 rfl) f_X10_41 (hs 51 _ rfl) rfl ?_
    refine ax_iload_n (pc := 32) (i := 1) (q := 1) (ax_dd KX10_goesOver 20 rfl) rfl rfl ?_
    obtain ⟨j1, b2, h⟩ := ob_bind h
    refine ax_ild (pc := 33) (k := 61) (N := 4) (j := j1) (ax_dd KX10_goesOver 21 rfl) (hs 61 _ rfl) b2 ?_
    by_cases c3 : (μ 61 j1) ≤ x2
    · rw [if_pos c3] at h
      refine ax_icmp_ge_t (pc := 34) (tgt := 217) (ax_dd KX10_goesOver 22 rfl) (by decide) c3 ?_
      obtain rfl := Option.some.inj h
      exact ax_vret (pc := 217) (ax_dd KX10_goesOver 125 rfl) rfl rfl
    · rw [if_neg c3] at h
      refine ax_icmp_ge_f (pc := 34) (tgt := 217) (ax_dd KX10_goesOver 22 rfl) (by decide) c3 ?_
      refine ax_aload_n (pc := 37) (i := 0) (q := 0) (ax_dd KX10_goesOver 23 rfl) rfl rfl ?_
      refine ax_getI (pc := 38) (k := 51) (ax_dd KX10_goesOver 24 rfl) f_X10_218 (hs 51 _ rfl) rfl ?_
      refine ax_iconst (pc := 41) (v := (-1)) (ax_dd KX10_goesOver 25 rfl) (by decide) ?_
      by_cases c4 : (μ 51 30) = (-1)
      · rw [if_pos c4] at h
        refine ax_icmp_ne_f (pc := 42) (tgt := 217) (ax_dd KX10_goesOver 26 rfl) (by decide) (fun z => z c4) ?_
        refine ax_aload_n (pc := 45) (i := 0) (q := 0) (ax_dd KX10_goesOver 27 rfl) rfl rfl ?_
        refine ax_getR (pc := 46) (k := 51) (q := 62) (ax_dd KX10_goesOver 28 rfl) f_X10_44 (hs 51 _ rfl) rfl ?_
        refine ax_bipush (pc := 49) (v := 40) (ax_dd KX10_goesOver 29 rfl) (by decide) ?_
        refine ax_iload_n (pc := 51) (i := 1) (q := 1) (ax_dd KX10_goesOver 30 rfl) rfl rfl ?_
        refine ax_imul (pc := 52) (ax_dd KX10_goesOver 31 rfl) ?_
        refine ax_iload_n (pc := 53) (i := 2) (q := 2) (ax_dd KX10_goesOver 32 rfl) rfl rfl ?_
        refine ax_iadd (pc := 54) (ax_dd KX10_goesOver 33 rfl) ?_
        obtain ⟨j5, b6, h⟩ := ob_bind h
        refine ax_ild (pc := 55) (k := 62) (N := 160) (j := j5) (ax_dd KX10_goesOver 34 rfl) (hs 62 _ rfl) b6 ?_
        refine ax_iconst (pc := 56) (v := 0) (ax_dd KX10_goesOver 35 rfl) (by decide) ?_
        refine ax_bipush (pc := 57) (v := 35) (ax_dd KX10_goesOver 36 rfl) (by decide) ?_
        obtain ⟨v7, b8, h⟩ := ob_bind h
        refine ax_kS (pc := 59) (As := [.int (μ 62 j5), .int 0, .int 35]) (rest := []) (st1 := [.int v7]) (μ1 := μ) (ax_dd KX10_goesOver 37 rfl) (c_X10_within hs b8) kS_X10_164 e_X10_within rfl rfl (by decide) (by decide) (Nat.le_of_ble_eq_true rfl) rfl ?_
        refine ax_istore_n (pc := 62) (i := 3) (lv' := [(3, .int v7), (0, .ref (G.1 + 51)), (1, .int x1), (2, .int x2)]) (ax_dd KX10_goesOver 38 rfl) rfl (by decide) rfl ?_
        refine ax_iconst (pc := 63) (v := 0) (ax_dd KX10_goesOver 39 rfl) (by decide) ?_
        refine ax_istore (pc := 64) (lv' := [(4, .int 0), (3, .int v7), (0, .ref (G.1 + 51)), (1, .int x1), (2, .int x2)]) (ax_dd KX10_goesOver 40 rfl) (by decide) rfl ?_
        refine ax_iload_n (pc := 66) (i := 2) (q := 4) (ax_dd KX10_goesOver 41 rfl) rfl rfl ?_
        by_cases c9 : x2 ≤ 0
        · rw [if_pos c9] at h
          refine ax_if_le_t (pc := 67) (tgt := 110) (ax_dd KX10_goesOver 42 rfl) (by decide) c9 ?_
          refine ax_sub (lv' := [(0, .ref (G.1 + 51)), (1, .int x1), (2, .int x2), (3, .int v7), (4, .int 0)]) [2, 3, 4, 1, 0] rfl ?_
          exact a_X10_goesOver_110 hs ih h
        · rw [if_neg c9] at h
          refine ax_if_le_f (pc := 67) (tgt := 110) (ax_dd KX10_goesOver 42 rfl) (by decide) c9 ?_
          refine ax_aload_n (pc := 70) (i := 0) (q := 2) (ax_dd KX10_goesOver 43 rfl) rfl rfl ?_
          refine ax_getR (pc := 71) (k := 51) (q := 68) (ax_dd KX10_goesOver 44 rfl) f_X10_62 (hs 51 _ rfl) rfl ?_
          refine ax_iload_n (pc := 74) (i := 3) (q := 1) (ax_dd KX10_goesOver 45 rfl) rfl rfl ?_
          obtain ⟨j10, b11, h⟩ := ob_bind h
          refine ax_ild (pc := 75) (k := 68) (N := 36) (j := j10) (ax_dd KX10_goesOver 46 rfl) (hs 68 _ rfl) b11 ?_
          refine ax_aload_n (pc := 76) (i := 0) (q := 2) (ax_dd KX10_goesOver 47 rfl) rfl rfl ?_
          refine ax_getR (pc := 77) (k := 51) (q := 68) (ax_dd KX10_goesOver 48 rfl) f_X10_62 (hs 51 _ rfl) rfl ?_
          refine ax_aload_n (pc := 80) (i := 0) (q := 2) (ax_dd KX10_goesOver 49 rfl) rfl rfl ?_
          refine ax_getR (pc := 81) (k := 51) (q := 62) (ax_dd KX10_goesOver 50 rfl) f_X10_44 (hs 51 _ rfl) rfl ?_
          refine ax_bipush (pc := 84) (v := 40) (ax_dd KX10_goesOver 51 rfl) (by decide) ?_
          refine ax_iload_n (pc := 86) (i := 1) (q := 3) (ax_dd KX10_goesOver 52 rfl) rfl rfl ?_
          refine ax_imul (pc := 87) (ax_dd KX10_goesOver 53 rfl) ?_
          refine ax_iload_n (pc := 88) (i := 2) (q := 4) (ax_dd KX10_goesOver 54 rfl) rfl rfl ?_
          refine ax_iadd (pc := 89) (ax_dd KX10_goesOver 55 rfl) ?_
          refine ax_iconst (pc := 90) (v := 1) (ax_dd KX10_goesOver 56 rfl) (by decide) ?_
          refine ax_isub (pc := 91) (ax_dd KX10_goesOver 57 rfl) ?_
          obtain ⟨j12, b13, h⟩ := ob_bind h
          refine ax_ild (pc := 92) (k := 62) (N := 160) (j := j12) (ax_dd KX10_goesOver 58 rfl) (hs 62 _ rfl) b13 ?_
          refine ax_iconst (pc := 93) (v := 0) (ax_dd KX10_goesOver 59 rfl) (by decide) ?_
          refine ax_bipush (pc := 94) (v := 35) (ax_dd KX10_goesOver 60 rfl) (by decide) ?_
          obtain ⟨v14, b15, h⟩ := ob_bind h
          refine ax_kS (pc := 96) (As := [.int (μ 62 j12), .int 0, .int 35]) (rest := [.ref (G.1 + 68), .int (μ 68 j10)]) (st1 := [.int v14, .ref (G.1 + 68), .int (μ 68 j10)]) (μ1 := μ) (ax_dd KX10_goesOver 61 rfl) (c_X10_within hs b15) kS_X10_164 e_X10_within rfl rfl (by decide) (by decide) (Nat.le_of_ble_eq_true rfl) rfl ?_
          obtain ⟨j16, b17, h⟩ := ob_bind h
          refine ax_ild (pc := 99) (k := 68) (N := 36) (j := j16) (ax_dd KX10_goesOver 62 rfl) (hs 68 _ rfl) b17 ?_
          by_cases c18 : (μ 68 j10) = (μ 68 j16)
          · rw [if_pos c18] at h
            refine ax_icmp_eq_t (pc := 100) (tgt := 107) (ax_dd KX10_goesOver 63 rfl) (by decide) c18 ?_
            refine ax_iconst (pc := 107) (v := 0) (ax_dd KX10_goesOver 66 rfl) (by decide) ?_
            refine ax_istore (pc := 108) (lv' := [(4, .int 0), (3, .int v7), (0, .ref (G.1 + 51)), (1, .int x1), (2, .int x2)]) (ax_dd KX10_goesOver 67 rfl) (by decide) rfl ?_
            refine ax_sub (lv' := [(0, .ref (G.1 + 51)), (1, .int x1), (2, .int x2), (3, .int v7), (4, .int 0)]) [2, 3, 4, 1, 0] rfl ?_
            exact a_X10_goesOver_110 hs ih h
          · rw [if_neg c18] at h
            refine ax_icmp_eq_f (pc := 100) (tgt := 107) (ax_dd KX10_goesOver 63 rfl) (by decide) c18 ?_
            refine ax_iconst (pc := 103) (v := 1) (ax_dd KX10_goesOver 64 rfl) (by decide) ?_
            refine ax_goto (pc := 104) (tgt := 108) (ax_dd KX10_goesOver 65 rfl) (by decide) ?_
            refine ax_istore (pc := 108) (lv' := [(4, .int 1), (3, .int v7), (0, .ref (G.1 + 51)), (1, .int x1), (2, .int x2)]) (ax_dd KX10_goesOver 67 rfl) (by decide) rfl ?_
            refine ax_sub (lv' := [(0, .ref (G.1 + 51)), (1, .int x1), (2, .int x2), (3, .int v7), (4, .int 1)]) [2, 3, 4, 1, 0] rfl ?_
            exact a_X10_goesOver_110 hs ih h
      · rw [if_neg c4] at h
        refine ax_icmp_ne_t (pc := 42) (tgt := 217) (ax_dd KX10_goesOver 26 rfl) (by decide) c4 ?_
        obtain rfl := Option.some.inj h
        exact ax_vret (pc := 217) (ax_dd KX10_goesOver 125 rfl) rfl rfl
def m_X10_goesOver (x1 : Int32) (μ : ax_M) : Option (ax_M) :=
  (m_X10_rulesBut (-1) μ).bind fun μ3 =>
  m_X10_goesOver_27 x1 fu 0 (ax_w (ax_w (ax_w (ax_w μ3 51 30 (-1)) 51 31 0) 51 32 0) 51 33 0)
set_option maxRecDepth 100000 in
set_option maxHeartbeats 8000000 in
theorem c_X10_goesOver {G : ax_G} {l : Launch} {sh : List ax_E} {x1 : Int32} {μ : ax_M} (hs : ∀ (k : Nat) (e : ax_E), SHF[k]? = some e → sh[k]? = some e) {v : ax_M} (h : m_X10_goesOver x1 μ = some v) : ax_A G l yX10_goesOver cX10_goesOver 6 none 7 [.ref (G.1 + 51), .int x1] sh μ (none, sh, v) := by
  refine ax_A.of false (by decide +kernel) (fun h9 => by cases h9) (Nat.le_of_ble_eq_true rfl) (?_ : ax_X G l RX10 cX10_goesOver 6 none false 7 (none, sh, v) 0 [(0, .ref (G.1 + 51)), (1, .int x1)] [] sh μ)
  unfold m_X10_goesOver at h
  refine ax_aload_n (pc := 0) (i := 0) (q := 0) (ax_dd KX10_goesOver 0 rfl) rfl rfl ?_
  refine ax_iconst (pc := 1) (v := (-1)) (ax_dd KX10_goesOver 1 rfl) (by decide) ?_
  obtain ⟨μ3, b2, h⟩ := ob_bind h
  refine ax_kV (pc := 2) (ci := 10) (k := 51) (As := [.int (-1)]) (rest := []) (st1 := []) (μ1 := μ3) (ax_dd KX10_goesOver 2 rfl) (c_X10_rulesBut hs b2) kV_X10_198 e_X10_rulesBut (hs 51 _ rfl) cl_X10 (by decide) rfl rfl (by decide) (by decide) (Nat.le_of_ble_eq_true rfl) rfl ?_
  refine ax_aload_n (pc := 5) (i := 0) (q := 0) (ax_dd KX10_goesOver 3 rfl) rfl rfl ?_
  refine ax_iconst (pc := 6) (v := (-1)) (ax_dd KX10_goesOver 4 rfl) (by decide) ?_
  refine ax_putI (pc := 7) (k := 51) (ax_dd KX10_goesOver 5 rfl) f_X10_218 ft_X10 (hs 51 _ rfl) rfl (fun _ h9 => by cases h9; rfl) rfl rfl ?_
  refine ax_aload_n (pc := 10) (i := 0) (q := 0) (ax_dd KX10_goesOver 6 rfl) rfl rfl ?_
  refine ax_iconst (pc := 11) (v := 0) (ax_dd KX10_goesOver 7 rfl) (by decide) ?_
  refine ax_putI (pc := 12) (k := 51) (ax_dd KX10_goesOver 8 rfl) f_X10_221 ft_X10 (hs 51 _ rfl) rfl (fun _ h9 => by cases h9; rfl) rfl rfl ?_
  refine ax_aload_n (pc := 15) (i := 0) (q := 0) (ax_dd KX10_goesOver 9 rfl) rfl rfl ?_
  refine ax_iconst (pc := 16) (v := 0) (ax_dd KX10_goesOver 10 rfl) (by decide) ?_
  refine ax_putI (pc := 17) (k := 51) (ax_dd KX10_goesOver 11 rfl) f_X10_224 ft_X10 (hs 51 _ rfl) rfl (fun _ h9 => by cases h9; rfl) rfl rfl ?_
  refine ax_aload_n (pc := 20) (i := 0) (q := 0) (ax_dd KX10_goesOver 12 rfl) rfl rfl ?_
  refine ax_iconst (pc := 21) (v := 0) (ax_dd KX10_goesOver 13 rfl) (by decide) ?_
  refine ax_putI (pc := 22) (k := 51) (ax_dd KX10_goesOver 14 rfl) f_X10_227 ft_X10 (hs 51 _ rfl) rfl (fun _ h9 => by cases h9; rfl) rfl rfl ?_
  refine ax_iconst (pc := 25) (v := 0) (ax_dd KX10_goesOver 15 rfl) (by decide) ?_
  refine ax_istore_n (pc := 26) (i := 2) (lv' := [(2, .int 0), (0, .ref (G.1 + 51)), (1, .int x1)]) (ax_dd KX10_goesOver 16 rfl) rfl (by decide) rfl ?_
  refine ax_sub (lv' := [(0, .ref (G.1 + 51)), (1, .int x1), (2, .int 0)]) [1, 2, 0] rfl ?_
  exact a_X10_goesOver_27 hs fu _ _ _ h
def m_X10_walk (x1 : Int32) (x2 : Int32) (μ : ax_M) : Option (Int32 × ax_M) :=
  (m_X10_walkWrong x1 μ).bind fun v1 =>
  if v1 = 0 then
    (m_X10_in x2 0 3 μ).bind fun v4 =>
    if v4 = 0 then
      some ((-7), μ)
    else
      (m_X10_goesOver x1 μ).bind fun μ9 =>
      if x2 = 0 then
        some ((μ9 51 30), μ9)
      else
        if x2 = 1 then
          some ((μ9 51 31), μ9)
        else
          if x2 = 2 then
            some ((μ9 51 32), μ9)
          else
            some ((μ9 51 33), μ9)
  else
    some (v1, μ)
set_option maxRecDepth 100000 in
set_option maxHeartbeats 8000000 in
theorem c_X10_walk {G : ax_G} {l : Launch} {sh : List ax_E} {x1 : Int32} {x2 : Int32} {μ : ax_M} (hs : ∀ (k : Nat) (e : ax_E), SHF[k]? = some e → sh[k]? = some e) {v : Int32 × ax_M} (h : m_X10_walk x1 x2 μ = some v) : ax_A G l yX10_walk cX10_walk 4 (some .int) 8 [.ref (G.1 + 51), .int x1, .int x2] sh μ (some (.int v.1), sh, v.2) := by
  refine ax_A.of false (by decide +kernel) (fun h9 => by cases h9) (Nat.le_of_ble_eq_true rfl) (?_ : ax_X G l RX10 cX10_walk 4 (some .int) false 8 (some (.int v.1), sh, v.2) 0 [(0, .ref (G.1 + 51)), (1, .int x1), (2, .int x2)] [] sh μ)
  unfold m_X10_walk at h
  refine ax_aload_n (pc := 0) (i := 0) (q := 0) (ax_dd KX10_walk 0 rfl) rfl rfl ?_
  refine ax_iload_n (pc := 1) (i := 1) (q := 1) (ax_dd KX10_walk 1 rfl) rfl rfl ?_
  obtain ⟨v1, b2, h⟩ := ob_bind h
  refine ax_kV (pc := 2) (ci := 10) (k := 51) (As := [.int x1]) (rest := []) (st1 := [.int v1]) (μ1 := μ) (ax_dd KX10_walk 2 rfl) (c_X10_walkWrong hs b2) kV_X10_230 e_X10_walkWrong (hs 51 _ rfl) cl_X10 (by decide) rfl rfl (by decide) (by decide) (Nat.le_of_ble_eq_true rfl) rfl ?_
  refine ax_istore_n (pc := 5) (i := 3) (lv' := [(3, .int v1), (0, .ref (G.1 + 51)), (1, .int x1), (2, .int x2)]) (ax_dd KX10_walk 3 rfl) rfl (by decide) rfl ?_
  refine ax_iload_n (pc := 6) (i := 3) (q := 0) (ax_dd KX10_walk 4 rfl) rfl rfl ?_
  by_cases c3 : v1 = 0
  · rw [if_pos c3] at h
    refine ax_if_eq_t (pc := 7) (tgt := 12) (ax_dd KX10_walk 5 rfl) (by decide) c3 ?_
    refine ax_iload_n (pc := 12) (i := 2) (q := 3) (ax_dd KX10_walk 8 rfl) rfl rfl ?_
    refine ax_iconst (pc := 13) (v := 0) (ax_dd KX10_walk 9 rfl) (by decide) ?_
    refine ax_iconst (pc := 14) (v := 3) (ax_dd KX10_walk 10 rfl) (by decide) ?_
    obtain ⟨v4, b5, h⟩ := ob_bind h
    refine ax_kS (pc := 15) (As := [.int x2, .int 0, .int 3]) (rest := []) (st1 := [.int v4]) (μ1 := μ) (ax_dd KX10_walk 11 rfl) (c_X10_in hs b5) kS_X10_81 e_X10_in rfl rfl (by decide) (by decide) (Nat.le_of_ble_eq_true rfl) rfl ?_
    by_cases c6 : v4 = 0
    · rw [if_pos c6] at h
      refine ax_if_ne_f (pc := 18) (tgt := 24) (ax_dd KX10_walk 12 rfl) (by decide) (fun z => z c6) ?_
      refine ax_bipush (pc := 21) (v := (-7)) (ax_dd KX10_walk 13 rfl) (by decide) ?_
      obtain rfl := Option.some.inj h
      exact ax_ireti (pc := 23) (ax_dd KX10_walk 14 rfl) ⟨_, rfl, rfl⟩ rfl
    · rw [if_neg c6] at h
      refine ax_if_ne_t (pc := 18) (tgt := 24) (ax_dd KX10_walk 12 rfl) (by decide) c6 ?_
      refine ax_aload_n (pc := 24) (i := 0) (q := 1) (ax_dd KX10_walk 15 rfl) rfl rfl ?_
      refine ax_iload_n (pc := 25) (i := 1) (q := 2) (ax_dd KX10_walk 16 rfl) rfl rfl ?_
      obtain ⟨μ9, b8, h⟩ := ob_bind h
      refine ax_kV (pc := 26) (ci := 10) (k := 51) (As := [.int x1]) (rest := []) (st1 := []) (μ1 := μ9) (ax_dd KX10_walk 17 rfl) (c_X10_goesOver hs b8) kV_X10_233 e_X10_goesOver (hs 51 _ rfl) cl_X10 (by decide) rfl rfl (by decide) (by decide) (Nat.le_of_ble_eq_true rfl) rfl ?_
      refine ax_iload_n (pc := 29) (i := 2) (q := 3) (ax_dd KX10_walk 18 rfl) rfl rfl ?_
      by_cases c10 : x2 = 0
      · rw [if_pos c10] at h
        refine ax_if_ne_f (pc := 30) (tgt := 40) (ax_dd KX10_walk 19 rfl) (by decide) (fun z => z c10) ?_
        refine ax_aload_n (pc := 33) (i := 0) (q := 1) (ax_dd KX10_walk 20 rfl) rfl rfl ?_
        refine ax_getI (pc := 34) (k := 51) (ax_dd KX10_walk 21 rfl) f_X10_218 (hs 51 _ rfl) rfl ?_
        refine ax_goto (pc := 37) (tgt := 68) (ax_dd KX10_walk 22 rfl) (by decide) ?_
        obtain rfl := Option.some.inj h
        exact ax_ireti (pc := 68) (ax_dd KX10_walk 37 rfl) ⟨_, rfl, rfl⟩ rfl
      · rw [if_neg c10] at h
        refine ax_if_ne_t (pc := 30) (tgt := 40) (ax_dd KX10_walk 19 rfl) (by decide) c10 ?_
        refine ax_iload_n (pc := 40) (i := 2) (q := 3) (ax_dd KX10_walk 23 rfl) rfl rfl ?_
        refine ax_iconst (pc := 41) (v := 1) (ax_dd KX10_walk 24 rfl) (by decide) ?_
        by_cases c11 : x2 = 1
        · rw [if_pos c11] at h
          refine ax_icmp_ne_f (pc := 42) (tgt := 52) (ax_dd KX10_walk 25 rfl) (by decide) (fun z => z c11) ?_
          refine ax_aload_n (pc := 45) (i := 0) (q := 1) (ax_dd KX10_walk 26 rfl) rfl rfl ?_
          refine ax_getI (pc := 46) (k := 51) (ax_dd KX10_walk 27 rfl) f_X10_221 (hs 51 _ rfl) rfl ?_
          refine ax_goto (pc := 49) (tgt := 68) (ax_dd KX10_walk 28 rfl) (by decide) ?_
          obtain rfl := Option.some.inj h
          exact ax_ireti (pc := 68) (ax_dd KX10_walk 37 rfl) ⟨_, rfl, rfl⟩ rfl
        · rw [if_neg c11] at h
          refine ax_icmp_ne_t (pc := 42) (tgt := 52) (ax_dd KX10_walk 25 rfl) (by decide) c11 ?_
          refine ax_iload_n (pc := 52) (i := 2) (q := 3) (ax_dd KX10_walk 29 rfl) rfl rfl ?_
          refine ax_iconst (pc := 53) (v := 2) (ax_dd KX10_walk 30 rfl) (by decide) ?_
          by_cases c12 : x2 = 2
          · rw [if_pos c12] at h
            refine ax_icmp_ne_f (pc := 54) (tgt := 64) (ax_dd KX10_walk 31 rfl) (by decide) (fun z => z c12) ?_
            refine ax_aload_n (pc := 57) (i := 0) (q := 1) (ax_dd KX10_walk 32 rfl) rfl rfl ?_
            refine ax_getI (pc := 58) (k := 51) (ax_dd KX10_walk 33 rfl) f_X10_224 (hs 51 _ rfl) rfl ?_
            refine ax_goto (pc := 61) (tgt := 68) (ax_dd KX10_walk 34 rfl) (by decide) ?_
            obtain rfl := Option.some.inj h
            exact ax_ireti (pc := 68) (ax_dd KX10_walk 37 rfl) ⟨_, rfl, rfl⟩ rfl
          · rw [if_neg c12] at h
            refine ax_icmp_ne_t (pc := 54) (tgt := 64) (ax_dd KX10_walk 31 rfl) (by decide) c12 ?_
            refine ax_aload_n (pc := 64) (i := 0) (q := 1) (ax_dd KX10_walk 35 rfl) rfl rfl ?_
            refine ax_getI (pc := 65) (k := 51) (ax_dd KX10_walk 36 rfl) f_X10_227 (hs 51 _ rfl) rfl ?_
            obtain rfl := Option.some.inj h
            exact ax_ireti (pc := 68) (ax_dd KX10_walk 37 rfl) ⟨_, rfl, rfl⟩ rfl
  · rw [if_neg c3] at h
    refine ax_if_eq_f (pc := 7) (tgt := 12) (ax_dd KX10_walk 5 rfl) (by decide) c3 ?_
    refine ax_iload_n (pc := 10) (i := 3) (q := 0) (ax_dd KX10_walk 6 rfl) rfl rfl ?_
    obtain rfl := Option.some.inj h
    exact ax_ireti (pc := 11) (ax_dd KX10_walk 7 rfl) ⟨_, rfl, rfl⟩ rfl
def m_X10_visit_30 : Nat → Int32 → ax_M → Option (Int32 × ax_M)
  | 0, _, _ => none
  | n + 1, x3, μ =>
    if (μ 51 0) ≤ x3 then
      some ((μ 51 31), μ)
    else
      if ((srI (μ 51 33) x3) &&& 1) = 1 then
        (ix 18 (((3 : Int32) * x3) + 2)).bind fun j3 =>
        (m_X10_within ((μ 54 j3) + 1) 0 99 μ).bind fun v5 =>
        (ix 18 (((3 : Int32) * x3) + 2)).bind fun j7 =>
        m_X10_visit_30 n (x3 + 1) (ax_w μ 54 j7 v5)
      else
        m_X10_visit_30 n (x3 + 1) μ
set_option maxRecDepth 100000 in
set_option maxHeartbeats 8000000 in
theorem a_X10_visit_30 {G : ax_G} {l : Launch} {sh : List ax_E} (hs : ∀ (k : Nat) (e : ax_E), SHF[k]? = some e → sh[k]? = some e) : ∀ (n : Nat) (x3 : Int32) (μ : ax_M) (v : Int32 × ax_M), m_X10_visit_30 n x3 μ = some v → ax_X G l RX10 cX10_visit 4 (some .int) false 8 (some (.int v.1), sh, v.2) 30 [(0, .ref (G.1 + 51)), (3, .int x3)] [] sh μ := by
  intro n
  induction n with
  | zero =>
    intro x3 μ v h
    rw [m_X10_visit_30] at h
    cases h
  | succ n ih =>
    intro x3 μ v h
    rw [m_X10_visit_30] at h
    refine ax_iload_n (pc := 30) (i := 3) (q := 1) (ax_dd KX10_visit 19 rfl) rfl rfl ?_
    refine ax_aload_n (pc := 31) (i := 0) (q := 0) (ax_dd KX10_visit 20 rfl) rfl rfl ?_
    refine ax_getI (pc := 32) (k := 51) (ax_dd KX10_visit 21 rfl) f_X10_78 (hs 51 _ rfl) rfl ?_
    by_cases c1 : (μ 51 0) ≤ x3
    · rw [if_pos c1] at h
      refine ax_icmp_ge_t (pc := 35) (tgt := 84) (ax_dd KX10_visit 22 rfl) (by decide) c1 ?_
      refine ax_aload_n (pc := 84) (i := 0) (q := 0) (ax_dd KX10_visit 54 rfl) rfl rfl ?_
      refine ax_getI (pc := 85) (k := 51) (ax_dd KX10_visit 55 rfl) f_X10_221 (hs 51 _ rfl) rfl ?_
      obtain rfl := Option.some.inj h
      exact ax_ireti (pc := 88) (ax_dd KX10_visit 56 rfl) ⟨_, rfl, rfl⟩ rfl
    · rw [if_neg c1] at h
      refine ax_icmp_ge_f (pc := 35) (tgt := 84) (ax_dd KX10_visit 22 rfl) (by decide) c1 ?_
      refine ax_aload_n (pc := 38) (i := 0) (q := 0) (ax_dd KX10_visit 23 rfl) rfl rfl ?_
      refine ax_getI (pc := 39) (k := 51) (ax_dd KX10_visit 24 rfl) f_X10_227 (hs 51 _ rfl) rfl ?_
      refine ax_iload_n (pc := 42) (i := 3) (q := 1) (ax_dd KX10_visit 25 rfl) rfl rfl ?_
      refine ax_ishr (pc := 43) (ax_dd KX10_visit 26 rfl) ?_
      refine ax_iconst (pc := 44) (v := 1) (ax_dd KX10_visit 27 rfl) (by decide) ?_
      refine ax_iand (pc := 45) (ax_dd KX10_visit 28 rfl) ?_
      refine ax_iconst (pc := 46) (v := 1) (ax_dd KX10_visit 29 rfl) (by decide) ?_
      by_cases c2 : ((srI (μ 51 33) x3) &&& 1) = 1
      · rw [if_pos c2] at h
        refine ax_icmp_ne_f (pc := 47) (tgt := 78) (ax_dd KX10_visit 30 rfl) (by decide) (fun z => z c2) ?_
        refine ax_aload_n (pc := 50) (i := 0) (q := 0) (ax_dd KX10_visit 31 rfl) rfl rfl ?_
        refine ax_getR (pc := 51) (k := 51) (q := 54) (ax_dd KX10_visit 32 rfl) f_X10_16 (hs 51 _ rfl) rfl ?_
        refine ax_iconst (pc := 54) (v := 3) (ax_dd KX10_visit 33 rfl) (by decide) ?_
        refine ax_iload_n (pc := 55) (i := 3) (q := 1) (ax_dd KX10_visit 34 rfl) rfl rfl ?_
        refine ax_imul (pc := 56) (ax_dd KX10_visit 35 rfl) ?_
        refine ax_iconst (pc := 57) (v := 2) (ax_dd KX10_visit 36 rfl) (by decide) ?_
        refine ax_iadd (pc := 58) (ax_dd KX10_visit 37 rfl) ?_
        refine ax_aload_n (pc := 59) (i := 0) (q := 0) (ax_dd KX10_visit 38 rfl) rfl rfl ?_
        refine ax_getR (pc := 60) (k := 51) (q := 54) (ax_dd KX10_visit 39 rfl) f_X10_16 (hs 51 _ rfl) rfl ?_
        refine ax_iconst (pc := 63) (v := 3) (ax_dd KX10_visit 40 rfl) (by decide) ?_
        refine ax_iload_n (pc := 64) (i := 3) (q := 1) (ax_dd KX10_visit 41 rfl) rfl rfl ?_
        refine ax_imul (pc := 65) (ax_dd KX10_visit 42 rfl) ?_
        refine ax_iconst (pc := 66) (v := 2) (ax_dd KX10_visit 43 rfl) (by decide) ?_
        refine ax_iadd (pc := 67) (ax_dd KX10_visit 44 rfl) ?_
        obtain ⟨j3, b4, h⟩ := ob_bind h
        refine ax_ild (pc := 68) (k := 54) (N := 18) (j := j3) (ax_dd KX10_visit 45 rfl) (hs 54 _ rfl) b4 ?_
        refine ax_iconst (pc := 69) (v := 1) (ax_dd KX10_visit 46 rfl) (by decide) ?_
        refine ax_iadd (pc := 70) (ax_dd KX10_visit 47 rfl) ?_
        refine ax_iconst (pc := 71) (v := 0) (ax_dd KX10_visit 48 rfl) (by decide) ?_
        refine ax_bipush (pc := 72) (v := 99) (ax_dd KX10_visit 49 rfl) (by decide) ?_
        obtain ⟨v5, b6, h⟩ := ob_bind h
        refine ax_kS (pc := 74) (As := [.int ((μ 54 j3) + 1), .int 0, .int 99]) (rest := [.int (((3 : Int32) * x3) + 2), .ref (G.1 + 54)]) (st1 := [.int v5, .int (((3 : Int32) * x3) + 2), .ref (G.1 + 54)]) (μ1 := μ) (ax_dd KX10_visit 50 rfl) (c_X10_within hs b6) kS_X10_164 e_X10_within rfl rfl (by decide) (by decide) (Nat.le_of_ble_eq_true rfl) rfl ?_
        obtain ⟨j7, b8, h⟩ := ob_bind h
        refine ax_ist (pc := 77) (k := 54) (N := 18) (j := j7) (ax_dd KX10_visit 51 rfl) (hs 54 _ rfl) b8 ?_
        refine ax_iinc (pc := 78) (q := 1) (v := (x3 + 1)) (lv' := [(3, .int (x3 + 1)), (0, .ref (G.1 + 51))]) (ax_dd KX10_visit 52 rfl) rfl rfl (by decide) rfl ?_
        refine ax_goto (pc := 81) (tgt := 30) (ax_dd KX10_visit 53 rfl) (by decide) ?_
        refine ax_sub (lv' := [(0, .ref (G.1 + 51)), (3, .int (x3 + 1))]) [1, 0] rfl ?_
        exact ih _ _ _ h
      · rw [if_neg c2] at h
        refine ax_icmp_ne_t (pc := 47) (tgt := 78) (ax_dd KX10_visit 30 rfl) (by decide) c2 ?_
        refine ax_iinc (pc := 78) (q := 1) (v := (x3 + 1)) (lv' := [(3, .int (x3 + 1)), (0, .ref (G.1 + 51))]) (ax_dd KX10_visit 52 rfl) rfl rfl (by decide) rfl ?_
        refine ax_goto (pc := 81) (tgt := 30) (ax_dd KX10_visit 53 rfl) (by decide) ?_
        refine ax_sub (lv' := [(0, .ref (G.1 + 51)), (3, .int (x3 + 1))]) [1, 0] rfl ?_
        exact ih _ _ _ h
