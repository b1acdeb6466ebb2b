def m_X10_isNursed (x1 : Int32) (x2 : Int32) (μ : ax_M) : Option (Int32) :=
  if x2 = 1 then
    some 1
  else
    if (μ 51 4) = 14 then
      some 1
    else
      if (μ 51 4) = 15 then
        some 1
      else
        some 0
set_option maxRecDepth 100000 in
set_option maxHeartbeats 8000000 in
theorem c_X10_isNursed {G : ax_G} {l : Launch} {sh : List ax_E} {x1 : Int32} {x2 : Int32} {μ : ax_M} (hs : ∀ (k : Nat) (e : ax_E), SHF[k]? = some e → sh[k]? = some e) {v : Int32} (h : m_X10_isNursed x1 x2 μ = some v) : ax_A G l yX10_isNursed cX10_isNursed 3 (some .boolean) 2 [.ref (G.1 + 51), .int x1, .int x2] sh μ (some (.int v), sh, μ) := by
  refine ax_A.of false (by decide +kernel) (fun h9 => by cases h9) (Nat.le_of_ble_eq_true rfl) (?_ : ax_X G l RX10 cX10_isNursed 3 (some .boolean) false 2 (some (.int v), sh, μ) 0 [(0, .ref (G.1 + 51)), (1, .int x1), (2, .int x2)] [] sh μ)
  unfold m_X10_isNursed at h
  refine ax_iload_n (pc := 0) (i := 2) (q := 2) (ax_dd KX10_isNursed 0 rfl) rfl rfl ?_
  refine ax_iconst (pc := 1) (v := 1) (ax_dd KX10_isNursed 1 rfl) (by decide) ?_
  by_cases c1 : x2 = 1
  · rw [if_pos c1] at h
    refine ax_icmp_eq_t (pc := 2) (tgt := 23) (ax_dd KX10_isNursed 2 rfl) (by decide) c1 ?_
    refine ax_iconst (pc := 23) (v := 1) (ax_dd KX10_isNursed 11 rfl) (by decide) ?_
    refine ax_goto (pc := 24) (tgt := 28) (ax_dd KX10_isNursed 12 rfl) (by decide) ?_
    obtain rfl := Option.some.inj h
    exact ax_ireti (pc := 28) (ax_dd KX10_isNursed 14 rfl) ⟨_, rfl, rfl⟩ rfl
  · rw [if_neg c1] at h
    refine ax_icmp_eq_f (pc := 2) (tgt := 23) (ax_dd KX10_isNursed 2 rfl) (by decide) c1 ?_
    refine ax_aload_n (pc := 5) (i := 0) (q := 0) (ax_dd KX10_isNursed 3 rfl) rfl rfl ?_
    refine ax_getI (pc := 6) (k := 51) (ax_dd KX10_isNursed 4 rfl) f_X10_19 (hs 51 _ rfl) rfl ?_
    refine ax_bipush (pc := 9) (v := 14) (ax_dd KX10_isNursed 5 rfl) (by decide) ?_
    by_cases c2 : (μ 51 4) = 14
    · rw [if_pos c2] at h
      refine ax_icmp_eq_t (pc := 11) (tgt := 23) (ax_dd KX10_isNursed 6 rfl) (by decide) c2 ?_
      refine ax_iconst (pc := 23) (v := 1) (ax_dd KX10_isNursed 11 rfl) (by decide) ?_
      refine ax_goto (pc := 24) (tgt := 28) (ax_dd KX10_isNursed 12 rfl) (by decide) ?_
      obtain rfl := Option.some.inj h
      exact ax_ireti (pc := 28) (ax_dd KX10_isNursed 14 rfl) ⟨_, rfl, rfl⟩ rfl
    · rw [if_neg c2] at h
      refine ax_icmp_eq_f (pc := 11) (tgt := 23) (ax_dd KX10_isNursed 6 rfl) (by decide) c2 ?_
      refine ax_aload_n (pc := 14) (i := 0) (q := 0) (ax_dd KX10_isNursed 7 rfl) rfl rfl ?_
      refine ax_getI (pc := 15) (k := 51) (ax_dd KX10_isNursed 8 rfl) f_X10_19 (hs 51 _ rfl) rfl ?_
      refine ax_bipush (pc := 18) (v := 15) (ax_dd KX10_isNursed 9 rfl) (by decide) ?_
      by_cases c3 : (μ 51 4) = 15
      · rw [if_pos c3] at h
        refine ax_icmp_ne_f (pc := 20) (tgt := 27) (ax_dd KX10_isNursed 10 rfl) (by decide) (fun z => z c3) ?_
        refine ax_iconst (pc := 23) (v := 1) (ax_dd KX10_isNursed 11 rfl) (by decide) ?_
        refine ax_goto (pc := 24) (tgt := 28) (ax_dd KX10_isNursed 12 rfl) (by decide) ?_
        obtain rfl := Option.some.inj h
        exact ax_ireti (pc := 28) (ax_dd KX10_isNursed 14 rfl) ⟨_, rfl, rfl⟩ rfl
      · rw [if_neg c3] at h
        refine ax_icmp_ne_t (pc := 20) (tgt := 27) (ax_dd KX10_isNursed 10 rfl) (by decide) c3 ?_
        refine ax_iconst (pc := 27) (v := 0) (ax_dd KX10_isNursed 13 rfl) (by decide) ?_
        obtain rfl := Option.some.inj h
        exact ax_ireti (pc := 28) (ax_dd KX10_isNursed 14 rfl) ⟨_, rfl, rfl⟩ rfl
def m_X10_isAsleep (x1 : Int32) (μ : ax_M) : Option (Int32 × ax_M) :=
  (ix 6 x1).bind fun j1 =>
  if (μ 52 j1) = 5 then
    some (0, μ)
  else
    (ix 18 ((3 : Int32) * x1)).bind fun j4 =>
    bind2 (m_X10_asksOf 2 x1 (μ 54 j4) μ) fun v6 μ8 =>
    (ix 6 x1).bind fun j9 =>
    if (μ8 52 j9) = 2 then
      (m_X10_isNursed x1 v6 μ8).bind fun v12 =>
      if v12 = 0 ∨ v12 = 1 then
        some (v12, μ8)
      else
        none
    else
      (ix 6 x1).bind fun j15 =>
      if (μ8 52 j15) = 4 then
        (m_X10_isNursed x1 v6 μ8).bind fun v18 =>
        if v18 = 0 then
          some (1, μ8)
        else
          some (0, μ8)
      else
        if v6 = 1 then
          some (1, μ8)
        else
          some (0, μ8)
set_option maxRecDepth 100000 in
set_option maxHeartbeats 8000000 in
theorem c_X10_isAsleep {G : ax_G} {l : Launch} {sh : List ax_E} {x1 : Int32} {μ : ax_M} (hs : ∀ (k : Nat) (e : ax_E), SHF[k]? = some e → sh[k]? = some e) {v : Int32 × ax_M} (h : m_X10_isAsleep x1 μ = some v) : ax_A G l yX10_isAsleep cX10_isAsleep 3 (some .boolean) 5 [.ref (G.1 + 51), .int x1] sh μ (some (.int v.1), sh, v.2) := by
  refine ax_A.of false (by decide +kernel) (fun h9 => by cases h9) (Nat.le_of_ble_eq_true rfl) (?_ : ax_X G l RX10 cX10_isAsleep 3 (some .boolean) false 5 (some (.int v.1), sh, v.2) 0 [(0, .ref (G.1 + 51)), (1, .int x1)] [] sh μ)
  unfold m_X10_isAsleep at h
  refine ax_aload_n (pc := 0) (i := 0) (q := 0) (ax_dd KX10_isAsleep 0 rfl) rfl rfl ?_
  refine ax_getR (pc := 1) (k := 51) (q := 52) (ax_dd KX10_isAsleep 1 rfl) f_X10_7 (hs 51 _ rfl) rfl ?_
  refine ax_iload_n (pc := 4) (i := 1) (q := 1) (ax_dd KX10_isAsleep 2 rfl) rfl rfl ?_
  obtain ⟨j1, b2, h⟩ := ob_bind h
  refine ax_ild (pc := 5) (k := 52) (N := 6) (j := j1) (ax_dd KX10_isAsleep 3 rfl) (hs 52 _ rfl) b2 ?_
  refine ax_iconst (pc := 6) (v := 5) (ax_dd KX10_isAsleep 4 rfl) (by decide) ?_
  by_cases c3 : (μ 52 j1) = 5
  · rw [if_pos c3] at h
    refine ax_icmp_ne_f (pc := 7) (tgt := 12) (ax_dd KX10_isAsleep 5 rfl) (by decide) (fun z => z c3) ?_
    refine ax_iconst (pc := 10) (v := 0) (ax_dd KX10_isAsleep 6 rfl) (by decide) ?_
    obtain rfl := Option.some.inj h
    exact ax_ireti (pc := 11) (ax_dd KX10_isAsleep 7 rfl) ⟨_, rfl, rfl⟩ rfl
  · rw [if_neg c3] at h
    refine ax_icmp_ne_t (pc := 7) (tgt := 12) (ax_dd KX10_isAsleep 5 rfl) (by decide) c3 ?_
    refine ax_aload_n (pc := 12) (i := 0) (q := 0) (ax_dd KX10_isAsleep 8 rfl) rfl rfl ?_
    refine ax_iconst (pc := 13) (v := 2) (ax_dd KX10_isAsleep 9 rfl) (by decide) ?_
    refine ax_iload_n (pc := 14) (i := 1) (q := 1) (ax_dd KX10_isAsleep 10 rfl) rfl rfl ?_
    refine ax_aload_n (pc := 15) (i := 0) (q := 0) (ax_dd KX10_isAsleep 11 rfl) rfl rfl ?_
    refine ax_getR (pc := 16) (k := 51) (q := 54) (ax_dd KX10_isAsleep 12 rfl) f_X10_16 (hs 51 _ rfl) rfl ?_
    refine ax_iconst (pc := 19) (v := 3) (ax_dd KX10_isAsleep 13 rfl) (by decide) ?_
    refine ax_iload_n (pc := 20) (i := 1) (q := 1) (ax_dd KX10_isAsleep 14 rfl) rfl rfl ?_
    refine ax_imul (pc := 21) (ax_dd KX10_isAsleep 15 rfl) ?_
    obtain ⟨j4, b5, h⟩ := ob_bind h
    refine ax_ild (pc := 22) (k := 54) (N := 18) (j := j4) (ax_dd KX10_isAsleep 16 rfl) (hs 54 _ rfl) b5 ?_
    obtain ⟨v6, μ8, b7, h⟩ := ob_bind2 h
    refine ax_kV (pc := 23) (ci := 10) (k := 51) (As := [.int 2, .int x1, .int (μ 54 j4)]) (rest := []) (st1 := [.int v6]) (μ1 := μ8) (ax_dd KX10_isAsleep 17 rfl) (c_X10_asksOf hs b7) kV_X10_173 e_X10_asksOf (hs 51 _ rfl) cl_X10 (by decide) rfl rfl (by decide) (by decide) (Nat.le_of_ble_eq_true rfl) rfl ?_
    refine ax_istore_n (pc := 26) (i := 2) (lv' := [(2, .int v6), (0, .ref (G.1 + 51)), (1, .int x1)]) (ax_dd KX10_isAsleep 18 rfl) rfl (by decide) rfl ?_
    refine ax_aload_n (pc := 27) (i := 0) (q := 1) (ax_dd KX10_isAsleep 19 rfl) rfl rfl ?_
    refine ax_getR (pc := 28) (k := 51) (q := 52) (ax_dd KX10_isAsleep 20 rfl) f_X10_7 (hs 51 _ rfl) rfl ?_
    refine ax_iload_n (pc := 31) (i := 1) (q := 2) (ax_dd KX10_isAsleep 21 rfl) rfl rfl ?_
    obtain ⟨j9, b10, h⟩ := ob_bind h
    refine ax_ild (pc := 32) (k := 52) (N := 6) (j := j9) (ax_dd KX10_isAsleep 22 rfl) (hs 52 _ rfl) b10 ?_
    refine ax_iconst (pc := 33) (v := 2) (ax_dd KX10_isAsleep 23 rfl) (by decide) ?_
    by_cases c11 : (μ8 52 j9) = 2
    · rw [if_pos c11] at h
      refine ax_icmp_ne_f (pc := 34) (tgt := 46) (ax_dd KX10_isAsleep 24 rfl) (by decide) (fun z => z c11) ?_
      refine ax_aload_n (pc := 37) (i := 0) (q := 1) (ax_dd KX10_isAsleep 25 rfl) rfl rfl ?_
      refine ax_iload_n (pc := 38) (i := 1) (q := 2) (ax_dd KX10_isAsleep 26 rfl) rfl rfl ?_
      refine ax_iload_n (pc := 39) (i := 2) (q := 0) (ax_dd KX10_isAsleep 27 rfl) rfl rfl ?_
      obtain ⟨v12, b13, h⟩ := ob_bind h
      refine ax_kV (pc := 40) (ci := 10) (k := 51) (As := [.int x1, .int v6]) (rest := []) (st1 := [.int v12]) (μ1 := μ8) (ax_dd KX10_isAsleep 28 rfl) (c_X10_isNursed hs b13) kV_X10_182 e_X10_isNursed (hs 51 _ rfl) cl_X10 (by decide) rfl rfl (by decide) (by decide) (Nat.le_of_ble_eq_true rfl) rfl ?_
      refine ax_goto (pc := 43) (tgt := 83) (ax_dd KX10_isAsleep 29 rfl) (by decide) ?_
      by_cases c14 : v12 = 0 ∨ v12 = 1
      · rw [if_pos c14] at h
        obtain rfl := Option.some.inj h
        exact ax_ireti (pc := 83) (ax_dd KX10_isAsleep 51 rfl) ⟨_, rfl, ax_nb c14⟩ rfl
      · rw [if_neg c14] at h
        cases h
    · rw [if_neg c11] at h
      refine ax_icmp_ne_t (pc := 34) (tgt := 46) (ax_dd KX10_isAsleep 24 rfl) (by decide) c11 ?_
      refine ax_aload_n (pc := 46) (i := 0) (q := 1) (ax_dd KX10_isAsleep 30 rfl) rfl rfl ?_
      refine ax_getR (pc := 47) (k := 51) (q := 52) (ax_dd KX10_isAsleep 31 rfl) f_X10_7 (hs 51 _ rfl) rfl ?_
      refine ax_iload_n (pc := 50) (i := 1) (q := 2) (ax_dd KX10_isAsleep 32 rfl) rfl rfl ?_
      obtain ⟨j15, b16, h⟩ := ob_bind h
      refine ax_ild (pc := 51) (k := 52) (N := 6) (j := j15) (ax_dd KX10_isAsleep 33 rfl) (hs 52 _ rfl) b16 ?_
      refine ax_iconst (pc := 52) (v := 4) (ax_dd KX10_isAsleep 34 rfl) (by decide) ?_
      by_cases c17 : (μ8 52 j15) = 4
      · rw [if_pos c17] at h
        refine ax_icmp_ne_f (pc := 53) (tgt := 73) (ax_dd KX10_isAsleep 35 rfl) (by decide) (fun z => z c17) ?_
        refine ax_aload_n (pc := 56) (i := 0) (q := 1) (ax_dd KX10_isAsleep 36 rfl) rfl rfl ?_
        refine ax_iload_n (pc := 57) (i := 1) (q := 2) (ax_dd KX10_isAsleep 37 rfl) rfl rfl ?_
        refine ax_iload_n (pc := 58) (i := 2) (q := 0) (ax_dd KX10_isAsleep 38 rfl) rfl rfl ?_
        obtain ⟨v18, b19, h⟩ := ob_bind h
        refine ax_kV (pc := 59) (ci := 10) (k := 51) (As := [.int x1, .int v6]) (rest := []) (st1 := [.int v18]) (μ1 := μ8) (ax_dd KX10_isAsleep 39 rfl) (c_X10_isNursed hs b19) kV_X10_182 e_X10_isNursed (hs 51 _ rfl) cl_X10 (by decide) rfl rfl (by decide) (by decide) (Nat.le_of_ble_eq_true rfl) rfl ?_
        by_cases c20 : v18 = 0
        · rw [if_pos c20] at h
          refine ax_if_ne_f (pc := 62) (tgt := 69) (ax_dd KX10_isAsleep 40 rfl) (by decide) (fun z => z c20) ?_
          refine ax_iconst (pc := 65) (v := 1) (ax_dd KX10_isAsleep 41 rfl) (by decide) ?_
          refine ax_goto (pc := 66) (tgt := 83) (ax_dd KX10_isAsleep 42 rfl) (by decide) ?_
          obtain rfl := Option.some.inj h
          exact ax_ireti (pc := 83) (ax_dd KX10_isAsleep 51 rfl) ⟨_, rfl, rfl⟩ rfl
        · rw [if_neg c20] at h
          refine ax_if_ne_t (pc := 62) (tgt := 69) (ax_dd KX10_isAsleep 40 rfl) (by decide) c20 ?_
          refine ax_iconst (pc := 69) (v := 0) (ax_dd KX10_isAsleep 43 rfl) (by decide) ?_
          refine ax_goto (pc := 70) (tgt := 83) (ax_dd KX10_isAsleep 44 rfl) (by decide) ?_
          obtain rfl := Option.some.inj h
          exact ax_ireti (pc := 83) (ax_dd KX10_isAsleep 51 rfl) ⟨_, rfl, rfl⟩ rfl
      · rw [if_neg c17] at h
        refine ax_icmp_ne_t (pc := 53) (tgt := 73) (ax_dd KX10_isAsleep 35 rfl) (by decide) c17 ?_
        refine ax_iload_n (pc := 73) (i := 2) (q := 0) (ax_dd KX10_isAsleep 45 rfl) rfl rfl ?_
        refine ax_iconst (pc := 74) (v := 1) (ax_dd KX10_isAsleep 46 rfl) (by decide) ?_
        by_cases c21 : v6 = 1
        · rw [if_pos c21] at h
          refine ax_icmp_ne_f (pc := 75) (tgt := 82) (ax_dd KX10_isAsleep 47 rfl) (by decide) (fun z => z c21) ?_
          refine ax_iconst (pc := 78) (v := 1) (ax_dd KX10_isAsleep 48 rfl) (by decide) ?_
          refine ax_goto (pc := 79) (tgt := 83) (ax_dd KX10_isAsleep 49 rfl) (by decide) ?_
          obtain rfl := Option.some.inj h
          exact ax_ireti (pc := 83) (ax_dd KX10_isAsleep 51 rfl) ⟨_, rfl, rfl⟩ rfl
        · rw [if_neg c21] at h
          refine ax_icmp_ne_t (pc := 75) (tgt := 82) (ax_dd KX10_isAsleep 47 rfl) (by decide) c21 ?_
          refine ax_iconst (pc := 82) (v := 0) (ax_dd KX10_isAsleep 50 rfl) (by decide) ?_
          obtain rfl := Option.some.inj h
          exact ax_ireti (pc := 83) (ax_dd KX10_isAsleep 51 rfl) ⟨_, rfl, rfl⟩ rfl
def m_X10_rulesBut_46 (x1 : Int32) (x2 : Int32) (k23 : Int32 → ax_M → Option (ax_M)) : Nat → Int32 → ax_M → Option (ax_M)
  | 0, _, _ => none
  | n + 1, x3, μ =>
    if 36 ≤ x3 then
      k23 (x2 + 1) μ
    else
      (m_X10_lies x2 x3 μ).bind fun v2 =>
      if v2 = 0 then
        (ix 36 x3).bind fun j5 =>
        (ix 36 x3).bind fun j7 =>
        m_X10_rulesBut_46 x1 x2 k23 n (x3 + 1) (ax_w μ 68 j7 (μ 68 j5))
      else
        (ix 36 x3).bind fun j9 =>
        m_X10_rulesBut_46 x1 x2 k23 n (x3 + 1) (ax_w μ 68 j9 x2)
set_option maxRecDepth 100000 in
set_option maxHeartbeats 8000000 in
theorem a_X10_rulesBut_46 {G : ax_G} {l : Launch} {sh : List ax_E} {x1 : Int32} {x2 : Int32} {k23 : Int32 → ax_M → Option (ax_M)} (hs : ∀ (k : Nat) (e : ax_E), SHF[k]? = some e → sh[k]? = some e) (hk23 : ∀ (x2 : Int32) (μ : ax_M) (v : ax_M), k23 x2 μ = some v → ax_X G l RX10 cX10_rulesBut 4 none false 6 (none, sh, v) 23 [(0, .ref (G.1 + 51)), (1, .int x1), (2, .int x2)] [] sh μ) : ∀ (n : Nat) (x3 : Int32) (μ : ax_M) (v : ax_M), m_X10_rulesBut_46 x1 x2 k23 n x3 μ = some v → ax_X G l RX10 cX10_rulesBut 4 none false 6 (none, sh, v) 46 [(0, .ref (G.1 + 51)), (1, .int x1), (2, .int x2), (3, .int x3)] [] sh μ := by
  intro n
  induction n with
  | zero =>
    intro x3 μ v h
    rw [m_X10_rulesBut_46] at h
    cases h
  | succ n ih =>
    intro x3 μ v h
    rw [m_X10_rulesBut_46] at h
    refine ax_iload_n (pc := 46) (i := 3) (q := 3) (ax_dd KX10_rulesBut 27 rfl) rfl rfl ?_
    refine ax_bipush (pc := 47) (v := 36) (ax_dd KX10_rulesBut 28 rfl) (by decide) ?_
    by_cases c1 : 36 ≤ x3
    · rw [if_pos c1] at h
      refine ax_icmp_ge_t (pc := 49) (tgt := 83) (ax_dd KX10_rulesBut 29 rfl) (by decide) c1 ?_
      refine ax_iinc (pc := 83) (q := 2) (v := (x2 + 1)) (lv' := [(2, .int (x2 + 1)), (0, .ref (G.1 + 51)), (1, .int x1), (3, .int x3)]) (ax_dd KX10_rulesBut 47 rfl) rfl rfl (by decide) rfl ?_
      refine ax_goto (pc := 86) (tgt := 23) (ax_dd KX10_rulesBut 48 rfl) (by decide) ?_
      refine ax_sub (lv' := [(0, .ref (G.1 + 51)), (1, .int x1), (2, .int (x2 + 1))]) [1, 2, 0] rfl ?_
      exact hk23 _ _ _ h
    · rw [if_neg c1] at h
      refine ax_icmp_ge_f (pc := 49) (tgt := 83) (ax_dd KX10_rulesBut 29 rfl) (by decide) c1 ?_
      refine ax_aload_n (pc := 52) (i := 0) (q := 0) (ax_dd KX10_rulesBut 30 rfl) rfl rfl ?_
      refine ax_getR (pc := 53) (k := 51) (q := 68) (ax_dd KX10_rulesBut 31 rfl) f_X10_62 (hs 51 _ rfl) rfl ?_
      refine ax_iload_n (pc := 56) (i := 3) (q := 3) (ax_dd KX10_rulesBut 32 rfl) rfl rfl ?_
      refine ax_aload_n (pc := 57) (i := 0) (q := 0) (ax_dd KX10_rulesBut 33 rfl) rfl rfl ?_
      refine ax_iload_n (pc := 58) (i := 2) (q := 2) (ax_dd KX10_rulesBut 34 rfl) rfl rfl ?_
      refine ax_iload_n (pc := 59) (i := 3) (q := 3) (ax_dd KX10_rulesBut 35 rfl) rfl rfl ?_
      obtain ⟨v2, b3, h⟩ := ob_bind h
      refine ax_kV (pc := 60) (ci := 10) (k := 51) (As := [.int x2, .int x3]) (rest := [.int x3, .ref (G.1 + 68)]) (st1 := [.int v2, .int x3, .ref (G.1 + 68)]) (μ1 := μ) (ax_dd KX10_rulesBut 36 rfl) (c_X10_lies hs b3) kV_X10_189 e_X10_lies (hs 51 _ rfl) cl_X10 (by decide) rfl rfl (by decide) (by decide) (Nat.le_of_ble_eq_true rfl) rfl ?_
      by_cases c4 : v2 = 0
      · rw [if_pos c4] at h
        refine ax_if_eq_t (pc := 63) (tgt := 70) (ax_dd KX10_rulesBut 37 rfl) (by decide) c4 ?_
        refine ax_aload_n (pc := 70) (i := 0) (q := 0) (ax_dd KX10_rulesBut 40 rfl) rfl rfl ?_
        refine ax_getR (pc := 71) (k := 51) (q := 68) (ax_dd KX10_rulesBut 41 rfl) f_X10_62 (hs 51 _ rfl) rfl ?_
        refine ax_iload_n (pc := 74) (i := 3) (q := 3) (ax_dd KX10_rulesBut 42 rfl) rfl rfl ?_
        obtain ⟨j5, b6, h⟩ := ob_bind h
        refine ax_ild (pc := 75) (k := 68) (N := 36) (j := j5) (ax_dd KX10_rulesBut 43 rfl) (hs 68 _ rfl) b6 ?_
        obtain ⟨j7, b8, h⟩ := ob_bind h
        refine ax_ist (pc := 76) (k := 68) (N := 36) (j := j7) (ax_dd KX10_rulesBut 44 rfl) (hs 68 _ rfl) b8 ?_
        refine ax_iinc (pc := 77) (q := 3) (v := (x3 + 1)) (lv' := [(3, .int (x3 + 1)), (0, .ref (G.1 + 51)), (1, .int x1), (2, .int x2)]) (ax_dd KX10_rulesBut 45 rfl) rfl rfl (by decide) rfl ?_
        refine ax_goto (pc := 80) (tgt := 46) (ax_dd KX10_rulesBut 46 rfl) (by decide) ?_
        refine ax_sub (lv' := [(0, .ref (G.1 + 51)), (1, .int x1), (2, .int x2), (3, .int (x3 + 1))]) [1, 2, 3, 0] rfl ?_
        exact ih _ _ _ h
      · rw [if_neg c4] at h
        refine ax_if_eq_f (pc := 63) (tgt := 70) (ax_dd KX10_rulesBut 37 rfl) (by decide) c4 ?_
        refine ax_iload_n (pc := 66) (i := 2) (q := 2) (ax_dd KX10_rulesBut 38 rfl) rfl rfl ?_
        refine ax_goto (pc := 67) (tgt := 76) (ax_dd KX10_rulesBut 39 rfl) (by decide) ?_
        obtain ⟨j9, b10, h⟩ := ob_bind h
        refine ax_ist (pc := 76) (k := 68) (N := 36) (j := j9) (ax_dd KX10_rulesBut 44 rfl) (hs 68 _ rfl) b10 ?_
        refine ax_iinc (pc := 77) (q := 3) (v := (x3 + 1)) (lv' := [(3, .int (x3 + 1)), (0, .ref (G.1 + 51)), (1, .int x1), (2, .int x2)]) (ax_dd KX10_rulesBut 45 rfl) rfl rfl (by decide) rfl ?_
        refine ax_goto (pc := 80) (tgt := 46) (ax_dd KX10_rulesBut 46 rfl) (by decide) ?_
        refine ax_sub (lv' := [(0, .ref (G.1 + 51)), (1, .int x1), (2, .int x2), (3, .int (x3 + 1))]) [1, 2, 3, 0] rfl ?_
        exact ih _ _ _ h
def m_X10_rulesBut_23 (x1 : Int32) : Nat → Int32 → ax_M → Option (ax_M)
  | 0, _, _ => none
  | n + 1, x2, μ =>
    if (μ 51 0) ≤ x2 then
      some μ
    else
      if x2 = x1 then
        m_X10_rulesBut_23 x1 n (x2 + 1) μ
      else
        bind2 (m_X10_isAsleep x2 μ) fun v3 μ5 =>
        if v3 = 0 then
          m_X10_rulesBut_46 x1 x2 (m_X10_rulesBut_23 x1 n) fu 0 μ5
        else
          m_X10_rulesBut_23 x1 n (x2 + 1) μ5
set_option maxRecDepth 100000 in
set_option maxHeartbeats 8000000 in
theorem a_X10_rulesBut_23 {G : ax_G} {l : Launch} {sh : List ax_E} {x1 : Int32} (hs : ∀ (k : Nat) (e : ax_E), SHF[k]? = some e → sh[k]? = some e) : ∀ (n : Nat) (x2 : Int32) (μ : ax_M) (v : ax_M), m_X10_rulesBut_23 x1 n x2 μ = some v → ax_X G l RX10 cX10_rulesBut 4 none false 6 (none, sh, v) 23 [(0, .ref (G.1 + 51)), (1, .int x1), (2, .int x2)] [] sh μ := by
  intro n
  induction n with
  | zero =>
    intro x2 μ v h
    rw [m_X10_rulesBut_23] at h
    cases h
  | succ n ih =>
    intro x2 μ v h
    rw [m_X10_rulesBut_23] at h
    refine ax_iload_n (pc := 23) (i := 2) (q := 2) (ax_dd KX10_rulesBut 14 rfl) rfl rfl ?_
    refine ax_aload_n (pc := 24) (i := 0) (q := 0) (ax_dd KX10_rulesBut 15 rfl) rfl rfl ?_
    refine ax_getI (pc := 25) (k := 51) (ax_dd KX10_rulesBut 16 rfl) f_X10_78 (hs 51 _ rfl) rfl ?_
    by_cases c1 : (μ 51 0) ≤ x2
    · rw [if_pos c1] at h
      refine ax_icmp_ge_t (pc := 28) (tgt := 89) (ax_dd KX10_rulesBut 17 rfl) (by decide) c1 ?_
      obtain rfl := Option.some.inj h
      exact ax_vret (pc := 89) (ax_dd KX10_rulesBut 49 rfl) rfl rfl
    · rw [if_neg c1] at h
      refine ax_icmp_ge_f (pc := 28) (tgt := 89) (ax_dd KX10_rulesBut 17 rfl) (by decide) c1 ?_
      refine ax_iload_n (pc := 31) (i := 2) (q := 2) (ax_dd KX10_rulesBut 18 rfl) rfl rfl ?_
      refine ax_iload_n (pc := 32) (i := 1) (q := 1) (ax_dd KX10_rulesBut 19 rfl) rfl rfl ?_
      by_cases c2 : x2 = x1
      · rw [if_pos c2] at h
        refine ax_icmp_eq_t (pc := 33) (tgt := 83) (ax_dd KX10_rulesBut 20 rfl) (by decide) c2 ?_
        refine ax_iinc (pc := 83) (q := 2) (v := (x2 + 1)) (lv' := [(2, .int (x2 + 1)), (0, .ref (G.1 + 51)), (1, .int x1)]) (ax_dd KX10_rulesBut 47 rfl) rfl rfl (by decide) rfl ?_
        refine ax_goto (pc := 86) (tgt := 23) (ax_dd KX10_rulesBut 48 rfl) (by decide) ?_
        refine ax_sub (lv' := [(0, .ref (G.1 + 51)), (1, .int x1), (2, .int (x2 + 1))]) [1, 2, 0] rfl ?_
        exact ih _ _ _ h
      · rw [if_neg c2] at h
        refine ax_icmp_eq_f (pc := 33) (tgt := 83) (ax_dd KX10_rulesBut 20 rfl) (by decide) c2 ?_
        refine ax_aload_n (pc := 36) (i := 0) (q := 0) (ax_dd KX10_rulesBut 21 rfl) rfl rfl ?_
        refine ax_iload_n (pc := 37) (i := 2) (q := 2) (ax_dd KX10_rulesBut 22 rfl) rfl rfl ?_
        obtain ⟨v3, μ5, b4, h⟩ := ob_bind2 h
        refine ax_kV (pc := 38) (ci := 10) (k := 51) (As := [.int x2]) (rest := []) (st1 := [.int v3]) (μ1 := μ5) (ax_dd KX10_rulesBut 23 rfl) (c_X10_isAsleep hs b4) kV_X10_186 e_X10_isAsleep (hs 51 _ rfl) cl_X10 (by decide) rfl rfl (by decide) (by decide) (Nat.le_of_ble_eq_true rfl) rfl ?_
        by_cases c6 : v3 = 0
        · rw [if_pos c6] at h
          refine ax_if_ne_f (pc := 41) (tgt := 83) (ax_dd KX10_rulesBut 24 rfl) (by decide) (fun z => z c6) ?_
          refine ax_iconst (pc := 44) (v := 0) (ax_dd KX10_rulesBut 25 rfl) (by decide) ?_
          refine ax_istore_n (pc := 45) (i := 3) (lv' := [(3, .int 0), (0, .ref (G.1 + 51)), (1, .int x1), (2, .int x2)]) (ax_dd KX10_rulesBut 26 rfl) rfl (by decide) rfl ?_
          refine ax_sub (lv' := [(0, .ref (G.1 + 51)), (1, .int x1), (2, .int x2), (3, .int 0)]) [1, 2, 3, 0] rfl ?_
          exact a_X10_rulesBut_46 hs ih fu _ _ _ h
        · rw [if_neg c6] at h
          refine ax_if_ne_t (pc := 41) (tgt := 83) (ax_dd KX10_rulesBut 24 rfl) (by decide) c6 ?_
          refine ax_iinc (pc := 83) (q := 2) (v := (x2 + 1)) (lv' := [(2, .int (x2 + 1)), (0, .ref (G.1 + 51)), (1, .int x1)]) (ax_dd KX10_rulesBut 47 rfl) rfl rfl (by decide) rfl ?_
          refine ax_goto (pc := 86) (tgt := 23) (ax_dd KX10_rulesBut 48 rfl) (by decide) ?_
          refine ax_sub (lv' := [(0, .ref (G.1 + 51)), (1, .int x1), (2, .int (x2 + 1))]) [1, 2, 0] rfl ?_
          exact ih _ _ _ h
def m_X10_rulesBut_2 (x1 : Int32) : Nat → Int32 → ax_M → Option (ax_M)
  | 0, _, _ => none
  | n + 1, x2, μ =>
    if 36 ≤ x2 then
      m_X10_rulesBut_23 x1 fu 0 μ
    else
      (ix 36 x2).bind fun j2 =>
      m_X10_rulesBut_2 x1 n (x2 + 1) (ax_w μ 68 j2 (-1))
set_option maxRecDepth 100000 in
set_option maxHeartbeats 8000000 in
theorem a_X10_rulesBut_2 {G : ax_G} {l : Launch} {sh : List ax_E} {x1 : Int32} (hs : ∀ (k : Nat) (e : ax_E), SHF[k]? = some e → sh[k]? = some e) : ∀ (n : Nat) (x2 : Int32) (μ : ax_M) (v : ax_M), m_X10_rulesBut_2 x1 n x2 μ = some v → ax_X G l RX10 cX10_rulesBut 4 none false 6 (none, sh, v) 2 [(0, .ref (G.1 + 51)), (1, .int x1), (2, .int x2)] [] sh μ := by
  intro n
  induction n with
  | zero =>
    intro x2 μ v h
    rw [m_X10_rulesBut_2] at h
    cases h
  | succ n ih =>
    intro x2 μ v h
    rw [m_X10_rulesBut_2] at h
    refine ax_iload_n (pc := 2) (i := 2) (q := 2) (ax_dd KX10_rulesBut 2 rfl) rfl rfl ?_
    refine ax_bipush (pc := 3) (v := 36) (ax_dd KX10_rulesBut 3 rfl) (by decide) ?_
    by_cases c1 : 36 ≤ x2
    · rw [if_pos c1] at h
      refine ax_icmp_ge_t (pc := 5) (tgt := 21) (ax_dd KX10_rulesBut 4 rfl) (by decide) c1 ?_
      refine ax_iconst (pc := 21) (v := 0) (ax_dd KX10_rulesBut 12 rfl) (by decide) ?_
      refine ax_istore_n (pc := 22) (i := 2) (lv' := [(2, .int 0), (0, .ref (G.1 + 51)), (1, .int x1)]) (ax_dd KX10_rulesBut 13 rfl) rfl (by decide) rfl ?_
      refine ax_sub (lv' := [(0, .ref (G.1 + 51)), (1, .int x1), (2, .int 0)]) [1, 2, 0] rfl ?_
      exact a_X10_rulesBut_23 hs fu _ _ _ h
    · rw [if_neg c1] at h
      refine ax_icmp_ge_f (pc := 5) (tgt := 21) (ax_dd KX10_rulesBut 4 rfl) (by decide) c1 ?_
      refine ax_aload_n (pc := 8) (i := 0) (q := 0) (ax_dd KX10_rulesBut 5 rfl) rfl rfl ?_
      refine ax_getR (pc := 9) (k := 51) (q := 68) (ax_dd KX10_rulesBut 6 rfl) f_X10_62 (hs 51 _ rfl) rfl ?_
      refine ax_iload_n (pc := 12) (i := 2) (q := 2) (ax_dd KX10_rulesBut 7 rfl) rfl rfl ?_
      refine ax_iconst (pc := 13) (v := (-1)) (ax_dd KX10_rulesBut 8 rfl) (by decide) ?_
      obtain ⟨j2, b3, h⟩ := ob_bind h
      refine ax_ist (pc := 14) (k := 68) (N := 36) (j := j2) (ax_dd KX10_rulesBut 9 rfl) (hs 68 _ rfl) b3 ?_
      refine ax_iinc (pc := 15) (q := 2) (v := (x2 + 1)) (lv' := [(2, .int (x2 + 1)), (0, .ref (G.1 + 51)), (1, .int x1)]) (ax_dd KX10_rulesBut 10 rfl) rfl rfl (by decide) rfl ?_
      refine ax_goto (pc := 18) (tgt := 2) (ax_dd KX10_rulesBut 11 rfl) (by decide) ?_
      refine ax_sub (lv' := [(0, .ref (G.1 + 51)), (1, .int x1), (2, .int (x2 + 1))]) [1, 2, 0] rfl ?_
      exact ih _ _ _ h
def m_X10_rulesBut (x1 : Int32) (μ : ax_M) : Option (ax_M) :=
  m_X10_rulesBut_2 x1 fu 0 μ
set_option maxRecDepth 100000 in
set_option maxHeartbeats 8000000 in
theorem c_X10_rulesBut {G : ax_G} {l : Launch} {sh : List ax_E} {x1 : Int32} {μ : ax_M} (hs : ∀ (k : Nat) (e : ax_E), SHF[k]? = some e → sh[k]? = some e) {v : ax_M} (h : m_X10_rulesBut x1 μ = some v) : ax_A G l yX10_rulesBut cX10_rulesBut 4 none 6 [.ref (G.1 + 51), .int x1] sh μ (none, sh, v) := by
  refine ax_A.of false (by decide +kernel) (fun h9 => by cases h9) (Nat.le_of_ble_eq_true rfl) (?_ : ax_X G l RX10 cX10_rulesBut 4 none false 6 (none, sh, v) 0 [(0, .ref (G.1 + 51)), (1, .int x1)] [] sh μ)
  unfold m_X10_rulesBut at h
  refine ax_iconst (pc := 0) (v := 0) (ax_dd KX10_rulesBut 0 rfl) (by decide) ?_
  refine ax_istore_n (pc := 1) (i := 2) (lv' := [(2, .int 0), (0, .ref (G.1 + 51)), (1, .int x1)]) (ax_dd KX10_rulesBut 1 rfl) rfl (by decide) rfl ?_
  refine ax_sub (lv' := [(0, .ref (G.1 + 51)), (1, .int x1), (2, .int 0)]) [1, 2, 0] rfl ?_
  exact a_X10_rulesBut_2 hs fu _ _ _ h
def m_X10_finedBy_52 (x1 : Int32) (x3 : Int32) (x4 : Int32) (s0 : Int32) (μ : ax_M) : Option (Int32 × ax_M) :=
  (ix 6 x1).bind fun j1 =>
  if (μ 52 j1) = 1 then
    some (s0, μ)
  else
    if (μ 52 j1) = 2 then
      some (x3, μ)
    else
      if (μ 52 j1) = 3 then
        some (((2 : Int32) * s0), μ)
      else
        if (μ 52 j1) = 4 then
          if x4 = 0 then
            some ((x3 / 2), μ)
          else
            some (0, μ)
        else
          some (x3, μ)
set_option maxRecDepth 100000 in
set_option maxHeartbeats 8000000 in
theorem a_X10_finedBy_52 {G : ax_G} {l : Launch} {sh : List ax_E} {x1 : Int32} {x3 : Int32} {x4 : Int32} {s0 : Int32} {μ : ax_M} (hs : ∀ (k : Nat) (e : ax_E), SHF[k]? = some e → sh[k]? = some e) {v : Int32 × ax_M} (h : m_X10_finedBy_52 x1 x3 x4 s0 μ = some v) : ax_X G l RX10 cX10_finedBy 6 (some .int) false 5 (some (.int v.1), sh, v.2) 52 [(0, .ref (G.1 + 51)), (1, .int x1), (3, .int x3), (4, .int x4)] [.int s0] sh μ := by
  unfold m_X10_finedBy_52 at h
  refine ax_istore (pc := 52) (lv' := [(5, .int s0), (0, .ref (G.1 + 51)), (1, .int x1), (3, .int x3), (4, .int x4)]) (ax_dd KX10_finedBy 34 rfl) (by decide) rfl ?_
  refine ax_aload_n (pc := 54) (i := 0) (q := 1) (ax_dd KX10_finedBy 35 rfl) rfl rfl ?_
  refine ax_getR (pc := 55) (k := 51) (q := 52) (ax_dd KX10_finedBy 36 rfl) f_X10_7 (hs 51 _ rfl) rfl ?_
  refine ax_iload_n (pc := 58) (i := 1) (q := 2) (ax_dd KX10_finedBy 37 rfl) rfl rfl ?_
  obtain ⟨j1, b2, h⟩ := ob_bind h
  refine ax_ild (pc := 59) (k := 52) (N := 6) (j := j1) (ax_dd KX10_finedBy 38 rfl) (hs 52 _ rfl) b2 ?_
  by_cases c3 : (μ 52 j1) = 1
  · rw [if_pos c3] at h
    refine ax_tab (pc := 60) (off := 32) (tgt := 92) (ax_dd KX10_finedBy 39 rfl) (by rw [c3]; decide) (by rw [c3]; decide) (by rw [c3]; rfl) (by decide) ?_
    refine ax_iload (pc := 92) (q := 0) (ax_dd KX10_finedBy 40 rfl) rfl ?_
    obtain rfl := Option.some.inj h
    exact ax_ireti (pc := 94) (ax_dd KX10_finedBy 41 rfl) ⟨_, rfl, rfl⟩ rfl
  · rw [if_neg c3] at h
    by_cases c4 : (μ 52 j1) = 2
    · rw [if_pos c4] at h
      refine ax_tab (pc := 60) (off := 53) (tgt := 113) (ax_dd KX10_finedBy 39 rfl) (by rw [c4]; decide) (by rw [c4]; decide) (by rw [c4]; rfl) (by decide) ?_
      refine ax_iload_n (pc := 113) (i := 3) (q := 3) (ax_dd KX10_finedBy 54 rfl) rfl rfl ?_
      obtain rfl := Option.some.inj h
      exact ax_ireti (pc := 114) (ax_dd KX10_finedBy 55 rfl) ⟨_, rfl, rfl⟩ rfl
    · rw [if_neg c4] at h
      by_cases c5 : (μ 52 j1) = 3
      · rw [if_pos c5] at h
        refine ax_tab (pc := 60) (off := 35) (tgt := 95) (ax_dd KX10_finedBy 39 rfl) (by rw [c5]; decide) (by rw [c5]; decide) (by rw [c5]; rfl) (by decide) ?_
        refine ax_iconst (pc := 95) (v := 2) (ax_dd KX10_finedBy 42 rfl) (by decide) ?_
        refine ax_iload (pc := 96) (q := 0) (ax_dd KX10_finedBy 43 rfl) rfl ?_
        refine ax_imul (pc := 98) (ax_dd KX10_finedBy 44 rfl) ?_
        obtain rfl := Option.some.inj h
        exact ax_ireti (pc := 99) (ax_dd KX10_finedBy 45 rfl) ⟨_, rfl, rfl⟩ rfl
      · rw [if_neg c5] at h
        by_cases c6 : (μ 52 j1) = 4
        · rw [if_pos c6] at h
          refine ax_tab (pc := 60) (off := 40) (tgt := 100) (ax_dd KX10_finedBy 39 rfl) (by rw [c6]; decide) (by rw [c6]; decide) (by rw [c6]; rfl) (by decide) ?_
          refine ax_iload (pc := 100) (q := 4) (ax_dd KX10_finedBy 46 rfl) rfl ?_
          by_cases c7 : x4 = 0
          · rw [if_pos c7] at h
            refine ax_if_eq_t (pc := 102) (tgt := 109) (ax_dd KX10_finedBy 47 rfl) (by decide) c7 ?_
            refine ax_iload_n (pc := 109) (i := 3) (q := 3) (ax_dd KX10_finedBy 50 rfl) rfl rfl ?_
            refine ax_iconst (pc := 110) (v := 2) (ax_dd KX10_finedBy 51 rfl) (by decide) ?_
            refine ax_idiv (pc := 111) (ax_dd KX10_finedBy 52 rfl) (by decide) ?_
            obtain rfl := Option.some.inj h
            exact ax_ireti (pc := 112) (ax_dd KX10_finedBy 53 rfl) ⟨_, rfl, rfl⟩ rfl
          · rw [if_neg c7] at h
            refine ax_if_eq_f (pc := 102) (tgt := 109) (ax_dd KX10_finedBy 47 rfl) (by decide) c7 ?_
            refine ax_iconst (pc := 105) (v := 0) (ax_dd KX10_finedBy 48 rfl) (by decide) ?_
            refine ax_goto (pc := 106) (tgt := 112) (ax_dd KX10_finedBy 49 rfl) (by decide) ?_
            obtain rfl := Option.some.inj h
            exact ax_ireti (pc := 112) (ax_dd KX10_finedBy 53 rfl) ⟨_, rfl, rfl⟩ rfl
        · rw [if_neg c6] at h
          refine ax_tabD (pc := 60) (tgt := 113) (ax_dd KX10_finedBy 39 rfl) (by have e0 := ax_ne c3 (a := 1) rfl; have e1 := ax_ne c4 (a := 2) rfl; have e2 := ax_ne c5 (a := 3) rfl; have e3 := ax_ne c6 (a := 4) rfl; omega) (by decide) ?_
          refine ax_iload_n (pc := 113) (i := 3) (q := 3) (ax_dd KX10_finedBy 54 rfl) rfl rfl ?_
          obtain rfl := Option.some.inj h
          exact ax_ireti (pc := 114) (ax_dd KX10_finedBy 55 rfl) ⟨_, rfl, rfl⟩ rfl
def m_X10_finedBy (x1 : Int32) (x2 : Int32) (μ : ax_M) : Option (Int32 × ax_M) :=
  (ix 6 x1).bind fun j1 =>
  if (μ 52 j1) = 5 then
    (ix 6 x1).bind fun j4 =>
    some ((μ 53 j4), μ)
  else
    bind2 (m_X10_asksOf 0 x1 x2 μ) fun v6 μ8 =>
    (m_X10_isFringe x1 x2 μ8).bind fun v9 =>
    if v9 = 0 then
      m_X10_finedBy_52 x1 v6 v9 v6 μ8
    else
      (ix 6 x1).bind fun j12 =>
      m_X10_finedBy_52 x1 v6 v9 (v6 + ((2 : Int32) * (μ8 53 j12))) μ8
set_option maxRecDepth 100000 in
set_option maxHeartbeats 8000000 in
theorem c_X10_finedBy {G : ax_G} {l : Launch} {sh : List ax_E} {x1 : Int32} {x2 : Int32} {μ : ax_M} (hs : ∀ (k : Nat) (e : ax_E), SHF[k]? = some e → sh[k]? = some e) {v : Int32 × ax_M} (h : m_X10_finedBy x1 x2 μ = some v) : ax_A G l yX10_finedBy cX10_finedBy 6 (some .int) 5 [.ref (G.1 + 51), .int x1, .int x2] sh μ (some (.int v.1), sh, v.2) := by
  refine ax_A.of false (by decide +kernel) (fun h9 => by cases h9) (Nat.le_of_ble_eq_true rfl) (?_ : ax_X G l RX10 cX10_finedBy 6 (some .int) false 5 (some (.int v.1), sh, v.2) 0 [(0, .ref (G.1 + 51)), (1, .int x1), (2, .int x2)] [] sh μ)
  unfold m_X10_finedBy at h
  refine ax_aload_n (pc := 0) (i := 0) (q := 0) (ax_dd KX10_finedBy 0 rfl) rfl rfl ?_
  refine ax_getR (pc := 1) (k := 51) (q := 52) (ax_dd KX10_finedBy 1 rfl) f_X10_7 (hs 51 _ rfl) rfl ?_
  refine ax_iload_n (pc := 4) (i := 1) (q := 1) (ax_dd KX10_finedBy 2 rfl) rfl rfl ?_
  obtain ⟨j1, b2, h⟩ := ob_bind h
  refine ax_ild (pc := 5) (k := 52) (N := 6) (j := j1) (ax_dd KX10_finedBy 3 rfl) (hs 52 _ rfl) b2 ?_
  refine ax_iconst (pc := 6) (v := 5) (ax_dd KX10_finedBy 4 rfl) (by decide) ?_
  by_cases c3 : (μ 52 j1) = 5
  · rw [if_pos c3] at h
    refine ax_icmp_ne_f (pc := 7) (tgt := 17) (ax_dd KX10_finedBy 5 rfl) (by decide) (fun z => z c3) ?_
    refine ax_aload_n (pc := 10) (i := 0) (q := 0) (ax_dd KX10_finedBy 6 rfl) rfl rfl ?_
    refine ax_getR (pc := 11) (k := 51) (q := 53) (ax_dd KX10_finedBy 7 rfl) f_X10_13 (hs 51 _ rfl) rfl ?_
    refine ax_iload_n (pc := 14) (i := 1) (q := 1) (ax_dd KX10_finedBy 8 rfl) rfl rfl ?_
    obtain ⟨j4, b5, h⟩ := ob_bind h
    refine ax_ild (pc := 15) (k := 53) (N := 6) (j := j4) (ax_dd KX10_finedBy 9 rfl) (hs 53 _ rfl) b5 ?_
    obtain rfl := Option.some.inj h
    exact ax_ireti (pc := 16) (ax_dd KX10_finedBy 10 rfl) ⟨_, rfl, rfl⟩ rfl
  · rw [if_neg c3] at h
    refine ax_icmp_ne_t (pc := 7) (tgt := 17) (ax_dd KX10_finedBy 5 rfl) (by decide) c3 ?_
    refine ax_aload_n (pc := 17) (i := 0) (q := 0) (ax_dd KX10_finedBy 11 rfl) rfl rfl ?_
    refine ax_iconst (pc := 18) (v := 0) (ax_dd KX10_finedBy 12 rfl) (by decide) ?_
    refine ax_iload_n (pc := 19) (i := 1) (q := 1) (ax_dd KX10_finedBy 13 rfl) rfl rfl ?_
    refine ax_iload_n (pc := 20) (i := 2) (q := 2) (ax_dd KX10_finedBy 14 rfl) rfl rfl ?_
    obtain ⟨v6, μ8, b7, h⟩ := ob_bind2 h
    refine ax_kV (pc := 21) (ci := 10) (k := 51) (As := [.int 0, .int x1, .int x2]) (rest := []) (st1 := [.int v6]) (μ1 := μ8) (ax_dd KX10_finedBy 15 rfl) (c_X10_asksOf hs b7) kV_X10_173 e_X10_asksOf (hs 51 _ rfl) cl_X10 (by decide) rfl rfl (by decide) (by decide) (Nat.le_of_ble_eq_true rfl) rfl ?_
    refine ax_istore_n (pc := 24) (i := 3) (lv' := [(3, .int v6), (0, .ref (G.1 + 51)), (1, .int x1), (2, .int x2)]) (ax_dd KX10_finedBy 16 rfl) rfl (by decide) rfl ?_
    refine ax_aload_n (pc := 25) (i := 0) (q := 1) (ax_dd KX10_finedBy 17 rfl) rfl rfl ?_
    refine ax_iload_n (pc := 26) (i := 1) (q := 2) (ax_dd KX10_finedBy 18 rfl) rfl rfl ?_
    refine ax_iload_n (pc := 27) (i := 2) (q := 3) (ax_dd KX10_finedBy 19 rfl) rfl rfl ?_
    obtain ⟨v9, b10, h⟩ := ob_bind h
    refine ax_kV (pc := 28) (ci := 10) (k := 51) (As := [.int x1, .int x2]) (rest := []) (st1 := [.int v9]) (μ1 := μ8) (ax_dd KX10_finedBy 20 rfl) (c_X10_isFringe hs b10) kV_X10_192 e_X10_isFringe (hs 51 _ rfl) cl_X10 (by decide) rfl rfl (by decide) (by decide) (Nat.le_of_ble_eq_true rfl) rfl ?_
    refine ax_istore (pc := 31) (lv' := [(4, .int v9), (3, .int v6), (0, .ref (G.1 + 51)), (1, .int x1), (2, .int x2)]) (ax_dd KX10_finedBy 21 rfl) (by decide) rfl ?_
    refine ax_iload (pc := 33) (q := 0) (ax_dd KX10_finedBy 22 rfl) rfl ?_
    by_cases c11 : v9 = 0
    · rw [if_pos c11] at h
      refine ax_if_eq_t (pc := 35) (tgt := 51) (ax_dd KX10_finedBy 23 rfl) (by decide) c11 ?_
      refine ax_iload_n (pc := 51) (i := 3) (q := 1) (ax_dd KX10_finedBy 33 rfl) rfl rfl ?_
      refine ax_sub (lv' := [(0, .ref (G.1 + 51)), (1, .int x1), (3, .int v6), (4, .int v9)]) [2, 3, 1, 0] rfl ?_
      exact a_X10_finedBy_52 hs h
    · rw [if_neg c11] at h
      refine ax_if_eq_f (pc := 35) (tgt := 51) (ax_dd KX10_finedBy 23 rfl) (by decide) c11 ?_
      refine ax_iload_n (pc := 38) (i := 3) (q := 1) (ax_dd KX10_finedBy 24 rfl) rfl rfl ?_
      refine ax_iconst (pc := 39) (v := 2) (ax_dd KX10_finedBy 25 rfl) (by decide) ?_
      refine ax_aload_n (pc := 40) (i := 0) (q := 2) (ax_dd KX10_finedBy 26 rfl) rfl rfl ?_
      refine ax_getR (pc := 41) (k := 51) (q := 53) (ax_dd KX10_finedBy 27 rfl) f_X10_13 (hs 51 _ rfl) rfl ?_
      refine ax_iload_n (pc := 44) (i := 1) (q := 3) (ax_dd KX10_finedBy 28 rfl) rfl rfl ?_
      obtain ⟨j12, b13, h⟩ := ob_bind h
      refine ax_ild (pc := 45) (k := 53) (N := 6) (j := j12) (ax_dd KX10_finedBy 29 rfl) (hs 53 _ rfl) b13 ?_
      refine ax_imul (pc := 46) (ax_dd KX10_finedBy 30 rfl) ?_
      refine ax_iadd (pc := 47) (ax_dd KX10_finedBy 31 rfl) ?_
      refine ax_goto (pc := 48) (tgt := 52) (ax_dd KX10_finedBy 32 rfl) (by decide) ?_
      refine ax_sub (lv' := [(0, .ref (G.1 + 51)), (1, .int x1), (3, .int v6), (4, .int v9)]) [2, 3, 1, 0] rfl ?_
      exact a_X10_finedBy_52 hs h
def m_X10_finedAt (x1 : Int32) (μ : ax_M) : Option (Int32 × ax_M) :=
  (ix 36 x1).bind fun j1 =>
  if (μ 68 j1) = (-1) then
    some (0, μ)
  else
    bind2 (m_X10_finedBy (μ 68 j1) x1 μ) fun v4 μ6 =>
    some (v4, μ6)
set_option maxRecDepth 100000 in
set_option maxHeartbeats 8000000 in
theorem c_X10_finedAt {G : ax_G} {l : Launch} {sh : List ax_E} {x1 : Int32} {μ : ax_M} (hs : ∀ (k : Nat) (e : ax_E), SHF[k]? = some e → sh[k]? = some e) {v : Int32 × ax_M} (h : m_X10_finedAt x1 μ = some v) : ax_A G l yX10_finedAt cX10_finedAt 3 (some .int) 6 [.ref (G.1 + 51), .int x1] sh μ (some (.int v.1), sh, v.2) := by
  refine ax_A.of false (by decide +kernel) (fun h9 => by cases h9) (Nat.le_of_ble_eq_true rfl) (?_ : ax_X G l RX10 cX10_finedAt 3 (some .int) false 6 (some (.int v.1), sh, v.2) 0 [(0, .ref (G.1 + 51)), (1, .int x1)] [] sh μ)
  unfold m_X10_finedAt at h
  refine ax_aload_n (pc := 0) (i := 0) (q := 0) (ax_dd KX10_finedAt 0 rfl) rfl rfl ?_
  refine ax_getR (pc := 1) (k := 51) (q := 68) (ax_dd KX10_finedAt 1 rfl) f_X10_62 (hs 51 _ rfl) rfl ?_
  refine ax_iload_n (pc := 4) (i := 1) (q := 1) (ax_dd KX10_finedAt 2 rfl) rfl rfl ?_
  obtain ⟨j1, b2, h⟩ := ob_bind h
  refine ax_ild (pc := 5) (k := 68) (N := 36) (j := j1) (ax_dd KX10_finedAt 3 rfl) (hs 68 _ rfl) b2 ?_
  refine ax_istore_n (pc := 6) (i := 2) (lv' := [(2, .int (μ 68 j1)), (0, .ref (G.1 + 51)), (1, .int x1)]) (ax_dd KX10_finedAt 4 rfl) rfl (by decide) rfl ?_
  refine ax_iload_n (pc := 7) (i := 2) (q := 0) (ax_dd KX10_finedAt 5 rfl) rfl rfl ?_
  refine ax_iconst (pc := 8) (v := (-1)) (ax_dd KX10_finedAt 6 rfl) (by decide) ?_
  by_cases c3 : (μ 68 j1) = (-1)
  · rw [if_pos c3] at h
    refine ax_icmp_ne_f (pc := 9) (tgt := 16) (ax_dd KX10_finedAt 7 rfl) (by decide) (fun z => z c3) ?_
    refine ax_iconst (pc := 12) (v := 0) (ax_dd KX10_finedAt 8 rfl) (by decide) ?_
    refine ax_goto (pc := 13) (tgt := 22) (ax_dd KX10_finedAt 9 rfl) (by decide) ?_
    obtain rfl := Option.some.inj h
    exact ax_ireti (pc := 22) (ax_dd KX10_finedAt 14 rfl) ⟨_, rfl, rfl⟩ rfl
  · rw [if_neg c3] at h
    refine ax_icmp_ne_t (pc := 9) (tgt := 16) (ax_dd KX10_finedAt 7 rfl) (by decide) c3 ?_
    refine ax_aload_n (pc := 16) (i := 0) (q := 1) (ax_dd KX10_finedAt 10 rfl) rfl rfl ?_
    refine ax_iload_n (pc := 17) (i := 2) (q := 0) (ax_dd KX10_finedAt 11 rfl) rfl rfl ?_
    refine ax_iload_n (pc := 18) (i := 1) (q := 2) (ax_dd KX10_finedAt 12 rfl) rfl rfl ?_
    obtain ⟨v4, μ6, b5, h⟩ := ob_bind2 h
    refine ax_kV (pc := 19) (ci := 10) (k := 51) (As := [.int (μ 68 j1), .int x1]) (rest := []) (st1 := [.int v4]) (μ1 := μ6) (ax_dd KX10_finedAt 13 rfl) (c_X10_finedBy hs b5) kV_X10_195 e_X10_finedBy (hs 51 _ rfl) cl_X10 (by decide) rfl rfl (by decide) (by decide) (Nat.le_of_ble_eq_true rfl) rfl ?_
    obtain rfl := Option.some.inj h
    exact ax_ireti (pc := 22) (ax_dd KX10_finedAt 14 rfl) ⟨_, rfl, rfl⟩ rfl
def m_X10_isLetOn_71 (x2 : Int32) (x3 : Int32) (s0 : Int32) (μ : ax_M) : Option (Int32 × ax_M) :=
  if s0 = 0 then
    if x3 = 0 ∨ x3 = 1 then
      some (x3, μ)
    else
      none
  else
    if x3 = 0 then
      some (0, μ)
    else
      (ix 18 (((3 : Int32) * x2) + 2)).bind fun j4 =>
      (ix 6 x2).bind fun j6 =>
      if (μ 53 j6) ≤ (μ 54 j4) then
        some (0, μ)
      else
        some (1, μ)
set_option maxRecDepth 100000 in
set_option maxHeartbeats 8000000 in
theorem a_X10_isLetOn_71 {G : ax_G} {l : Launch} {sh : List ax_E} {x2 : Int32} {x3 : Int32} {s0 : Int32} {μ : ax_M} (hs : ∀ (k : Nat) (e : ax_E), SHF[k]? = some e → sh[k]? = some e) {v : Int32 × ax_M} (h : m_X10_isLetOn_71 x2 x3 s0 μ = some v) : ax_X G l RX10 cX10_isLetOn 5 (some .boolean) false 5 (some (.int v.1), sh, v.2) 71 [(0, .ref (G.1 + 51)), (2, .int x2), (3, .int x3)] [.int s0] sh μ := by
  unfold m_X10_isLetOn_71 at h
  refine ax_istore (pc := 71) (lv' := [(4, .int s0), (0, .ref (G.1 + 51)), (2, .int x2), (3, .int x3)]) (ax_dd KX10_isLetOn 45 rfl) (by decide) rfl ?_
  refine ax_iload (pc := 73) (q := 0) (ax_dd KX10_isLetOn 46 rfl) rfl ?_
  by_cases c1 : s0 = 0
  · rw [if_pos c1] at h
    refine ax_if_eq_t (pc := 75) (tgt := 109) (ax_dd KX10_isLetOn 47 rfl) (by decide) c1 ?_
    refine ax_iload_n (pc := 109) (i := 3) (q := 3) (ax_dd KX10_isLetOn 67 rfl) rfl rfl ?_
    by_cases c2 : x3 = 0 ∨ x3 = 1
    · rw [if_pos c2] at h
      obtain rfl := Option.some.inj h
      exact ax_ireti (pc := 110) (ax_dd KX10_isLetOn 68 rfl) ⟨_, rfl, ax_nb c2⟩ rfl
    · rw [if_neg c2] at h
      cases h
  · rw [if_neg c1] at h
    refine ax_if_eq_f (pc := 75) (tgt := 109) (ax_dd KX10_isLetOn 47 rfl) (by decide) c1 ?_
    refine ax_iload_n (pc := 78) (i := 3) (q := 3) (ax_dd KX10_isLetOn 48 rfl) rfl rfl ?_
    by_cases c3 : x3 = 0
    · rw [if_pos c3] at h
      refine ax_if_eq_t (pc := 79) (tgt := 105) (ax_dd KX10_isLetOn 49 rfl) (by decide) c3 ?_
      refine ax_iconst (pc := 105) (v := 0) (ax_dd KX10_isLetOn 65 rfl) (by decide) ?_
      refine ax_goto (pc := 106) (tgt := 110) (ax_dd KX10_isLetOn 66 rfl) (by decide) ?_
      obtain rfl := Option.some.inj h
      exact ax_ireti (pc := 110) (ax_dd KX10_isLetOn 68 rfl) ⟨_, rfl, rfl⟩ rfl
    · rw [if_neg c3] at h
      refine ax_if_eq_f (pc := 79) (tgt := 105) (ax_dd KX10_isLetOn 49 rfl) (by decide) c3 ?_
      refine ax_aload_n (pc := 82) (i := 0) (q := 1) (ax_dd KX10_isLetOn 50 rfl) rfl rfl ?_
      refine ax_getR (pc := 83) (k := 51) (q := 54) (ax_dd KX10_isLetOn 51 rfl) f_X10_16 (hs 51 _ rfl) rfl ?_
      refine ax_iconst (pc := 86) (v := 3) (ax_dd KX10_isLetOn 52 rfl) (by decide) ?_
      refine ax_iload_n (pc := 87) (i := 2) (q := 2) (ax_dd KX10_isLetOn 53 rfl) rfl rfl ?_
      refine ax_imul (pc := 88) (ax_dd KX10_isLetOn 54 rfl) ?_
      refine ax_iconst (pc := 89) (v := 2) (ax_dd KX10_isLetOn 55 rfl) (by decide) ?_
      refine ax_iadd (pc := 90) (ax_dd KX10_isLetOn 56 rfl) ?_
      obtain ⟨j4, b5, h⟩ := ob_bind h
      refine ax_ild (pc := 91) (k := 54) (N := 18) (j := j4) (ax_dd KX10_isLetOn 57 rfl) (hs 54 _ rfl) b5 ?_
      refine ax_aload_n (pc := 92) (i := 0) (q := 1) (ax_dd KX10_isLetOn 58 rfl) rfl rfl ?_
      refine ax_getR (pc := 93) (k := 51) (q := 53) (ax_dd KX10_isLetOn 59 rfl) f_X10_13 (hs 51 _ rfl) rfl ?_
      refine ax_iload_n (pc := 96) (i := 2) (q := 2) (ax_dd KX10_isLetOn 60 rfl) rfl rfl ?_
      obtain ⟨j6, b7, h⟩ := ob_bind h
      refine ax_ild (pc := 97) (k := 53) (N := 6) (j := j6) (ax_dd KX10_isLetOn 61 rfl) (hs 53 _ rfl) b7 ?_
      by_cases c8 : (μ 53 j6) ≤ (μ 54 j4)
      · rw [if_pos c8] at h
        refine ax_icmp_ge_t (pc := 98) (tgt := 105) (ax_dd KX10_isLetOn 62 rfl) (by decide) c8 ?_
        refine ax_iconst (pc := 105) (v := 0) (ax_dd KX10_isLetOn 65 rfl) (by decide) ?_
        refine ax_goto (pc := 106) (tgt := 110) (ax_dd KX10_isLetOn 66 rfl) (by decide) ?_
        obtain rfl := Option.some.inj h
        exact ax_ireti (pc := 110) (ax_dd KX10_isLetOn 68 rfl) ⟨_, rfl, rfl⟩ rfl
      · rw [if_neg c8] at h
        refine ax_icmp_ge_f (pc := 98) (tgt := 105) (ax_dd KX10_isLetOn 62 rfl) (by decide) c8 ?_
        refine ax_iconst (pc := 101) (v := 1) (ax_dd KX10_isLetOn 63 rfl) (by decide) ?_
        refine ax_goto (pc := 102) (tgt := 110) (ax_dd KX10_isLetOn 64 rfl) (by decide) ?_
        obtain rfl := Option.some.inj h
        exact ax_ireti (pc := 110) (ax_dd KX10_isLetOn 68 rfl) ⟨_, rfl, rfl⟩ rfl
def m_X10_isLetOn_45 (x2 : Int32) (s0 : Int32) (μ : ax_M) : Option (Int32 × ax_M) :=
  (ix 6 x2).bind fun j1 =>
  if (μ 52 j1) = 2 then
    m_X10_isLetOn_71 x2 s0 1 μ
  else
    (ix 6 x2).bind fun j4 =>
    if (μ 52 j4) = 4 then
      m_X10_isLetOn_71 x2 s0 1 μ
    else
      m_X10_isLetOn_71 x2 s0 0 μ
set_option maxRecDepth 100000 in
set_option maxHeartbeats 8000000 in
theorem a_X10_isLetOn_45 {G : ax_G} {l : Launch} {sh : List ax_E} {x2 : Int32} {s0 : Int32} {μ : ax_M} (hs : ∀ (k : Nat) (e : ax_E), SHF[k]? = some e → sh[k]? = some e) {v : Int32 × ax_M} (h : m_X10_isLetOn_45 x2 s0 μ = some v) : ax_X G l RX10 cX10_isLetOn 5 (some .boolean) false 5 (some (.int v.1), sh, v.2) 45 [(0, .ref (G.1 + 51)), (2, .int x2)] [.int s0] sh μ := by
  unfold m_X10_isLetOn_45 at h
  refine ax_istore_n (pc := 45) (i := 3) (lv' := [(3, .int s0), (0, .ref (G.1 + 51)), (2, .int x2)]) (ax_dd KX10_isLetOn 29 rfl) rfl (by decide) rfl ?_
  refine ax_aload_n (pc := 46) (i := 0) (q := 1) (ax_dd KX10_isLetOn 30 rfl) rfl rfl ?_
  refine ax_getR (pc := 47) (k := 51) (q := 52) (ax_dd KX10_isLetOn 31 rfl) f_X10_7 (hs 51 _ rfl) rfl ?_
  refine ax_iload_n (pc := 50) (i := 2) (q := 2) (ax_dd KX10_isLetOn 32 rfl) rfl rfl ?_
  obtain ⟨j1, b2, h⟩ := ob_bind h
  refine ax_ild (pc := 51) (k := 52) (N := 6) (j := j1) (ax_dd KX10_isLetOn 33 rfl) (hs 52 _ rfl) b2 ?_
  refine ax_iconst (pc := 52) (v := 2) (ax_dd KX10_isLetOn 34 rfl) (by decide) ?_
  by_cases c3 : (μ 52 j1) = 2
  · rw [if_pos c3] at h
    refine ax_icmp_eq_t (pc := 53) (tgt := 66) (ax_dd KX10_isLetOn 35 rfl) (by decide) c3 ?_
    refine ax_iconst (pc := 66) (v := 1) (ax_dd KX10_isLetOn 42 rfl) (by decide) ?_
    refine ax_goto (pc := 67) (tgt := 71) (ax_dd KX10_isLetOn 43 rfl) (by decide) ?_
    refine ax_sub (lv' := [(0, .ref (G.1 + 51)), (2, .int x2), (3, .int s0)]) [1, 2, 0] rfl ?_
    exact a_X10_isLetOn_71 hs h
  · rw [if_neg c3] at h
    refine ax_icmp_eq_f (pc := 53) (tgt := 66) (ax_dd KX10_isLetOn 35 rfl) (by decide) c3 ?_
    refine ax_aload_n (pc := 56) (i := 0) (q := 1) (ax_dd KX10_isLetOn 36 rfl) rfl rfl ?_
    refine ax_getR (pc := 57) (k := 51) (q := 52) (ax_dd KX10_isLetOn 37 rfl) f_X10_7 (hs 51 _ rfl) rfl ?_
    refine ax_iload_n (pc := 60) (i := 2) (q := 2) (ax_dd KX10_isLetOn 38 rfl) rfl rfl ?_
    obtain ⟨j4, b5, h⟩ := ob_bind h
    refine ax_ild (pc := 61) (k := 52) (N := 6) (j := j4) (ax_dd KX10_isLetOn 39 rfl) (hs 52 _ rfl) b5 ?_
    refine ax_iconst (pc := 62) (v := 4) (ax_dd KX10_isLetOn 40 rfl) (by decide) ?_
    by_cases c6 : (μ 52 j4) = 4
    · rw [if_pos c6] at h
      refine ax_icmp_ne_f (pc := 63) (tgt := 70) (ax_dd KX10_isLetOn 41 rfl) (by decide) (fun z => z c6) ?_
      refine ax_iconst (pc := 66) (v := 1) (ax_dd KX10_isLetOn 42 rfl) (by decide) ?_
      refine ax_goto (pc := 67) (tgt := 71) (ax_dd KX10_isLetOn 43 rfl) (by decide) ?_
      refine ax_sub (lv' := [(0, .ref (G.1 + 51)), (2, .int x2), (3, .int s0)]) [1, 2, 0] rfl ?_
      exact a_X10_isLetOn_71 hs h
    · rw [if_neg c6] at h
      refine ax_icmp_ne_t (pc := 63) (tgt := 70) (ax_dd KX10_isLetOn 41 rfl) (by decide) c6 ?_
      refine ax_iconst (pc := 70) (v := 0) (ax_dd KX10_isLetOn 44 rfl) (by decide) ?_
      refine ax_sub (lv' := [(0, .ref (G.1 + 51)), (2, .int x2), (3, .int s0)]) [1, 2, 0] rfl ?_
      exact a_X10_isLetOn_71 hs h
def m_X10_isLetOn (x1 : Int32) (μ : ax_M) : Option (Int32 × ax_M) :=
  (ix 36 x1).bind fun j1 =>
  if (μ 68 j1) = (-1) then
    some (1, μ)
  else
    (m_X10_within (μ 68 j1) 0 5 μ).bind fun v4 =>
    (ix 6 v4).bind fun j6 =>
    if (μ 52 j6) = 3 then
      some (1, μ)
    else
      bind2 (m_X10_asksOf 1 (μ 68 j1) x1 μ) fun v9 μ11 =>
      if v9 = 1 then
        m_X10_isLetOn_45 (μ 68 j1) 1 μ11
      else
        m_X10_isLetOn_45 (μ 68 j1) 0 μ11
set_option maxRecDepth 100000 in
set_option maxHeartbeats 8000000 in
theorem c_X10_isLetOn {G : ax_G} {l : Launch} {sh : List ax_E} {x1 : Int32} {μ : ax_M} (hs : ∀ (k : Nat) (e : ax_E), SHF[k]? = some e → sh[k]? = some e) {v : Int32 × ax_M} (h : m_X10_isLetOn x1 μ = some v) : ax_A G l yX10_isLetOn cX10_isLetOn 5 (some .boolean) 5 [.ref (G.1 + 51), .int x1] sh μ (some (.int v.1), sh, v.2) := by
  refine ax_A.of false (by decide +kernel) (fun h9 => by cases h9) (Nat.le_of_ble_eq_true rfl) (?_ : ax_X G l RX10 cX10_isLetOn 5 (some .boolean) false 5 (some (.int v.1), sh, v.2) 0 [(0, .ref (G.1 + 51)), (1, .int x1)] [] sh μ)
  unfold m_X10_isLetOn at h
  refine ax_aload_n (pc := 0) (i := 0) (q := 0) (ax_dd KX10_isLetOn 0 rfl) rfl rfl ?_
  refine ax_getR (pc := 1) (k := 51) (q := 68) (ax_dd KX10_isLetOn 1 rfl) f_X10_62 (hs 51 _ rfl) rfl ?_
  refine ax_iload_n (pc := 4) (i := 1) (q := 1) (ax_dd KX10_isLetOn 2 rfl) rfl rfl ?_
  obtain ⟨j1, b2, h⟩ := ob_bind h
  refine ax_ild (pc := 5) (k := 68) (N := 36) (j := j1) (ax_dd KX10_isLetOn 3 rfl) (hs 68 _ rfl) b2 ?_
  refine ax_istore_n (pc := 6) (i := 2) (lv' := [(2, .int (μ 68 j1)), (0, .ref (G.1 + 51)), (1, .int x1)]) (ax_dd KX10_isLetOn 4 rfl) rfl (by decide) rfl ?_
  refine ax_iload_n (pc := 7) (i := 2) (q := 0) (ax_dd KX10_isLetOn 5 rfl) rfl rfl ?_
  refine ax_iconst (pc := 8) (v := (-1)) (ax_dd KX10_isLetOn 6 rfl) (by decide) ?_
  by_cases c3 : (μ 68 j1) = (-1)
  · rw [if_pos c3] at h
    refine ax_icmp_eq_t (pc := 9) (tgt := 27) (ax_dd KX10_isLetOn 7 rfl) (by decide) c3 ?_
    refine ax_iconst (pc := 27) (v := 1) (ax_dd KX10_isLetOn 17 rfl) (by decide) ?_
    obtain rfl := Option.some.inj h
    exact ax_ireti (pc := 28) (ax_dd KX10_isLetOn 18 rfl) ⟨_, rfl, rfl⟩ rfl
  · rw [if_neg c3] at h
    refine ax_icmp_eq_f (pc := 9) (tgt := 27) (ax_dd KX10_isLetOn 7 rfl) (by decide) c3 ?_
    refine ax_aload_n (pc := 12) (i := 0) (q := 1) (ax_dd KX10_isLetOn 8 rfl) rfl rfl ?_
    refine ax_getR (pc := 13) (k := 51) (q := 52) (ax_dd KX10_isLetOn 9 rfl) f_X10_7 (hs 51 _ rfl) rfl ?_
    refine ax_iload_n (pc := 16) (i := 2) (q := 0) (ax_dd KX10_isLetOn 10 rfl) rfl rfl ?_
    refine ax_iconst (pc := 17) (v := 0) (ax_dd KX10_isLetOn 11 rfl) (by decide) ?_
    refine ax_iconst (pc := 18) (v := 5) (ax_dd KX10_isLetOn 12 rfl) (by decide) ?_
    obtain ⟨v4, b5, h⟩ := ob_bind h
    refine ax_kS (pc := 19) (As := [.int (μ 68 j1), .int 0, .int 5]) (rest := [.ref (G.1 + 52)]) (st1 := [.int v4, .ref (G.1 + 52)]) (μ1 := μ) (ax_dd KX10_isLetOn 13 rfl) (c_X10_within hs b5) kS_X10_164 e_X10_within rfl rfl (by decide) (by decide) (Nat.le_of_ble_eq_true rfl) rfl ?_
    obtain ⟨j6, b7, h⟩ := ob_bind h
    refine ax_ild (pc := 22) (k := 52) (N := 6) (j := j6) (ax_dd KX10_isLetOn 14 rfl) (hs 52 _ rfl) b7 ?_
    refine ax_iconst (pc := 23) (v := 3) (ax_dd KX10_isLetOn 15 rfl) (by decide) ?_
    by_cases c8 : (μ 52 j6) = 3
    · rw [if_pos c8] at h
      refine ax_icmp_ne_f (pc := 24) (tgt := 29) (ax_dd KX10_isLetOn 16 rfl) (by decide) (fun z => z c8) ?_
      refine ax_iconst (pc := 27) (v := 1) (ax_dd KX10_isLetOn 17 rfl) (by decide) ?_
      obtain rfl := Option.some.inj h
      exact ax_ireti (pc := 28) (ax_dd KX10_isLetOn 18 rfl) ⟨_, rfl, rfl⟩ rfl
    · rw [if_neg c8] at h
      refine ax_icmp_ne_t (pc := 24) (tgt := 29) (ax_dd KX10_isLetOn 16 rfl) (by decide) c8 ?_
      refine ax_aload_n (pc := 29) (i := 0) (q := 1) (ax_dd KX10_isLetOn 19 rfl) rfl rfl ?_
      refine ax_iconst (pc := 30) (v := 1) (ax_dd KX10_isLetOn 20 rfl) (by decide) ?_
      refine ax_iload_n (pc := 31) (i := 2) (q := 0) (ax_dd KX10_isLetOn 21 rfl) rfl rfl ?_
      refine ax_iload_n (pc := 32) (i := 1) (q := 2) (ax_dd KX10_isLetOn 22 rfl) rfl rfl ?_
      obtain ⟨v9, μ11, b10, h⟩ := ob_bind2 h
      refine ax_kV (pc := 33) (ci := 10) (k := 51) (As := [.int 1, .int (μ 68 j1), .int x1]) (rest := []) (st1 := [.int v9]) (μ1 := μ11) (ax_dd KX10_isLetOn 23 rfl) (c_X10_asksOf hs b10) kV_X10_173 e_X10_asksOf (hs 51 _ rfl) cl_X10 (by decide) rfl rfl (by decide) (by decide) (Nat.le_of_ble_eq_true rfl) rfl ?_
      refine ax_iconst (pc := 36) (v := 1) (ax_dd KX10_isLetOn 24 rfl) (by decide) ?_
      by_cases c12 : v9 = 1
      · rw [if_pos c12] at h
        refine ax_icmp_ne_f (pc := 37) (tgt := 44) (ax_dd KX10_isLetOn 25 rfl) (by decide) (fun z => z c12) ?_
        refine ax_iconst (pc := 40) (v := 1) (ax_dd KX10_isLetOn 26 rfl) (by decide) ?_
        refine ax_goto (pc := 41) (tgt := 45) (ax_dd KX10_isLetOn 27 rfl) (by decide) ?_
        refine ax_sub (lv' := [(0, .ref (G.1 + 51)), (2, .int (μ 68 j1))]) [1, 0] rfl ?_
        exact a_X10_isLetOn_45 hs h
      · rw [if_neg c12] at h
        refine ax_icmp_ne_t (pc := 37) (tgt := 44) (ax_dd KX10_isLetOn 25 rfl) (by decide) c12 ?_
        refine ax_iconst (pc := 44) (v := 0) (ax_dd KX10_isLetOn 28 rfl) (by decide) ?_
        refine ax_sub (lv' := [(0, .ref (G.1 + 51)), (2, .int (μ 68 j1))]) [1, 0] rfl ?_
        exact a_X10_isLetOn_45 hs h
def m_X10_ruledBy_4 (x1 : Int32) (μ : ax_M) : Nat → Int32 → Int32 → Option (Int32)
  | 0, _, _ => none
  | n + 1, x2, x3 =>
    if 36 ≤ x3 then
      some x2
    else
      (ix 36 x3).bind fun j2 =>
      if (μ 68 j2) = x1 then
        m_X10_ruledBy_4 x1 μ n (x2 + 1) (x3 + 1)
      else
        m_X10_ruledBy_4 x1 μ n (x2 + 0) (x3 + 1)
set_option maxRecDepth 100000 in
set_option maxHeartbeats 8000000 in
theorem a_X10_ruledBy_4 {G : ax_G} {l : Launch} {sh : List ax_E} {x1 : Int32} {μ : ax_M} (hs : ∀ (k : Nat) (e : ax_E), SHF[k]? = some e → sh[k]? = some e) : ∀ (n : Nat) (x2 : Int32) (x3 : Int32) (v : Int32), m_X10_ruledBy_4 x1 μ n x2 x3 = some v → ax_X G l RX10 cX10_ruledBy 4 (some .int) false 2 (some (.int v), sh, μ) 4 [(0, .ref (G.1 + 51)), (1, .int x1), (2, .int x2), (3, .int x3)] [] sh μ := by
  intro n
  induction n with
  | zero =>
    intro x2 x3 v h
    rw [m_X10_ruledBy_4] at h
    cases h
  | succ n ih =>
    intro x2 x3 v h
    rw [m_X10_ruledBy_4] at h
    refine ax_iload_n (pc := 4) (i := 3) (q := 3) (ax_dd KX10_ruledBy 4 rfl) rfl rfl ?_
    refine ax_bipush (pc := 5) (v := 36) (ax_dd KX10_ruledBy 5 rfl) (by decide) ?_
    by_cases c1 : 36 ≤ x3
    · rw [if_pos c1] at h
      refine ax_icmp_ge_t (pc := 7) (tgt := 34) (ax_dd KX10_ruledBy 6 rfl) (by decide) c1 ?_
      refine ax_iload_n (pc := 34) (i := 2) (q := 2) (ax_dd KX10_ruledBy 21 rfl) rfl rfl ?_
      obtain rfl := Option.some.inj h
      exact ax_ireti (pc := 35) (ax_dd KX10_ruledBy 22 rfl) ⟨_, rfl, rfl⟩ rfl
    · rw [if_neg c1] at h
      refine ax_icmp_ge_f (pc := 7) (tgt := 34) (ax_dd KX10_ruledBy 6 rfl) (by decide) c1 ?_
      refine ax_iload_n (pc := 10) (i := 2) (q := 2) (ax_dd KX10_ruledBy 7 rfl) rfl rfl ?_
      refine ax_aload_n (pc := 11) (i := 0) (q := 0) (ax_dd KX10_ruledBy 8 rfl) rfl rfl ?_
      refine ax_getR (pc := 12) (k := 51) (q := 68) (ax_dd KX10_ruledBy 9 rfl) f_X10_62 (hs 51 _ rfl) rfl ?_
      refine ax_iload_n (pc := 15) (i := 3) (q := 3) (ax_dd KX10_ruledBy 10 rfl) rfl rfl ?_
      obtain ⟨j2, b3, h⟩ := ob_bind h
      refine ax_ild (pc := 16) (k := 68) (N := 36) (j := j2) (ax_dd KX10_ruledBy 11 rfl) (hs 68 _ rfl) b3 ?_
      refine ax_iload_n (pc := 17) (i := 1) (q := 1) (ax_dd KX10_ruledBy 12 rfl) rfl rfl ?_
      by_cases c4 : (μ 68 j2) = x1
      · rw [if_pos c4] at h
        refine ax_icmp_ne_f (pc := 18) (tgt := 25) (ax_dd KX10_ruledBy 13 rfl) (by decide) (fun z => z c4) ?_
        refine ax_iconst (pc := 21) (v := 1) (ax_dd KX10_ruledBy 14 rfl) (by decide) ?_
        refine ax_goto (pc := 22) (tgt := 26) (ax_dd KX10_ruledBy 15 rfl) (by decide) ?_
        refine ax_iadd (pc := 26) (ax_dd KX10_ruledBy 17 rfl) ?_
        refine ax_istore_n (pc := 27) (i := 2) (lv' := [(2, .int (x2 + 1)), (0, .ref (G.1 + 51)), (1, .int x1), (3, .int x3)]) (ax_dd KX10_ruledBy 18 rfl) rfl (by decide) rfl ?_
        refine ax_iinc (pc := 28) (q := 3) (v := (x3 + 1)) (lv' := [(3, .int (x3 + 1)), (2, .int (x2 + 1)), (0, .ref (G.1 + 51)), (1, .int x1)]) (ax_dd KX10_ruledBy 19 rfl) rfl rfl (by decide) rfl ?_
        refine ax_goto (pc := 31) (tgt := 4) (ax_dd KX10_ruledBy 20 rfl) (by decide) ?_
        refine ax_sub (lv' := [(0, .ref (G.1 + 51)), (1, .int x1), (2, .int (x2 + 1)), (3, .int (x3 + 1))]) [2, 3, 1, 0] rfl ?_
        exact ih _ _ _ h
      · rw [if_neg c4] at h
        refine ax_icmp_ne_t (pc := 18) (tgt := 25) (ax_dd KX10_ruledBy 13 rfl) (by decide) c4 ?_
        refine ax_iconst (pc := 25) (v := 0) (ax_dd KX10_ruledBy 16 rfl) (by decide) ?_
        refine ax_iadd (pc := 26) (ax_dd KX10_ruledBy 17 rfl) ?_
        refine ax_istore_n (pc := 27) (i := 2) (lv' := [(2, .int (x2 + 0)), (0, .ref (G.1 + 51)), (1, .int x1), (3, .int x3)]) (ax_dd KX10_ruledBy 18 rfl) rfl (by decide) rfl ?_
        refine ax_iinc (pc := 28) (q := 3) (v := (x3 + 1)) (lv' := [(3, .int (x3 + 1)), (2, .int (x2 + 0)), (0, .ref (G.1 + 51)), (1, .int x1)]) (ax_dd KX10_ruledBy 19 rfl) rfl rfl (by decide) rfl ?_
        refine ax_goto (pc := 31) (tgt := 4) (ax_dd KX10_ruledBy 20 rfl) (by decide) ?_
        refine ax_sub (lv' := [(0, .ref (G.1 + 51)), (1, .int x1), (2, .int (x2 + 0)), (3, .int (x3 + 1))]) [2, 3, 1, 0] rfl ?_
        exact ih _ _ _ h
def m_X10_ruledBy (x1 : Int32) (μ : ax_M) : Option (Int32) :=
  m_X10_ruledBy_4 x1 μ fu 0 0
set_option maxRecDepth 100000 in
set_option maxHeartbeats 8000000 in
theorem c_X10_ruledBy {G : ax_G} {l : Launch} {sh : List ax_E} {x1 : Int32} {μ : ax_M} (hs : ∀ (k : Nat) (e : ax_E), SHF[k]? = some e → sh[k]? = some e) {v : Int32} (h : m_X10_ruledBy x1 μ = some v) : ax_A G l yX10_ruledBy cX10_ruledBy 4 (some .int) 2 [.ref (G.1 + 51), .int x1] sh μ (some (.int v), sh, μ) := by
  refine ax_A.of false (by decide +kernel) (fun h9 => by cases h9) (Nat.le_of_ble_eq_true rfl) (?_ : ax_X G l RX10 cX10_ruledBy 4 (some .int) false 2 (some (.int v), sh, μ) 0 [(0, .ref (G.1 + 51)), (1, .int x1)] [] sh μ)
  unfold m_X10_ruledBy at h
  refine ax_iconst (pc := 0) (v := 0) (ax_dd KX10_ruledBy 0 rfl) (by decide) ?_
  refine ax_istore_n (pc := 1) (i := 2) (lv' := [(2, .int 0), (0, .ref (G.1 + 51)), (1, .int x1)]) (ax_dd KX10_ruledBy 1 rfl) rfl (by decide) rfl ?_
  refine ax_iconst (pc := 2) (v := 0) (ax_dd KX10_ruledBy 2 rfl) (by decide) ?_
  refine ax_istore_n (pc := 3) (i := 3) (lv' := [(3, .int 0), (2, .int 0), (0, .ref (G.1 + 51)), (1, .int x1)]) (ax_dd KX10_ruledBy 3 rfl) rfl (by decide) rfl ?_
  refine ax_sub (lv' := [(0, .ref (G.1 + 51)), (1, .int x1), (2, .int 0), (3, .int 0)]) [2, 3, 1, 0] rfl ?_
  exact a_X10_ruledBy_4 hs fu _ _ _ h
def m_X10_ruledNow (x1 : Int32) (μ : ax_M) : Option (Int32 × ax_M) :=
  (m_X10_rulesBut (-1) μ).bind fun μ3 =>
  (m_X10_ruledBy x1 μ3).bind fun v4 =>
  some (v4, μ3)
set_option maxRecDepth 100000 in
set_option maxHeartbeats 8000000 in
theorem c_X10_ruledNow {G : ax_G} {l : Launch} {sh : List ax_E} {x1 : Int32} {μ : ax_M} (hs : ∀ (k : Nat) (e : ax_E), SHF[k]? = some e → sh[k]? = some e) {v : Int32 × ax_M} (h : m_X10_ruledNow x1 μ = some v) : ax_A G l yX10_ruledNow cX10_ruledNow 2 (some .int) 7 [.ref (G.1 + 51), .int x1] sh μ (some (.int v.1), sh, v.2) := by
  refine ax_A.of false (by decide +kernel) (fun h9 => by cases h9) (Nat.le_of_ble_eq_true rfl) (?_ : ax_X G l RX10 cX10_ruledNow 2 (some .int) false 7 (some (.int v.1), sh, v.2) 0 [(0, .ref (G.1 + 51)), (1, .int x1)] [] sh μ)
  unfold m_X10_ruledNow at h
  refine ax_aload_n (pc := 0) (i := 0) (q := 0) (ax_dd KX10_ruledNow 0 rfl) rfl rfl ?_
  refine ax_iconst (pc := 1) (v := (-1)) (ax_dd KX10_ruledNow 1 rfl) (by decide) ?_
  obtain ⟨μ3, b2, h⟩ := ob_bind h
  refine ax_kV (pc := 2) (ci := 10) (k := 51) (As := [.int (-1)]) (rest := []) (st1 := []) (μ1 := μ3) (ax_dd KX10_ruledNow 2 rfl) (c_X10_rulesBut hs b2) kV_X10_198 e_X10_rulesBut (hs 51 _ rfl) cl_X10 (by decide) rfl rfl (by decide) (by decide) (Nat.le_of_ble_eq_true rfl) rfl ?_
  refine ax_aload_n (pc := 5) (i := 0) (q := 0) (ax_dd KX10_ruledNow 3 rfl) rfl rfl ?_
  refine ax_iload_n (pc := 6) (i := 1) (q := 1) (ax_dd KX10_ruledNow 4 rfl) rfl rfl ?_
  obtain ⟨v4, b5, h⟩ := ob_bind h
  refine ax_kV (pc := 7) (ci := 10) (k := 51) (As := [.int x1]) (rest := []) (st1 := [.int v4]) (μ1 := μ3) (ax_dd KX10_ruledNow 5 rfl) (c_X10_ruledBy hs b5) kV_X10_201 e_X10_ruledBy (hs 51 _ rfl) cl_X10 (by decide) rfl rfl (by decide) (by decide) (Nat.le_of_ble_eq_true rfl) rfl ?_
  obtain rfl := Option.some.inj h
  exact ax_ireti (pc := 10) (ax_dd KX10_ruledNow 6 rfl) ⟨_, rfl, rfl⟩ rfl
def m_X10_told (x1 : Int32) (x2 : Int32) (μ : ax_M) : Option (Int32 × ax_M) :=
  (m_X10_isRug x1 μ).bind fun v1 =>
  if v1 = 0 then
    some ((-5), μ)
  else
    if x2 = 0 then
      (m_X10_cornersOf x1 μ).bind fun v5 =>
      some (v5, μ)
    else
      if x2 = 1 then
        (ix 18 (((3 : Int32) * x1) + 2)).bind fun j8 =>
        some ((μ 54 j8), μ)
      else
        if x2 = 2 then
          (ix 6 x1).bind fun j11 =>
          some ((μ 52 j11), μ)
        else
          if x2 = 3 then
            (ix 6 x1).bind fun j14 =>
            some ((μ 53 j14), μ)
          else
            if x2 = 4 then
              (m_X10_sizeOf x1 μ).bind fun v17 =>
              some (v17, μ)
            else
              if x2 = 5 then
                bind2 (m_X10_ruledNow x1 μ) fun v20 μ22 =>
                some (v20, μ22)
              else
                if x2 = 6 then
                  bind2 (m_X10_isAsleep x1 μ) fun v24 μ26 =>
                  if v24 = 0 then
                    some (0, μ26)
                  else
                    some (1, μ26)
                else
                  some ((-7), μ)
set_option maxRecDepth 100000 in
set_option maxHeartbeats 8000000 in
theorem c_X10_told {G : ax_G} {l : Launch} {sh : List ax_E} {x1 : Int32} {x2 : Int32} {μ : ax_M} (hs : ∀ (k : Nat) (e : ax_E), SHF[k]? = some e → sh[k]? = some e) {v : Int32 × ax_M} (h : m_X10_told x1 x2 μ = some v) : ax_A G l yX10_told cX10_told 3 (some .int) 8 [.ref (G.1 + 51), .int x1, .int x2] sh μ (some (.int v.1), sh, v.2) := by
  refine ax_A.of false (by decide +kernel) (fun h9 => by cases h9) (Nat.le_of_ble_eq_true rfl) (?_ : ax_X G l RX10 cX10_told 3 (some .int) false 8 (some (.int v.1), sh, v.2) 0 [(0, .ref (G.1 + 51)), (1, .int x1), (2, .int x2)] [] sh μ)
  unfold m_X10_told at h
  refine ax_aload_n (pc := 0) (i := 0) (q := 0) (ax_dd KX10_told 0 rfl) rfl rfl ?_
  refine ax_iload_n (pc := 1) (i := 1) (q := 1) (ax_dd KX10_told 1 rfl) rfl rfl ?_
  obtain ⟨v1, b2, h⟩ := ob_bind h
  refine ax_kV (pc := 2) (ci := 10) (k := 51) (As := [.int x1]) (rest := []) (st1 := [.int v1]) (μ1 := μ) (ax_dd KX10_told 2 rfl) (c_X10_isRug hs b2) kV_X10_167 e_X10_isRug (hs 51 _ rfl) cl_X10 (by decide) rfl rfl (by decide) (by decide) (Nat.le_of_ble_eq_true rfl) rfl ?_
  by_cases c3 : v1 = 0
  · rw [if_pos c3] at h
    refine ax_if_ne_f (pc := 5) (tgt := 11) (ax_dd KX10_told 3 rfl) (by decide) (fun z => z c3) ?_
    refine ax_bipush (pc := 8) (v := (-5)) (ax_dd KX10_told 4 rfl) (by decide) ?_
    obtain rfl := Option.some.inj h
    exact ax_ireti (pc := 10) (ax_dd KX10_told 5 rfl) ⟨_, rfl, rfl⟩ rfl
  · rw [if_neg c3] at h
    refine ax_if_ne_t (pc := 5) (tgt := 11) (ax_dd KX10_told 3 rfl) (by decide) c3 ?_
    refine ax_iload_n (pc := 11) (i := 2) (q := 2) (ax_dd KX10_told 6 rfl) rfl rfl ?_
    by_cases c4 : x2 = 0
    · rw [if_pos c4] at h
      refine ax_tab (pc := 12) (off := 44) (tgt := 56) (ax_dd KX10_told 7 rfl) (by rw [c4]; decide) (by rw [c4]; decide) (by rw [c4]; rfl) (by decide) ?_
      refine ax_aload_n (pc := 56) (i := 0) (q := 0) (ax_dd KX10_told 8 rfl) rfl rfl ?_
      refine ax_iload_n (pc := 57) (i := 1) (q := 1) (ax_dd KX10_told 9 rfl) rfl rfl ?_
      obtain ⟨v5, b6, h⟩ := ob_bind h
      refine ax_kV (pc := 58) (ci := 10) (k := 51) (As := [.int x1]) (rest := []) (st1 := [.int v5]) (μ1 := μ) (ax_dd KX10_told 10 rfl) (c_X10_cornersOf hs b6) kV_X10_179 e_X10_cornersOf (hs 51 _ rfl) cl_X10 (by decide) rfl rfl (by decide) (by decide) (Nat.le_of_ble_eq_true rfl) rfl ?_
      obtain rfl := Option.some.inj h
      exact ax_ireti (pc := 61) (ax_dd KX10_told 11 rfl) ⟨_, rfl, rfl⟩ rfl
    · rw [if_neg c4] at h
      by_cases c7 : x2 = 1
      · rw [if_pos c7] at h
        refine ax_tab (pc := 12) (off := 50) (tgt := 62) (ax_dd KX10_told 7 rfl) (by rw [c7]; decide) (by rw [c7]; decide) (by rw [c7]; rfl) (by decide) ?_
        refine ax_aload_n (pc := 62) (i := 0) (q := 0) (ax_dd KX10_told 12 rfl) rfl rfl ?_
        refine ax_getR (pc := 63) (k := 51) (q := 54) (ax_dd KX10_told 13 rfl) f_X10_16 (hs 51 _ rfl) rfl ?_
        refine ax_iconst (pc := 66) (v := 3) (ax_dd KX10_told 14 rfl) (by decide) ?_
        refine ax_iload_n (pc := 67) (i := 1) (q := 1) (ax_dd KX10_told 15 rfl) rfl rfl ?_
        refine ax_imul (pc := 68) (ax_dd KX10_told 16 rfl) ?_
        refine ax_iconst (pc := 69) (v := 2) (ax_dd KX10_told 17 rfl) (by decide) ?_
        refine ax_iadd (pc := 70) (ax_dd KX10_told 18 rfl) ?_
        obtain ⟨j8, b9, h⟩ := ob_bind h
        refine ax_ild (pc := 71) (k := 54) (N := 18) (j := j8) (ax_dd KX10_told 19 rfl) (hs 54 _ rfl) b9 ?_
        obtain rfl := Option.some.inj h
        exact ax_ireti (pc := 72) (ax_dd KX10_told 20 rfl) ⟨_, rfl, rfl⟩ rfl
      · rw [if_neg c7] at h
        by_cases c10 : x2 = 2
        · rw [if_pos c10] at h
          refine ax_tab (pc := 12) (off := 61) (tgt := 73) (ax_dd KX10_told 7 rfl) (by rw [c10]; decide) (by rw [c10]; decide) (by rw [c10]; rfl) (by decide) ?_
          refine ax_aload_n (pc := 73) (i := 0) (q := 0) (ax_dd KX10_told 21 rfl) rfl rfl ?_
          refine ax_getR (pc := 74) (k := 51) (q := 52) (ax_dd KX10_told 22 rfl) f_X10_7 (hs 51 _ rfl) rfl ?_
          refine ax_iload_n (pc := 77) (i := 1) (q := 1) (ax_dd KX10_told 23 rfl) rfl rfl ?_
          obtain ⟨j11, b12, h⟩ := ob_bind h
          refine ax_ild (pc := 78) (k := 52) (N := 6) (j := j11) (ax_dd KX10_told 24 rfl) (hs 52 _ rfl) b12 ?_
          obtain rfl := Option.some.inj h
          exact ax_ireti (pc := 79) (ax_dd KX10_told 25 rfl) ⟨_, rfl, rfl⟩ rfl
        · rw [if_neg c10] at h
          by_cases c13 : x2 = 3
          · rw [if_pos c13] at h
            refine ax_tab (pc := 12) (off := 68) (tgt := 80) (ax_dd KX10_told 7 rfl) (by rw [c13]; decide) (by rw [c13]; decide) (by rw [c13]; rfl) (by decide) ?_
            refine ax_aload_n (pc := 80) (i := 0) (q := 0) (ax_dd KX10_told 26 rfl) rfl rfl ?_
            refine ax_getR (pc := 81) (k := 51) (q := 53) (ax_dd KX10_told 27 rfl) f_X10_13 (hs 51 _ rfl) rfl ?_
            refine ax_iload_n (pc := 84) (i := 1) (q := 1) (ax_dd KX10_told 28 rfl) rfl rfl ?_
            obtain ⟨j14, b15, h⟩ := ob_bind h
            refine ax_ild (pc := 85) (k := 53) (N := 6) (j := j14) (ax_dd KX10_told 29 rfl) (hs 53 _ rfl) b15 ?_
            obtain rfl := Option.some.inj h
            exact ax_ireti (pc := 86) (ax_dd KX10_told 30 rfl) ⟨_, rfl, rfl⟩ rfl
          · rw [if_neg c13] at h
            by_cases c16 : x2 = 4
            · rw [if_pos c16] at h
              refine ax_tab (pc := 12) (off := 75) (tgt := 87) (ax_dd KX10_told 7 rfl) (by rw [c16]; decide) (by rw [c16]; decide) (by rw [c16]; rfl) (by decide) ?_
              refine ax_aload_n (pc := 87) (i := 0) (q := 0) (ax_dd KX10_told 31 rfl) rfl rfl ?_
              refine ax_iload_n (pc := 88) (i := 1) (q := 1) (ax_dd KX10_told 32 rfl) rfl rfl ?_
              obtain ⟨v17, b18, h⟩ := ob_bind h
              refine ax_kV (pc := 89) (ci := 10) (k := 51) (As := [.int x1]) (rest := []) (st1 := [.int v17]) (μ1 := μ) (ax_dd KX10_told 33 rfl) (c_X10_sizeOf hs b18) kV_X10_158 e_X10_sizeOf (hs 51 _ rfl) cl_X10 (by decide) rfl rfl (by decide) (by decide) (Nat.le_of_ble_eq_true rfl) rfl ?_
              obtain rfl := Option.some.inj h
              exact ax_ireti (pc := 92) (ax_dd KX10_told 34 rfl) ⟨_, rfl, rfl⟩ rfl
            · rw [if_neg c16] at h
              by_cases c19 : x2 = 5
              · rw [if_pos c19] at h
                refine ax_tab (pc := 12) (off := 81) (tgt := 93) (ax_dd KX10_told 7 rfl) (by rw [c19]; decide) (by rw [c19]; decide) (by rw [c19]; rfl) (by decide) ?_
                refine ax_aload_n (pc := 93) (i := 0) (q := 0) (ax_dd KX10_told 35 rfl) rfl rfl ?_
                refine ax_iload_n (pc := 94) (i := 1) (q := 1) (ax_dd KX10_told 36 rfl) rfl rfl ?_
                obtain ⟨v20, μ22, b21, h⟩ := ob_bind2 h
                refine ax_kV (pc := 95) (ci := 10) (k := 51) (As := [.int x1]) (rest := []) (st1 := [.int v20]) (μ1 := μ22) (ax_dd KX10_told 37 rfl) (c_X10_ruledNow hs b21) kV_X10_204 e_X10_ruledNow (hs 51 _ rfl) cl_X10 (by decide) rfl rfl (by decide) (by decide) (Nat.le_of_ble_eq_true rfl) rfl ?_
                obtain rfl := Option.some.inj h
                exact ax_ireti (pc := 98) (ax_dd KX10_told 38 rfl) ⟨_, rfl, rfl⟩ rfl
              · rw [if_neg c19] at h
                by_cases c23 : x2 = 6
                · rw [if_pos c23] at h
                  refine ax_tab (pc := 12) (off := 87) (tgt := 99) (ax_dd KX10_told 7 rfl) (by rw [c23]; decide) (by rw [c23]; decide) (by rw [c23]; rfl) (by decide) ?_
                  refine ax_aload_n (pc := 99) (i := 0) (q := 0) (ax_dd KX10_told 39 rfl) rfl rfl ?_
                  refine ax_iload_n (pc := 100) (i := 1) (q := 1) (ax_dd KX10_told 40 rfl) rfl rfl ?_
                  obtain ⟨v24, μ26, b25, h⟩ := ob_bind2 h
                  refine ax_kV (pc := 101) (ci := 10) (k := 51) (As := [.int x1]) (rest := []) (st1 := [.int v24]) (μ1 := μ26) (ax_dd KX10_told 41 rfl) (c_X10_isAsleep hs b25) kV_X10_186 e_X10_isAsleep (hs 51 _ rfl) cl_X10 (by decide) rfl rfl (by decide) (by decide) (Nat.le_of_ble_eq_true rfl) rfl ?_
                  by_cases c27 : v24 = 0
                  · rw [if_pos c27] at h
                    refine ax_if_eq_t (pc := 104) (tgt := 111) (ax_dd KX10_told 42 rfl) (by decide) c27 ?_
                    refine ax_iconst (pc := 111) (v := 0) (ax_dd KX10_told 45 rfl) (by decide) ?_
                    obtain rfl := Option.some.inj h
                    exact ax_ireti (pc := 112) (ax_dd KX10_told 46 rfl) ⟨_, rfl, rfl⟩ rfl
                  · rw [if_neg c27] at h
                    refine ax_if_eq_f (pc := 104) (tgt := 111) (ax_dd KX10_told 42 rfl) (by decide) c27 ?_
                    refine ax_iconst (pc := 107) (v := 1) (ax_dd KX10_told 43 rfl) (by decide) ?_
                    refine ax_goto (pc := 108) (tgt := 112) (ax_dd KX10_told 44 rfl) (by decide) ?_
                    obtain rfl := Option.some.inj h
                    exact ax_ireti (pc := 112) (ax_dd KX10_told 46 rfl) ⟨_, rfl, rfl⟩ rfl
                · rw [if_neg c23] at h
                  refine ax_tabD (pc := 12) (tgt := 113) (ax_dd KX10_told 7 rfl) (by have e0 := ax_ne c4 (a := 0) rfl; have e1 := ax_ne c7 (a := 1) rfl; have e2 := ax_ne c10 (a := 2) rfl; have e3 := ax_ne c13 (a := 3) rfl; have e4 := ax_ne c16 (a := 4) rfl; have e5 := ax_ne c19 (a := 5) rfl; have e6 := ax_ne c23 (a := 6) rfl; omega) (by decide) ?_
                  refine ax_bipush (pc := 113) (v := (-7)) (ax_dd KX10_told 47 rfl) (by decide) ?_
                  obtain rfl := Option.some.inj h
                  exact ax_ireti (pc := 115) (ax_dd KX10_told 48 rfl) ⟨_, rfl, rfl⟩ rfl
