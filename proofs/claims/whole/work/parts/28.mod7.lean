def m_X10_way (x1 : Int32) (x2 : Int32) (μ : ax_M) : Option (Int32 × ax_M) :=
  (m_X10_in x1 0 3535 μ).bind fun v1 =>
  if v1 = 0 then
    some ((-2), μ)
  else
    if 36 ≤ (rmI x1 100) then
      some ((-2), μ)
    else
      (m_X10_in x2 0 2 μ).bind fun v5 =>
      if v5 = 0 then
        some ((-2), μ)
      else
        (m_X10_rulesBut (-1) μ).bind fun μ10 =>
        m_X10_way_39 x1 x2 fu 0 μ10
set_option maxRecDepth 100000 in
set_option maxHeartbeats 8000000 in
theorem c_X10_way {G : ax_G} {l : Launch} {sh : List ax_E} {x1 : Int32} {x2 : Int32} {μ : ax_M} (hs : ∀ (k : Nat) (e : ax_E), SHF[k]? = some e → sh[k]? = some e) {v : Int32 × ax_M} (h : m_X10_way x1 x2 μ = some v) : ax_A G l yX10_way cX10_way 6 (some .int) 7 [.ref (G.1 + 51), .int x1, .int x2] sh μ (some (.int v.1), sh, v.2) := by
  refine ax_A.of false (by decide +kernel) (fun h9 => by cases h9) (Nat.le_of_ble_eq_true rfl) (?_ : ax_X G l RX10 cX10_way 6 (some .int) false 7 (some (.int v.1), sh, v.2) 0 [(0, .ref (G.1 + 51)), (1, .int x1), (2, .int x2)] [] sh μ)
  unfold m_X10_way at h
  refine ax_iload_n (pc := 0) (i := 1) (q := 1) (ax_dd KX10_way 0 rfl) rfl rfl ?_
  refine ax_iconst (pc := 1) (v := 0) (ax_dd KX10_way 1 rfl) (by decide) ?_
  refine ax_sipush (pc := 2) (v := 3535) (ax_dd KX10_way 2 rfl) (by decide) ?_
  obtain ⟨v1, b2, h⟩ := ob_bind h
  refine ax_kS (pc := 5) (As := [.int x1, .int 0, .int 3535]) (rest := []) (st1 := [.int v1]) (μ1 := μ) (ax_dd KX10_way 3 rfl) (c_X10_in hs b2) kS_X10_81 e_X10_in rfl rfl (by decide) (by decide) (Nat.le_of_ble_eq_true rfl) rfl ?_
  by_cases c3 : v1 = 0
  · rw [if_pos c3] at h
    refine ax_if_eq_t (pc := 8) (tgt := 29) (ax_dd KX10_way 4 rfl) (by decide) c3 ?_
    refine ax_bipush (pc := 29) (v := (-2)) (ax_dd KX10_way 15 rfl) (by decide) ?_
    obtain rfl := Option.some.inj h
    exact ax_ireti (pc := 31) (ax_dd KX10_way 16 rfl) ⟨_, rfl, rfl⟩ rfl
  · rw [if_neg c3] at h
    refine ax_if_eq_f (pc := 8) (tgt := 29) (ax_dd KX10_way 4 rfl) (by decide) c3 ?_
    refine ax_iload_n (pc := 11) (i := 1) (q := 1) (ax_dd KX10_way 5 rfl) rfl rfl ?_
    refine ax_bipush (pc := 12) (v := 100) (ax_dd KX10_way 6 rfl) (by decide) ?_
    refine ax_irem (pc := 14) (ax_dd KX10_way 7 rfl) (by decide) ?_
    refine ax_bipush (pc := 15) (v := 36) (ax_dd KX10_way 8 rfl) (by decide) ?_
    by_cases c4 : 36 ≤ (rmI x1 100)
    · rw [if_pos c4] at h
      refine ax_icmp_ge_t (pc := 17) (tgt := 29) (ax_dd KX10_way 9 rfl) (by decide) c4 ?_
      refine ax_bipush (pc := 29) (v := (-2)) (ax_dd KX10_way 15 rfl) (by decide) ?_
      obtain rfl := Option.some.inj h
      exact ax_ireti (pc := 31) (ax_dd KX10_way 16 rfl) ⟨_, rfl, rfl⟩ rfl
    · rw [if_neg c4] at h
      refine ax_icmp_ge_f (pc := 17) (tgt := 29) (ax_dd KX10_way 9 rfl) (by decide) c4 ?_
      refine ax_iload_n (pc := 20) (i := 2) (q := 2) (ax_dd KX10_way 10 rfl) rfl rfl ?_
      refine ax_iconst (pc := 21) (v := 0) (ax_dd KX10_way 11 rfl) (by decide) ?_
      refine ax_iconst (pc := 22) (v := 2) (ax_dd KX10_way 12 rfl) (by decide) ?_
      obtain ⟨v5, b6, h⟩ := ob_bind h
      refine ax_kS (pc := 23) (As := [.int x2, .int 0, .int 2]) (rest := []) (st1 := [.int v5]) (μ1 := μ) (ax_dd KX10_way 13 rfl) (c_X10_in hs b6) kS_X10_81 e_X10_in rfl rfl (by decide) (by decide) (Nat.le_of_ble_eq_true rfl) rfl ?_
      by_cases c7 : v5 = 0
      · rw [if_pos c7] at h
        refine ax_if_ne_f (pc := 26) (tgt := 32) (ax_dd KX10_way 14 rfl) (by decide) (fun z => z c7) ?_
        refine ax_bipush (pc := 29) (v := (-2)) (ax_dd KX10_way 15 rfl) (by decide) ?_
        obtain rfl := Option.some.inj h
        exact ax_ireti (pc := 31) (ax_dd KX10_way 16 rfl) ⟨_, rfl, rfl⟩ rfl
      · rw [if_neg c7] at h
        refine ax_if_ne_t (pc := 26) (tgt := 32) (ax_dd KX10_way 14 rfl) (by decide) c7 ?_
        refine ax_aload_n (pc := 32) (i := 0) (q := 0) (ax_dd KX10_way 17 rfl) rfl rfl ?_
        refine ax_iconst (pc := 33) (v := (-1)) (ax_dd KX10_way 18 rfl) (by decide) ?_
        obtain ⟨μ10, b9, h⟩ := ob_bind h
        refine ax_kV (pc := 34) (ci := 10) (k := 51) (As := [.int (-1)]) (rest := []) (st1 := []) (μ1 := μ10) (ax_dd KX10_way 19 rfl) (c_X10_rulesBut hs b9) kV_X10_198 e_X10_rulesBut (hs 51 _ rfl) cl_X10 (by decide) rfl rfl (by decide) (by decide) (Nat.le_of_ble_eq_true rfl) rfl ?_
        refine ax_iconst (pc := 37) (v := 0) (ax_dd KX10_way 20 rfl) (by decide) ?_
        refine ax_istore_n (pc := 38) (i := 3) (lv' := [(3, .int 0), (0, .ref (G.1 + 51)), (1, .int x1), (2, .int x2)]) (ax_dd KX10_way 21 rfl) rfl (by decide) rfl ?_
        refine ax_sub (lv' := [(0, .ref (G.1 + 51)), (1, .int x1), (2, .int x2), (3, .int 0)]) [1, 2, 3, 0] rfl ?_
        exact a_X10_way_39 hs fu _ _ _ h
def m_X10_besides_13 (x1 : Int32) (x3 : Int32) (k4 : Int32 → Int32 → Option (Int32)) (μ : ax_M) : Nat → Int32 → Int32 → Option (Int32)
  | 0, _, _ => none
  | n + 1, x2, x4 =>
    if 4 ≤ x4 then
      k4 x2 (x3 + 1)
    else
      (m_X10_besideOf x3 x4 μ).bind fun v2 =>
      (ix 36 x3).bind fun j4 =>
      if (μ 68 j4) = x1 then
        if v2 = (-1) then
          m_X10_besides_13 x1 x3 k4 μ n x2 (x4 + 1)
        else
          (m_X10_within v2 0 35 μ).bind fun v8 =>
          (ix 36 v8).bind fun j10 =>
          if (μ 68 j10) = (-1) then
            m_X10_besides_13 x1 x3 k4 μ n (x2 ||| 0) (x4 + 1)
          else
            if (μ 68 j10) = x1 then
              m_X10_besides_13 x1 x3 k4 μ n (x2 ||| 0) (x4 + 1)
            else
              m_X10_besides_13 x1 x3 k4 μ n (x2 ||| (shI (1 : Int32) (μ 68 j10))) (x4 + 1)
      else
        m_X10_besides_13 x1 x3 k4 μ n x2 (x4 + 1)
set_option maxRecDepth 100000 in
set_option maxHeartbeats 8000000 in
theorem a_X10_besides_13 {G : ax_G} {l : Launch} {sh : List ax_E} {x1 : Int32} {x3 : Int32} {k4 : Int32 → Int32 → Option (Int32)} {μ : ax_M} (hs : ∀ (k : Nat) (e : ax_E), SHF[k]? = some e → sh[k]? = some e) (hk4 : ∀ (x2 : Int32) (x3 : Int32) (v : Int32), k4 x2 x3 = some v → ax_X G l RX10 cX10_besides 7 (some .int) false 3 (some (.int v), sh, μ) 4 [(0, .ref (G.1 + 51)), (1, .int x1), (2, .int x2), (3, .int x3)] [] sh μ) : ∀ (n : Nat) (x2 : Int32) (x4 : Int32) (v : Int32), m_X10_besides_13 x1 x3 k4 μ n x2 x4 = some v → ax_X G l RX10 cX10_besides 7 (some .int) false 3 (some (.int v), sh, μ) 13 [(0, .ref (G.1 + 51)), (1, .int x1), (2, .int x2), (3, .int x3), (4, .int x4)] [] sh μ := by
  intro n
  induction n with
  | zero =>
    intro x2 x4 v h
    rw [m_X10_besides_13] at h
    cases h
  | succ n ih =>
    intro x2 x4 v h
    rw [m_X10_besides_13] at h
    refine ax_iload (pc := 13) (q := 4) (ax_dd KX10_besides 9 rfl) rfl ?_
    refine ax_iconst (pc := 15) (v := 4) (ax_dd KX10_besides 10 rfl) (by decide) ?_
    by_cases c1 : 4 ≤ x4
    · rw [if_pos c1] at h
      refine ax_icmp_ge_t (pc := 16) (tgt := 87) (ax_dd KX10_besides 11 rfl) (by decide) c1 ?_
      refine ax_iinc (pc := 87) (q := 3) (v := (x3 + 1)) (lv' := [(3, .int (x3 + 1)), (0, .ref (G.1 + 51)), (1, .int x1), (2, .int x2), (4, .int x4)]) (ax_dd KX10_besides 49 rfl) rfl rfl (by decide) rfl ?_
      refine ax_goto (pc := 90) (tgt := 4) (ax_dd KX10_besides 50 rfl) (by decide) ?_
      refine ax_sub (lv' := [(0, .ref (G.1 + 51)), (1, .int x1), (2, .int x2), (3, .int (x3 + 1))]) [1, 2, 3, 0] rfl ?_
      exact hk4 _ _ _ h
    · rw [if_neg c1] at h
      refine ax_icmp_ge_f (pc := 16) (tgt := 87) (ax_dd KX10_besides 11 rfl) (by decide) c1 ?_
      refine ax_iload_n (pc := 19) (i := 3) (q := 3) (ax_dd KX10_besides 12 rfl) rfl rfl ?_
      refine ax_iload (pc := 20) (q := 4) (ax_dd KX10_besides 13 rfl) rfl ?_
      obtain ⟨v2, b3, h⟩ := ob_bind h
      refine ax_kS (pc := 22) (As := [.int x3, .int x4]) (rest := []) (st1 := [.int v2]) (μ1 := μ) (ax_dd KX10_besides 14 rfl) (c_X10_besideOf hs b3) kS_X10_236 e_X10_besideOf rfl rfl (by decide) (by decide) (Nat.le_of_ble_eq_true rfl) rfl ?_
      refine ax_istore (pc := 25) (lv' := [(5, .int v2), (0, .ref (G.1 + 51)), (1, .int x1), (2, .int x2), (3, .int x3), (4, .int x4)]) (ax_dd KX10_besides 15 rfl) (by decide) rfl ?_
      refine ax_aload_n (pc := 27) (i := 0) (q := 1) (ax_dd KX10_besides 16 rfl) rfl rfl ?_
      refine ax_getR (pc := 28) (k := 51) (q := 68) (ax_dd KX10_besides 17 rfl) f_X10_62 (hs 51 _ rfl) rfl ?_
      refine ax_iload_n (pc := 31) (i := 3) (q := 4) (ax_dd KX10_besides 18 rfl) rfl rfl ?_
      obtain ⟨j4, b5, h⟩ := ob_bind h
      refine ax_ild (pc := 32) (k := 68) (N := 36) (j := j4) (ax_dd KX10_besides 19 rfl) (hs 68 _ rfl) b5 ?_
      refine ax_iload_n (pc := 33) (i := 1) (q := 2) (ax_dd KX10_besides 20 rfl) rfl rfl ?_
      by_cases c6 : (μ 68 j4) = x1
      · rw [if_pos c6] at h
        refine ax_icmp_ne_f (pc := 34) (tgt := 81) (ax_dd KX10_besides 21 rfl) (by decide) (fun z => z c6) ?_
        refine ax_iload (pc := 37) (q := 0) (ax_dd KX10_besides 22 rfl) rfl ?_
        refine ax_iconst (pc := 39) (v := (-1)) (ax_dd KX10_besides 23 rfl) (by decide) ?_
        by_cases c7 : v2 = (-1)
        · rw [if_pos c7] at h
          refine ax_icmp_eq_t (pc := 40) (tgt := 81) (ax_dd KX10_besides 24 rfl) (by decide) c7 ?_
          refine ax_iinc (pc := 81) (q := 5) (v := (x4 + 1)) (lv' := [(4, .int (x4 + 1)), (5, .int v2), (0, .ref (G.1 + 51)), (1, .int x1), (2, .int x2), (3, .int x3)]) (ax_dd KX10_besides 47 rfl) rfl rfl (by decide) rfl ?_
          refine ax_goto (pc := 84) (tgt := 13) (ax_dd KX10_besides 48 rfl) (by decide) ?_
          refine ax_sub (lv' := [(0, .ref (G.1 + 51)), (1, .int x1), (2, .int x2), (3, .int x3), (4, .int (x4 + 1))]) [2, 3, 4, 5, 0] rfl ?_
          exact ih _ _ _ h
        · rw [if_neg c7] at h
          refine ax_icmp_eq_f (pc := 40) (tgt := 81) (ax_dd KX10_besides 24 rfl) (by decide) c7 ?_
          refine ax_aload_n (pc := 43) (i := 0) (q := 1) (ax_dd KX10_besides 25 rfl) rfl rfl ?_
          refine ax_getR (pc := 44) (k := 51) (q := 68) (ax_dd KX10_besides 26 rfl) f_X10_62 (hs 51 _ rfl) rfl ?_
          refine ax_iload (pc := 47) (q := 0) (ax_dd KX10_besides 27 rfl) rfl ?_
          refine ax_iconst (pc := 49) (v := 0) (ax_dd KX10_besides 28 rfl) (by decide) ?_
          refine ax_bipush (pc := 50) (v := 35) (ax_dd KX10_besides 29 rfl) (by decide) ?_
          obtain ⟨v8, b9, h⟩ := ob_bind h
          refine ax_kS (pc := 52) (As := [.int v2, .int 0, .int 35]) (rest := [.ref (G.1 + 68)]) (st1 := [.int v8, .ref (G.1 + 68)]) (μ1 := μ) (ax_dd KX10_besides 30 rfl) (c_X10_within hs b9) kS_X10_164 e_X10_within rfl rfl (by decide) (by decide) (Nat.le_of_ble_eq_true rfl) rfl ?_
          obtain ⟨j10, b11, h⟩ := ob_bind h
          refine ax_ild (pc := 55) (k := 68) (N := 36) (j := j10) (ax_dd KX10_besides 31 rfl) (hs 68 _ rfl) b11 ?_
          refine ax_istore (pc := 56) (lv' := [(6, .int (μ 68 j10)), (5, .int v2), (0, .ref (G.1 + 51)), (1, .int x1), (2, .int x2), (3, .int x3), (4, .int x4)]) (ax_dd KX10_besides 32 rfl) (by decide) rfl ?_
          refine ax_iload_n (pc := 58) (i := 2) (q := 4) (ax_dd KX10_besides 33 rfl) rfl rfl ?_
          refine ax_iload (pc := 59) (q := 0) (ax_dd KX10_besides 34 rfl) rfl ?_
          refine ax_iconst (pc := 61) (v := (-1)) (ax_dd KX10_besides 35 rfl) (by decide) ?_
          by_cases c12 : (μ 68 j10) = (-1)
          · rw [if_pos c12] at h
            refine ax_icmp_eq_t (pc := 62) (tgt := 71) (ax_dd KX10_besides 36 rfl) (by decide) c12 ?_
            refine ax_iconst (pc := 71) (v := 0) (ax_dd KX10_besides 40 rfl) (by decide) ?_
            refine ax_goto (pc := 72) (tgt := 79) (ax_dd KX10_besides 41 rfl) (by decide) ?_
            refine ax_ior (pc := 79) (ax_dd KX10_besides 45 rfl) ?_
            refine ax_istore_n (pc := 80) (i := 2) (lv' := [(2, .int (x2 ||| 0)), (6, .int (μ 68 j10)), (5, .int v2), (0, .ref (G.1 + 51)), (1, .int x1), (3, .int x3), (4, .int x4)]) (ax_dd KX10_besides 46 rfl) rfl (by decide) rfl ?_
            refine ax_iinc (pc := 81) (q := 6) (v := (x4 + 1)) (lv' := [(4, .int (x4 + 1)), (2, .int (x2 ||| 0)), (6, .int (μ 68 j10)), (5, .int v2), (0, .ref (G.1 + 51)), (1, .int x1), (3, .int x3)]) (ax_dd KX10_besides 47 rfl) rfl rfl (by decide) rfl ?_
            refine ax_goto (pc := 84) (tgt := 13) (ax_dd KX10_besides 48 rfl) (by decide) ?_
            refine ax_sub (lv' := [(0, .ref (G.1 + 51)), (1, .int x1), (2, .int (x2 ||| 0)), (3, .int x3), (4, .int (x4 + 1))]) [4, 5, 1, 6, 0] rfl ?_
            exact ih _ _ _ h
          · rw [if_neg c12] at h
            refine ax_icmp_eq_f (pc := 62) (tgt := 71) (ax_dd KX10_besides 36 rfl) (by decide) c12 ?_
            refine ax_iload (pc := 65) (q := 0) (ax_dd KX10_besides 37 rfl) rfl ?_
            refine ax_iload_n (pc := 67) (i := 1) (q := 3) (ax_dd KX10_besides 38 rfl) rfl rfl ?_
            by_cases c13 : (μ 68 j10) = x1
            · rw [if_pos c13] at h
              refine ax_icmp_ne_f (pc := 68) (tgt := 75) (ax_dd KX10_besides 39 rfl) (by decide) (fun z => z c13) ?_
              refine ax_iconst (pc := 71) (v := 0) (ax_dd KX10_besides 40 rfl) (by decide) ?_
              refine ax_goto (pc := 72) (tgt := 79) (ax_dd KX10_besides 41 rfl) (by decide) ?_
              refine ax_ior (pc := 79) (ax_dd KX10_besides 45 rfl) ?_
              refine ax_istore_n (pc := 80) (i := 2) (lv' := [(2, .int (x2 ||| 0)), (6, .int (μ 68 j10)), (5, .int v2), (0, .ref (G.1 + 51)), (1, .int x1), (3, .int x3), (4, .int x4)]) (ax_dd KX10_besides 46 rfl) rfl (by decide) rfl ?_
              refine ax_iinc (pc := 81) (q := 6) (v := (x4 + 1)) (lv' := [(4, .int (x4 + 1)), (2, .int (x2 ||| 0)), (6, .int (μ 68 j10)), (5, .int v2), (0, .ref (G.1 + 51)), (1, .int x1), (3, .int x3)]) (ax_dd KX10_besides 47 rfl) rfl rfl (by decide) rfl ?_
              refine ax_goto (pc := 84) (tgt := 13) (ax_dd KX10_besides 48 rfl) (by decide) ?_
              refine ax_sub (lv' := [(0, .ref (G.1 + 51)), (1, .int x1), (2, .int (x2 ||| 0)), (3, .int x3), (4, .int (x4 + 1))]) [4, 5, 1, 6, 0] rfl ?_
              exact ih _ _ _ h
            · rw [if_neg c13] at h
              refine ax_icmp_ne_t (pc := 68) (tgt := 75) (ax_dd KX10_besides 39 rfl) (by decide) c13 ?_
              refine ax_iconst (pc := 75) (v := 1) (ax_dd KX10_besides 42 rfl) (by decide) ?_
              refine ax_iload (pc := 76) (q := 0) (ax_dd KX10_besides 43 rfl) rfl ?_
              refine ax_ishl (pc := 78) (ax_dd KX10_besides 44 rfl) ?_
              refine ax_ior (pc := 79) (ax_dd KX10_besides 45 rfl) ?_
              refine ax_istore_n (pc := 80) (i := 2) (lv' := [(2, .int (x2 ||| (shI (1 : Int32) (μ 68 j10)))), (6, .int (μ 68 j10)), (5, .int v2), (0, .ref (G.1 + 51)), (1, .int x1), (3, .int x3), (4, .int x4)]) (ax_dd KX10_besides 46 rfl) rfl (by decide) rfl ?_
              refine ax_iinc (pc := 81) (q := 6) (v := (x4 + 1)) (lv' := [(4, .int (x4 + 1)), (2, .int (x2 ||| (shI (1 : Int32) (μ 68 j10)))), (6, .int (μ 68 j10)), (5, .int v2), (0, .ref (G.1 + 51)), (1, .int x1), (3, .int x3)]) (ax_dd KX10_besides 47 rfl) rfl rfl (by decide) rfl ?_
              refine ax_goto (pc := 84) (tgt := 13) (ax_dd KX10_besides 48 rfl) (by decide) ?_
              refine ax_sub (lv' := [(0, .ref (G.1 + 51)), (1, .int x1), (2, .int (x2 ||| (shI (1 : Int32) (μ 68 j10)))), (3, .int x3), (4, .int (x4 + 1))]) [4, 5, 1, 6, 0] rfl ?_
              exact ih _ _ _ h
      · rw [if_neg c6] at h
        refine ax_icmp_ne_t (pc := 34) (tgt := 81) (ax_dd KX10_besides 21 rfl) (by decide) c6 ?_
        refine ax_iinc (pc := 81) (q := 5) (v := (x4 + 1)) (lv' := [(4, .int (x4 + 1)), (5, .int v2), (0, .ref (G.1 + 51)), (1, .int x1), (2, .int x2), (3, .int x3)]) (ax_dd KX10_besides 47 rfl) rfl rfl (by decide) rfl ?_
        refine ax_goto (pc := 84) (tgt := 13) (ax_dd KX10_besides 48 rfl) (by decide) ?_
        refine ax_sub (lv' := [(0, .ref (G.1 + 51)), (1, .int x1), (2, .int x2), (3, .int x3), (4, .int (x4 + 1))]) [2, 3, 4, 5, 0] rfl ?_
        exact ih _ _ _ h
def m_X10_besides_4 (x1 : Int32) (μ : ax_M) : Nat → Int32 → Int32 → Option (Int32)
  | 0, _, _ => none
  | n + 1, x2, x3 =>
    if 36 ≤ x3 then
      some x2
    else
      m_X10_besides_13 x1 x3 (m_X10_besides_4 x1 μ n) μ fu x2 0
set_option maxRecDepth 100000 in
set_option maxHeartbeats 8000000 in
theorem a_X10_besides_4 {G : ax_G} {l : Launch} {sh : List ax_E} {x1 : Int32} {μ : ax_M} (hs : ∀ (k : Nat) (e : ax_E), SHF[k]? = some e → sh[k]? = some e) : ∀ (n : Nat) (x2 : Int32) (x3 : Int32) (v : Int32), m_X10_besides_4 x1 μ n x2 x3 = some v → ax_X G l RX10 cX10_besides 7 (some .int) false 3 (some (.int v), sh, μ) 4 [(0, .ref (G.1 + 51)), (1, .int x1), (2, .int x2), (3, .int x3)] [] sh μ := by
  intro n
  induction n with
  | zero =>
    intro x2 x3 v h
    rw [m_X10_besides_4] at h
    cases h
  | succ n ih =>
    intro x2 x3 v h
    rw [m_X10_besides_4] at h
    refine ax_iload_n (pc := 4) (i := 3) (q := 3) (ax_dd KX10_besides 4 rfl) rfl rfl ?_
    refine ax_bipush (pc := 5) (v := 36) (ax_dd KX10_besides 5 rfl) (by decide) ?_
    by_cases c1 : 36 ≤ x3
    · rw [if_pos c1] at h
      refine ax_icmp_ge_t (pc := 7) (tgt := 93) (ax_dd KX10_besides 6 rfl) (by decide) c1 ?_
      refine ax_iload_n (pc := 93) (i := 2) (q := 2) (ax_dd KX10_besides 51 rfl) rfl rfl ?_
      obtain rfl := Option.some.inj h
      exact ax_ireti (pc := 94) (ax_dd KX10_besides 52 rfl) ⟨_, rfl, rfl⟩ rfl
    · rw [if_neg c1] at h
      refine ax_icmp_ge_f (pc := 7) (tgt := 93) (ax_dd KX10_besides 6 rfl) (by decide) c1 ?_
      refine ax_iconst (pc := 10) (v := 0) (ax_dd KX10_besides 7 rfl) (by decide) ?_
      refine ax_istore (pc := 11) (lv' := [(4, .int 0), (0, .ref (G.1 + 51)), (1, .int x1), (2, .int x2), (3, .int x3)]) (ax_dd KX10_besides 8 rfl) (by decide) rfl ?_
      refine ax_sub (lv' := [(0, .ref (G.1 + 51)), (1, .int x1), (2, .int x2), (3, .int x3), (4, .int 0)]) [1, 2, 3, 4, 0] rfl ?_
      exact a_X10_besides_13 hs ih fu _ _ _ h
def m_X10_besides (x1 : Int32) (μ : ax_M) : Option (Int32) :=
  m_X10_besides_4 x1 μ fu 0 0
set_option maxRecDepth 100000 in
set_option maxHeartbeats 8000000 in
theorem c_X10_besides {G : ax_G} {l : Launch} {sh : List ax_E} {x1 : Int32} {μ : ax_M} (hs : ∀ (k : Nat) (e : ax_E), SHF[k]? = some e → sh[k]? = some e) {v : Int32} (h : m_X10_besides x1 μ = some v) : ax_A G l yX10_besides cX10_besides 7 (some .int) 3 [.ref (G.1 + 51), .int x1] sh μ (some (.int v), sh, μ) := by
  refine ax_A.of false (by decide +kernel) (fun h9 => by cases h9) (Nat.le_of_ble_eq_true rfl) (?_ : ax_X G l RX10 cX10_besides 7 (some .int) false 3 (some (.int v), sh, μ) 0 [(0, .ref (G.1 + 51)), (1, .int x1)] [] sh μ)
  unfold m_X10_besides at h
  refine ax_iconst (pc := 0) (v := 0) (ax_dd KX10_besides 0 rfl) (by decide) ?_
  refine ax_istore_n (pc := 1) (i := 2) (lv' := [(2, .int 0), (0, .ref (G.1 + 51)), (1, .int x1)]) (ax_dd KX10_besides 1 rfl) rfl (by decide) rfl ?_
  refine ax_iconst (pc := 2) (v := 0) (ax_dd KX10_besides 2 rfl) (by decide) ?_
  refine ax_istore_n (pc := 3) (i := 3) (lv' := [(3, .int 0), (2, .int 0), (0, .ref (G.1 + 51)), (1, .int x1)]) (ax_dd KX10_besides 3 rfl) rfl (by decide) rfl ?_
  refine ax_sub (lv' := [(0, .ref (G.1 + 51)), (1, .int x1), (2, .int 0), (3, .int 0)]) [2, 3, 1, 0] rfl ?_
  exact a_X10_besides_4 hs fu _ _ _ h
def m_X10_borders (x1 : Int32) (μ : ax_M) : Option (Int32 × ax_M) :=
  (m_X10_isRug x1 μ).bind fun v1 =>
  if v1 = 0 then
    some ((-5), μ)
  else
    (m_X10_rulesBut (-1) μ).bind fun μ6 =>
    (m_X10_besides x1 μ6).bind fun v7 =>
    some (v7, μ6)
set_option maxRecDepth 100000 in
set_option maxHeartbeats 8000000 in
theorem c_X10_borders {G : ax_G} {l : Launch} {sh : List ax_E} {x1 : Int32} {μ : ax_M} (hs : ∀ (k : Nat) (e : ax_E), SHF[k]? = some e → sh[k]? = some e) {v : Int32 × ax_M} (h : m_X10_borders x1 μ = some v) : ax_A G l yX10_borders cX10_borders 2 (some .int) 7 [.ref (G.1 + 51), .int x1] sh μ (some (.int v.1), sh, v.2) := by
  refine ax_A.of false (by decide +kernel) (fun h9 => by cases h9) (Nat.le_of_ble_eq_true rfl) (?_ : ax_X G l RX10 cX10_borders 2 (some .int) false 7 (some (.int v.1), sh, v.2) 0 [(0, .ref (G.1 + 51)), (1, .int x1)] [] sh μ)
  unfold m_X10_borders at h
  refine ax_aload_n (pc := 0) (i := 0) (q := 0) (ax_dd KX10_borders 0 rfl) rfl rfl ?_
  refine ax_iload_n (pc := 1) (i := 1) (q := 1) (ax_dd KX10_borders 1 rfl) rfl rfl ?_
  obtain ⟨v1, b2, h⟩ := ob_bind h
  refine ax_kV (pc := 2) (ci := 10) (k := 51) (As := [.int x1]) (rest := []) (st1 := [.int v1]) (μ1 := μ) (ax_dd KX10_borders 2 rfl) (c_X10_isRug hs b2) kV_X10_167 e_X10_isRug (hs 51 _ rfl) cl_X10 (by decide) rfl rfl (by decide) (by decide) (Nat.le_of_ble_eq_true rfl) rfl ?_
  by_cases c3 : v1 = 0
  · rw [if_pos c3] at h
    refine ax_if_ne_f (pc := 5) (tgt := 11) (ax_dd KX10_borders 3 rfl) (by decide) (fun z => z c3) ?_
    refine ax_bipush (pc := 8) (v := (-5)) (ax_dd KX10_borders 4 rfl) (by decide) ?_
    obtain rfl := Option.some.inj h
    exact ax_ireti (pc := 10) (ax_dd KX10_borders 5 rfl) ⟨_, rfl, rfl⟩ rfl
  · rw [if_neg c3] at h
    refine ax_if_ne_t (pc := 5) (tgt := 11) (ax_dd KX10_borders 3 rfl) (by decide) c3 ?_
    refine ax_aload_n (pc := 11) (i := 0) (q := 0) (ax_dd KX10_borders 6 rfl) rfl rfl ?_
    refine ax_iconst (pc := 12) (v := (-1)) (ax_dd KX10_borders 7 rfl) (by decide) ?_
    obtain ⟨μ6, b5, h⟩ := ob_bind h
    refine ax_kV (pc := 13) (ci := 10) (k := 51) (As := [.int (-1)]) (rest := []) (st1 := []) (μ1 := μ6) (ax_dd KX10_borders 8 rfl) (c_X10_rulesBut hs b5) kV_X10_198 e_X10_rulesBut (hs 51 _ rfl) cl_X10 (by decide) rfl rfl (by decide) (by decide) (Nat.le_of_ble_eq_true rfl) rfl ?_
    refine ax_aload_n (pc := 16) (i := 0) (q := 0) (ax_dd KX10_borders 9 rfl) rfl rfl ?_
    refine ax_iload_n (pc := 17) (i := 1) (q := 1) (ax_dd KX10_borders 10 rfl) rfl rfl ?_
    obtain ⟨v7, b8, h⟩ := ob_bind h
    refine ax_kV (pc := 18) (ci := 10) (k := 51) (As := [.int x1]) (rest := []) (st1 := [.int v7]) (μ1 := μ6) (ax_dd KX10_borders 11 rfl) (c_X10_besides hs b8) kV_X10_243 e_X10_besides (hs 51 _ rfl) cl_X10 (by decide) rfl rfl (by decide) (by decide) (Nat.le_of_ble_eq_true rfl) rfl ?_
    obtain rfl := Option.some.inj h
    exact ax_ireti (pc := 21) (ax_dd KX10_borders 12 rfl) ⟨_, rfl, rfl⟩ rfl
def m_X10_league_118 (x2 : Int32) (x3 : Int32) : Nat → Int32 → Int32 → ax_M → Option (Int32 × ax_M)
  | 0, _, _, _ => none
  | n + 1, x5, x6, μ =>
    if (μ 51 0) ≤ x6 then
      if x2 = 0 then
        some (x3, μ)
      else
        some (x5, μ)
    else
      if ((srI x3 x6) &&& 1) = 1 then
        (m_X10_ruledBy x6 μ).bind fun v4 =>
        m_X10_league_118 x2 x3 n (x5 + v4) (x6 + 1) μ
      else
        m_X10_league_118 x2 x3 n (x5 + 0) (x6 + 1) μ
set_option maxRecDepth 100000 in
set_option maxHeartbeats 8000000 in
theorem a_X10_league_118 {G : ax_G} {l : Launch} {sh : List ax_E} {x2 : Int32} {x3 : Int32} (hs : ∀ (k : Nat) (e : ax_E), SHF[k]? = some e → sh[k]? = some e) : ∀ (n : Nat) (x5 : Int32) (x6 : Int32) (μ : ax_M) (v : Int32 × ax_M), m_X10_league_118 x2 x3 n x5 x6 μ = some v → ax_X G l RX10 cX10_league 7 (some .int) false 7 (some (.int v.1), sh, v.2) 118 [(0, .ref (G.1 + 51)), (2, .int x2), (3, .int x3), (5, .int x5), (6, .int x6)] [] sh μ := by
  intro n
  induction n with
  | zero =>
    intro x5 x6 μ v h
    rw [m_X10_league_118] at h
    cases h
  | succ n ih =>
    intro x5 x6 μ v h
    rw [m_X10_league_118] at h
    refine ax_iload (pc := 118) (q := 4) (ax_dd KX10_league 67 rfl) rfl ?_
    refine ax_aload_n (pc := 120) (i := 0) (q := 0) (ax_dd KX10_league 68 rfl) rfl rfl ?_
    refine ax_getI (pc := 121) (k := 51) (ax_dd KX10_league 69 rfl) f_X10_78 (hs 51 _ rfl) rfl ?_
    by_cases c1 : (μ 51 0) ≤ x6
    · rw [if_pos c1] at h
      refine ax_icmp_ge_t (pc := 124) (tgt := 158) (ax_dd KX10_league 70 rfl) (by decide) c1 ?_
      refine ax_iload_n (pc := 158) (i := 2) (q := 1) (ax_dd KX10_league 88 rfl) rfl rfl ?_
      by_cases c2 : x2 = 0
      · rw [if_pos c2] at h
        refine ax_if_ne_f (pc := 159) (tgt := 166) (ax_dd KX10_league 89 rfl) (by decide) (fun z => z c2) ?_
        refine ax_iload_n (pc := 162) (i := 3) (q := 2) (ax_dd KX10_league 90 rfl) rfl rfl ?_
        refine ax_goto (pc := 163) (tgt := 168) (ax_dd KX10_league 91 rfl) (by decide) ?_
        obtain rfl := Option.some.inj h
        exact ax_ireti (pc := 168) (ax_dd KX10_league 93 rfl) ⟨_, rfl, rfl⟩ rfl
      · rw [if_neg c2] at h
        refine ax_if_ne_t (pc := 159) (tgt := 166) (ax_dd KX10_league 89 rfl) (by decide) c2 ?_
        refine ax_iload (pc := 166) (q := 3) (ax_dd KX10_league 92 rfl) rfl ?_
        obtain rfl := Option.some.inj h
        exact ax_ireti (pc := 168) (ax_dd KX10_league 93 rfl) ⟨_, rfl, rfl⟩ rfl
    · rw [if_neg c1] at h
      refine ax_icmp_ge_f (pc := 124) (tgt := 158) (ax_dd KX10_league 70 rfl) (by decide) c1 ?_
      refine ax_iload (pc := 127) (q := 3) (ax_dd KX10_league 71 rfl) rfl ?_
      refine ax_iload_n (pc := 129) (i := 3) (q := 2) (ax_dd KX10_league 72 rfl) rfl rfl ?_
      refine ax_iload (pc := 130) (q := 4) (ax_dd KX10_league 73 rfl) rfl ?_
      refine ax_ishr (pc := 132) (ax_dd KX10_league 74 rfl) ?_
      refine ax_iconst (pc := 133) (v := 1) (ax_dd KX10_league 75 rfl) (by decide) ?_
      refine ax_iand (pc := 134) (ax_dd KX10_league 76 rfl) ?_
      refine ax_iconst (pc := 135) (v := 1) (ax_dd KX10_league 77 rfl) (by decide) ?_
      by_cases c3 : ((srI x3 x6) &&& 1) = 1
      · rw [if_pos c3] at h
        refine ax_icmp_ne_f (pc := 136) (tgt := 148) (ax_dd KX10_league 78 rfl) (by decide) (fun z => z c3) ?_
        refine ax_aload_n (pc := 139) (i := 0) (q := 0) (ax_dd KX10_league 79 rfl) rfl rfl ?_
        refine ax_iload (pc := 140) (q := 4) (ax_dd KX10_league 80 rfl) rfl ?_
        obtain ⟨v4, b5, h⟩ := ob_bind h
        refine ax_kV (pc := 142) (ci := 10) (k := 51) (As := [.int x6]) (rest := [.int x5]) (st1 := [.int v4, .int x5]) (μ1 := μ) (ax_dd KX10_league 81 rfl) (c_X10_ruledBy hs b5) kV_X10_201 e_X10_ruledBy (hs 51 _ rfl) cl_X10 (by decide) rfl rfl (by decide) (by decide) (Nat.le_of_ble_eq_true rfl) rfl ?_
        refine ax_goto (pc := 145) (tgt := 149) (ax_dd KX10_league 82 rfl) (by decide) ?_
        refine ax_iadd (pc := 149) (ax_dd KX10_league 84 rfl) ?_
        refine ax_istore (pc := 150) (lv' := [(5, .int (x5 + v4)), (0, .ref (G.1 + 51)), (2, .int x2), (3, .int x3), (6, .int x6)]) (ax_dd KX10_league 85 rfl) (by decide) rfl ?_
        refine ax_iinc (pc := 152) (q := 4) (v := (x6 + 1)) (lv' := [(6, .int (x6 + 1)), (5, .int (x5 + v4)), (0, .ref (G.1 + 51)), (2, .int x2), (3, .int x3)]) (ax_dd KX10_league 86 rfl) rfl rfl (by decide) rfl ?_
        refine ax_goto (pc := 155) (tgt := 118) (ax_dd KX10_league 87 rfl) (by decide) ?_
        refine ax_sub (lv' := [(0, .ref (G.1 + 51)), (2, .int x2), (3, .int x3), (5, .int (x5 + v4)), (6, .int (x6 + 1))]) [2, 3, 4, 1, 0] rfl ?_
        exact ih _ _ _ _ h
      · rw [if_neg c3] at h
        refine ax_icmp_ne_t (pc := 136) (tgt := 148) (ax_dd KX10_league 78 rfl) (by decide) c3 ?_
        refine ax_iconst (pc := 148) (v := 0) (ax_dd KX10_league 83 rfl) (by decide) ?_
        refine ax_iadd (pc := 149) (ax_dd KX10_league 84 rfl) ?_
        refine ax_istore (pc := 150) (lv' := [(5, .int (x5 + 0)), (0, .ref (G.1 + 51)), (2, .int x2), (3, .int x3), (6, .int x6)]) (ax_dd KX10_league 85 rfl) (by decide) rfl ?_
        refine ax_iinc (pc := 152) (q := 4) (v := (x6 + 1)) (lv' := [(6, .int (x6 + 1)), (5, .int (x5 + 0)), (0, .ref (G.1 + 51)), (2, .int x2), (3, .int x3)]) (ax_dd KX10_league 86 rfl) rfl rfl (by decide) rfl ?_
        refine ax_goto (pc := 155) (tgt := 118) (ax_dd KX10_league 87 rfl) (by decide) ?_
        refine ax_sub (lv' := [(0, .ref (G.1 + 51)), (2, .int x2), (3, .int x3), (5, .int (x5 + 0)), (6, .int (x6 + 1))]) [2, 3, 4, 1, 0] rfl ?_
        exact ih _ _ _ _ h
def m_X10_league_58 (x2 : Int32) (x5 : Int32) (k47 : Int32 → Int32 → ax_M → Option (Int32 × ax_M)) : Nat → Int32 → Int32 → ax_M → Option (Int32 × ax_M)
  | 0, _, _, _ => none
  | n + 1, x3, x6, μ =>
    if (μ 51 0) ≤ x6 then
      if x3 = x5 then
        k47 x3 0 μ
      else
        k47 x3 1 μ
    else
      if ((srI x3 x6) &&& 1) = 1 then
        (m_X10_besides x6 μ).bind fun v4 =>
        m_X10_league_58 x2 x5 k47 n (x3 ||| v4) (x6 + 1) μ
      else
        m_X10_league_58 x2 x5 k47 n (x3 ||| 0) (x6 + 1) μ
set_option maxRecDepth 100000 in
set_option maxHeartbeats 8000000 in
theorem a_X10_league_58 {G : ax_G} {l : Launch} {sh : List ax_E} {x2 : Int32} {x5 : Int32} {k47 : Int32 → Int32 → ax_M → Option (Int32 × ax_M)} (hs : ∀ (k : Nat) (e : ax_E), SHF[k]? = some e → sh[k]? = some e) (hk47 : ∀ (x3 : Int32) (x4 : Int32) (μ : ax_M) (v : Int32 × ax_M), k47 x3 x4 μ = some v → ax_X G l RX10 cX10_league 7 (some .int) false 7 (some (.int v.1), sh, v.2) 47 [(0, .ref (G.1 + 51)), (2, .int x2), (3, .int x3), (4, .int x4)] [] sh μ) : ∀ (n : Nat) (x3 : Int32) (x6 : Int32) (μ : ax_M) (v : Int32 × ax_M), m_X10_league_58 x2 x5 k47 n x3 x6 μ = some v → ax_X G l RX10 cX10_league 7 (some .int) false 7 (some (.int v.1), sh, v.2) 58 [(0, .ref (G.1 + 51)), (2, .int x2), (3, .int x3), (5, .int x5), (6, .int x6)] [] sh μ := by
  intro n
  induction n with
  | zero =>
    intro x3 x6 μ v h
    rw [m_X10_league_58] at h
    cases h
  | succ n ih =>
    intro x3 x6 μ v h
    rw [m_X10_league_58] at h
    refine ax_iload (pc := 58) (q := 4) (ax_dd KX10_league 34 rfl) rfl ?_
    refine ax_aload_n (pc := 60) (i := 0) (q := 0) (ax_dd KX10_league 35 rfl) rfl rfl ?_
    refine ax_getI (pc := 61) (k := 51) (ax_dd KX10_league 36 rfl) f_X10_78 (hs 51 _ rfl) rfl ?_
    by_cases c1 : (μ 51 0) ≤ x6
    · rw [if_pos c1] at h
      refine ax_icmp_ge_t (pc := 64) (tgt := 96) (ax_dd KX10_league 37 rfl) (by decide) c1 ?_
      refine ax_iload_n (pc := 96) (i := 3) (q := 2) (ax_dd KX10_league 55 rfl) rfl rfl ?_
      refine ax_iload (pc := 97) (q := 3) (ax_dd KX10_league 56 rfl) rfl ?_
      by_cases c2 : x3 = x5
      · rw [if_pos c2] at h
        refine ax_icmp_eq_t (pc := 99) (tgt := 106) (ax_dd KX10_league 57 rfl) (by decide) c2 ?_
        refine ax_iconst (pc := 106) (v := 0) (ax_dd KX10_league 60 rfl) (by decide) ?_
        refine ax_istore (pc := 107) (lv' := [(4, .int 0), (0, .ref (G.1 + 51)), (2, .int x2), (3, .int x3), (5, .int x5), (6, .int x6)]) (ax_dd KX10_league 61 rfl) (by decide) rfl ?_
        refine ax_goto (pc := 109) (tgt := 47) (ax_dd KX10_league 62 rfl) (by decide) ?_
        refine ax_sub (lv' := [(0, .ref (G.1 + 51)), (2, .int x2), (3, .int x3), (4, .int 0)]) [1, 2, 3, 0] rfl ?_
        exact hk47 _ _ _ _ h
      · rw [if_neg c2] at h
        refine ax_icmp_eq_f (pc := 99) (tgt := 106) (ax_dd KX10_league 57 rfl) (by decide) c2 ?_
        refine ax_iconst (pc := 102) (v := 1) (ax_dd KX10_league 58 rfl) (by decide) ?_
        refine ax_goto (pc := 103) (tgt := 107) (ax_dd KX10_league 59 rfl) (by decide) ?_
        refine ax_istore (pc := 107) (lv' := [(4, .int 1), (0, .ref (G.1 + 51)), (2, .int x2), (3, .int x3), (5, .int x5), (6, .int x6)]) (ax_dd KX10_league 61 rfl) (by decide) rfl ?_
        refine ax_goto (pc := 109) (tgt := 47) (ax_dd KX10_league 62 rfl) (by decide) ?_
        refine ax_sub (lv' := [(0, .ref (G.1 + 51)), (2, .int x2), (3, .int x3), (4, .int 1)]) [1, 2, 3, 0] rfl ?_
        exact hk47 _ _ _ _ h
    · rw [if_neg c1] at h
      refine ax_icmp_ge_f (pc := 64) (tgt := 96) (ax_dd KX10_league 37 rfl) (by decide) c1 ?_
      refine ax_iload_n (pc := 67) (i := 3) (q := 2) (ax_dd KX10_league 38 rfl) rfl rfl ?_
      refine ax_iload_n (pc := 68) (i := 3) (q := 2) (ax_dd KX10_league 39 rfl) rfl rfl ?_
      refine ax_iload (pc := 69) (q := 4) (ax_dd KX10_league 40 rfl) rfl ?_
      refine ax_ishr (pc := 71) (ax_dd KX10_league 41 rfl) ?_
      refine ax_iconst (pc := 72) (v := 1) (ax_dd KX10_league 42 rfl) (by decide) ?_
      refine ax_iand (pc := 73) (ax_dd KX10_league 43 rfl) ?_
      refine ax_iconst (pc := 74) (v := 1) (ax_dd KX10_league 44 rfl) (by decide) ?_
      by_cases c3 : ((srI x3 x6) &&& 1) = 1
      · rw [if_pos c3] at h
        refine ax_icmp_ne_f (pc := 75) (tgt := 87) (ax_dd KX10_league 45 rfl) (by decide) (fun z => z c3) ?_
        refine ax_aload_n (pc := 78) (i := 0) (q := 0) (ax_dd KX10_league 46 rfl) rfl rfl ?_
        refine ax_iload (pc := 79) (q := 4) (ax_dd KX10_league 47 rfl) rfl ?_
        obtain ⟨v4, b5, h⟩ := ob_bind h
        refine ax_kV (pc := 81) (ci := 10) (k := 51) (As := [.int x6]) (rest := [.int x3]) (st1 := [.int v4, .int x3]) (μ1 := μ) (ax_dd KX10_league 48 rfl) (c_X10_besides hs b5) kV_X10_243 e_X10_besides (hs 51 _ rfl) cl_X10 (by decide) rfl rfl (by decide) (by decide) (Nat.le_of_ble_eq_true rfl) rfl ?_
        refine ax_goto (pc := 84) (tgt := 88) (ax_dd KX10_league 49 rfl) (by decide) ?_
        refine ax_ior (pc := 88) (ax_dd KX10_league 51 rfl) ?_
        refine ax_istore_n (pc := 89) (i := 3) (lv' := [(3, .int (x3 ||| v4)), (0, .ref (G.1 + 51)), (2, .int x2), (5, .int x5), (6, .int x6)]) (ax_dd KX10_league 52 rfl) rfl (by decide) rfl ?_
        refine ax_iinc (pc := 90) (q := 4) (v := (x6 + 1)) (lv' := [(6, .int (x6 + 1)), (3, .int (x3 ||| v4)), (0, .ref (G.1 + 51)), (2, .int x2), (5, .int x5)]) (ax_dd KX10_league 53 rfl) rfl rfl (by decide) rfl ?_
        refine ax_goto (pc := 93) (tgt := 58) (ax_dd KX10_league 54 rfl) (by decide) ?_
        refine ax_sub (lv' := [(0, .ref (G.1 + 51)), (2, .int x2), (3, .int (x3 ||| v4)), (5, .int x5), (6, .int (x6 + 1))]) [2, 3, 1, 4, 0] rfl ?_
        exact ih _ _ _ _ h
      · rw [if_neg c3] at h
        refine ax_icmp_ne_t (pc := 75) (tgt := 87) (ax_dd KX10_league 45 rfl) (by decide) c3 ?_
        refine ax_iconst (pc := 87) (v := 0) (ax_dd KX10_league 50 rfl) (by decide) ?_
        refine ax_ior (pc := 88) (ax_dd KX10_league 51 rfl) ?_
        refine ax_istore_n (pc := 89) (i := 3) (lv' := [(3, .int (x3 ||| 0)), (0, .ref (G.1 + 51)), (2, .int x2), (5, .int x5), (6, .int x6)]) (ax_dd KX10_league 52 rfl) rfl (by decide) rfl ?_
        refine ax_iinc (pc := 90) (q := 4) (v := (x6 + 1)) (lv' := [(6, .int (x6 + 1)), (3, .int (x3 ||| 0)), (0, .ref (G.1 + 51)), (2, .int x2), (5, .int x5)]) (ax_dd KX10_league 53 rfl) rfl rfl (by decide) rfl ?_
        refine ax_goto (pc := 93) (tgt := 58) (ax_dd KX10_league 54 rfl) (by decide) ?_
        refine ax_sub (lv' := [(0, .ref (G.1 + 51)), (2, .int x2), (3, .int (x3 ||| 0)), (5, .int x5), (6, .int (x6 + 1))]) [2, 3, 1, 4, 0] rfl ?_
        exact ih _ _ _ _ h
def m_X10_league_47 (x2 : Int32) : Nat → Int32 → Int32 → ax_M → Option (Int32 × ax_M)
  | 0, _, _, _ => none
  | n + 1, x3, x4, μ =>
    if x4 = 0 then
      m_X10_league_118 x2 x3 fu 0 0 μ
    else
      m_X10_league_58 x2 x3 (m_X10_league_47 x2 n) fu x3 0 μ
set_option maxRecDepth 100000 in
set_option maxHeartbeats 8000000 in
theorem a_X10_league_47 {G : ax_G} {l : Launch} {sh : List ax_E} {x2 : Int32} (hs : ∀ (k : Nat) (e : ax_E), SHF[k]? = some e → sh[k]? = some e) : ∀ (n : Nat) (x3 : Int32) (x4 : Int32) (μ : ax_M) (v : Int32 × ax_M), m_X10_league_47 x2 n x3 x4 μ = some v → ax_X G l RX10 cX10_league 7 (some .int) false 7 (some (.int v.1), sh, v.2) 47 [(0, .ref (G.1 + 51)), (2, .int x2), (3, .int x3), (4, .int x4)] [] sh μ := by
  intro n
  induction n with
  | zero =>
    intro x3 x4 μ v h
    rw [m_X10_league_47] at h
    cases h
  | succ n ih =>
    intro x3 x4 μ v h
    rw [m_X10_league_47] at h
    refine ax_iload (pc := 47) (q := 3) (ax_dd KX10_league 28 rfl) rfl ?_
    by_cases c1 : x4 = 0
    · rw [if_pos c1] at h
      refine ax_if_eq_t (pc := 49) (tgt := 112) (ax_dd KX10_league 29 rfl) (by decide) c1 ?_
      refine ax_iconst (pc := 112) (v := 0) (ax_dd KX10_league 63 rfl) (by decide) ?_
      refine ax_istore (pc := 113) (lv' := [(5, .int 0), (0, .ref (G.1 + 51)), (2, .int x2), (3, .int x3), (4, .int x4)]) (ax_dd KX10_league 64 rfl) (by decide) rfl ?_
      refine ax_iconst (pc := 115) (v := 0) (ax_dd KX10_league 65 rfl) (by decide) ?_
      refine ax_istore (pc := 116) (lv' := [(6, .int 0), (5, .int 0), (0, .ref (G.1 + 51)), (2, .int x2), (3, .int x3), (4, .int x4)]) (ax_dd KX10_league 66 rfl) (by decide) rfl ?_
      refine ax_sub (lv' := [(0, .ref (G.1 + 51)), (2, .int x2), (3, .int x3), (5, .int 0), (6, .int 0)]) [2, 3, 4, 1, 0] rfl ?_
      exact a_X10_league_118 hs fu _ _ _ _ h
    · rw [if_neg c1] at h
      refine ax_if_eq_f (pc := 49) (tgt := 112) (ax_dd KX10_league 29 rfl) (by decide) c1 ?_
      refine ax_iload_n (pc := 52) (i := 3) (q := 2) (ax_dd KX10_league 30 rfl) rfl rfl ?_
      refine ax_istore (pc := 53) (lv' := [(5, .int x3), (0, .ref (G.1 + 51)), (2, .int x2), (3, .int x3), (4, .int x4)]) (ax_dd KX10_league 31 rfl) (by decide) rfl ?_
      refine ax_iconst (pc := 55) (v := 0) (ax_dd KX10_league 32 rfl) (by decide) ?_
      refine ax_istore (pc := 56) (lv' := [(6, .int 0), (5, .int x3), (0, .ref (G.1 + 51)), (2, .int x2), (3, .int x3), (4, .int x4)]) (ax_dd KX10_league 33 rfl) (by decide) rfl ?_
      refine ax_sub (lv' := [(0, .ref (G.1 + 51)), (2, .int x2), (3, .int x3), (5, .int x3), (6, .int 0)]) [2, 3, 4, 1, 0] rfl ?_
      exact a_X10_league_58 hs ih fu _ _ _ _ h
def m_X10_league (x1 : Int32) (x2 : Int32) (μ : ax_M) : Option (Int32 × ax_M) :=
  (m_X10_isRug x1 μ).bind fun v1 =>
  if v1 = 0 then
    some ((-5), μ)
  else
    (m_X10_in x2 0 1 μ).bind fun v4 =>
    if v4 = 0 then
      some ((-7), μ)
    else
      (m_X10_rulesBut (-1) μ).bind fun μ9 =>
      (m_X10_ruledBy x1 μ9).bind fun v10 =>
      if v10 = 0 then
        m_X10_league_47 x2 fu 0 1 μ9
      else
        m_X10_league_47 x2 fu (shI (1 : Int32) x1) 1 μ9
set_option maxRecDepth 100000 in
set_option maxHeartbeats 8000000 in
theorem c_X10_league {G : ax_G} {l : Launch} {sh : List ax_E} {x1 : Int32} {x2 : Int32} {μ : ax_M} (hs : ∀ (k : Nat) (e : ax_E), SHF[k]? = some e → sh[k]? = some e) {v : Int32 × ax_M} (h : m_X10_league x1 x2 μ = some v) : ax_A G l yX10_league cX10_league 7 (some .int) 7 [.ref (G.1 + 51), .int x1, .int x2] sh μ (some (.int v.1), sh, v.2) := by
  refine ax_A.of false (by decide +kernel) (fun h9 => by cases h9) (Nat.le_of_ble_eq_true rfl) (?_ : ax_X G l RX10 cX10_league 7 (some .int) false 7 (some (.int v.1), sh, v.2) 0 [(0, .ref (G.1 + 51)), (1, .int x1), (2, .int x2)] [] sh μ)
  unfold m_X10_league at h
  refine ax_aload_n (pc := 0) (i := 0) (q := 0) (ax_dd KX10_league 0 rfl) rfl rfl ?_
  refine ax_iload_n (pc := 1) (i := 1) (q := 1) (ax_dd KX10_league 1 rfl) rfl rfl ?_
  obtain ⟨v1, b2, h⟩ := ob_bind h
  refine ax_kV (pc := 2) (ci := 10) (k := 51) (As := [.int x1]) (rest := []) (st1 := [.int v1]) (μ1 := μ) (ax_dd KX10_league 2 rfl) (c_X10_isRug hs b2) kV_X10_167 e_X10_isRug (hs 51 _ rfl) cl_X10 (by decide) rfl rfl (by decide) (by decide) (Nat.le_of_ble_eq_true rfl) rfl ?_
  by_cases c3 : v1 = 0
  · rw [if_pos c3] at h
    refine ax_if_ne_f (pc := 5) (tgt := 11) (ax_dd KX10_league 3 rfl) (by decide) (fun z => z c3) ?_
    refine ax_bipush (pc := 8) (v := (-5)) (ax_dd KX10_league 4 rfl) (by decide) ?_
    obtain rfl := Option.some.inj h
    exact ax_ireti (pc := 10) (ax_dd KX10_league 5 rfl) ⟨_, rfl, rfl⟩ rfl
  · rw [if_neg c3] at h
    refine ax_if_ne_t (pc := 5) (tgt := 11) (ax_dd KX10_league 3 rfl) (by decide) c3 ?_
    refine ax_iload_n (pc := 11) (i := 2) (q := 2) (ax_dd KX10_league 6 rfl) rfl rfl ?_
    refine ax_iconst (pc := 12) (v := 0) (ax_dd KX10_league 7 rfl) (by decide) ?_
    refine ax_iconst (pc := 13) (v := 1) (ax_dd KX10_league 8 rfl) (by decide) ?_
    obtain ⟨v4, b5, h⟩ := ob_bind h
    refine ax_kS (pc := 14) (As := [.int x2, .int 0, .int 1]) (rest := []) (st1 := [.int v4]) (μ1 := μ) (ax_dd KX10_league 9 rfl) (c_X10_in hs b5) kS_X10_81 e_X10_in rfl rfl (by decide) (by decide) (Nat.le_of_ble_eq_true rfl) rfl ?_
    by_cases c6 : v4 = 0
    · rw [if_pos c6] at h
      refine ax_if_ne_f (pc := 17) (tgt := 23) (ax_dd KX10_league 10 rfl) (by decide) (fun z => z c6) ?_
      refine ax_bipush (pc := 20) (v := (-7)) (ax_dd KX10_league 11 rfl) (by decide) ?_
      obtain rfl := Option.some.inj h
      exact ax_ireti (pc := 22) (ax_dd KX10_league 12 rfl) ⟨_, rfl, rfl⟩ rfl
    · rw [if_neg c6] at h
      refine ax_if_ne_t (pc := 17) (tgt := 23) (ax_dd KX10_league 10 rfl) (by decide) c6 ?_
      refine ax_aload_n (pc := 23) (i := 0) (q := 0) (ax_dd KX10_league 13 rfl) rfl rfl ?_
      refine ax_iconst (pc := 24) (v := (-1)) (ax_dd KX10_league 14 rfl) (by decide) ?_
      obtain ⟨μ9, b8, h⟩ := ob_bind h
      refine ax_kV (pc := 25) (ci := 10) (k := 51) (As := [.int (-1)]) (rest := []) (st1 := []) (μ1 := μ9) (ax_dd KX10_league 15 rfl) (c_X10_rulesBut hs b8) kV_X10_198 e_X10_rulesBut (hs 51 _ rfl) cl_X10 (by decide) rfl rfl (by decide) (by decide) (Nat.le_of_ble_eq_true rfl) rfl ?_
      refine ax_aload_n (pc := 28) (i := 0) (q := 0) (ax_dd KX10_league 16 rfl) rfl rfl ?_
      refine ax_iload_n (pc := 29) (i := 1) (q := 1) (ax_dd KX10_league 17 rfl) rfl rfl ?_
      obtain ⟨v10, b11, h⟩ := ob_bind h
      refine ax_kV (pc := 30) (ci := 10) (k := 51) (As := [.int x1]) (rest := []) (st1 := [.int v10]) (μ1 := μ9) (ax_dd KX10_league 18 rfl) (c_X10_ruledBy hs b11) kV_X10_201 e_X10_ruledBy (hs 51 _ rfl) cl_X10 (by decide) rfl rfl (by decide) (by decide) (Nat.le_of_ble_eq_true rfl) rfl ?_
      by_cases c12 : v10 = 0
      · rw [if_pos c12] at h
        refine ax_if_ne_f (pc := 33) (tgt := 40) (ax_dd KX10_league 19 rfl) (by decide) (fun z => z c12) ?_
        refine ax_iconst (pc := 36) (v := 0) (ax_dd KX10_league 20 rfl) (by decide) ?_
        refine ax_goto (pc := 37) (tgt := 43) (ax_dd KX10_league 21 rfl) (by decide) ?_
        refine ax_istore_n (pc := 43) (i := 3) (lv' := [(3, .int 0), (0, .ref (G.1 + 51)), (1, .int x1), (2, .int x2)]) (ax_dd KX10_league 25 rfl) rfl (by decide) rfl ?_
        refine ax_iconst (pc := 44) (v := 1) (ax_dd KX10_league 26 rfl) (by decide) ?_
        refine ax_istore (pc := 45) (lv' := [(4, .int 1), (3, .int 0), (0, .ref (G.1 + 51)), (1, .int x1), (2, .int x2)]) (ax_dd KX10_league 27 rfl) (by decide) rfl ?_
        refine ax_sub (lv' := [(0, .ref (G.1 + 51)), (2, .int x2), (3, .int 0), (4, .int 1)]) [2, 4, 1, 0] rfl ?_
        exact a_X10_league_47 hs fu _ _ _ _ h
      · rw [if_neg c12] at h
        refine ax_if_ne_t (pc := 33) (tgt := 40) (ax_dd KX10_league 19 rfl) (by decide) c12 ?_
        refine ax_iconst (pc := 40) (v := 1) (ax_dd KX10_league 22 rfl) (by decide) ?_
        refine ax_iload_n (pc := 41) (i := 1) (q := 1) (ax_dd KX10_league 23 rfl) rfl rfl ?_
        refine ax_ishl (pc := 42) (ax_dd KX10_league 24 rfl) ?_
        refine ax_istore_n (pc := 43) (i := 3) (lv' := [(3, .int (shI (1 : Int32) x1)), (0, .ref (G.1 + 51)), (1, .int x1), (2, .int x2)]) (ax_dd KX10_league 25 rfl) rfl (by decide) rfl ?_
        refine ax_iconst (pc := 44) (v := 1) (ax_dd KX10_league 26 rfl) (by decide) ?_
        refine ax_istore (pc := 45) (lv' := [(4, .int 1), (3, .int (shI (1 : Int32) x1)), (0, .ref (G.1 + 51)), (1, .int x1), (2, .int x2)]) (ax_dd KX10_league 27 rfl) (by decide) rfl ?_
        refine ax_sub (lv' := [(0, .ref (G.1 + 51)), (2, .int x2), (3, .int (shI (1 : Int32) x1)), (4, .int 1)]) [2, 4, 1, 0] rfl ?_
        exact a_X10_league_47 hs fu _ _ _ _ h
def m_X10_place_183 (x1 : Int32) (x2 : Int32) (x3 : Int32) (x4 : Int32) (x5 : Int32) (x6 : Int32) (x8 : Int32) (x9 : Int32) (x10 : Int32) (x11 : Int32) (s0 : Int32) (k77 : Int32 → Int32 → Int32 → ax_M → Option (Int32 × ax_M)) (μ : ax_M) : Option (Int32 × ax_M) :=
  if x11 = 0 then
    k77 s0 x8 (x9 + 1) μ
  else
    k77 s0 x10 (x9 + 1) μ
set_option maxRecDepth 100000 in
set_option maxHeartbeats 8000000 in
theorem a_X10_place_183 {G : ax_G} {l : Launch} {sh : List ax_E} {x1 : Int32} {x2 : Int32} {x3 : Int32} {x4 : Int32} {x5 : Int32} {x6 : Int32} {x8 : Int32} {x9 : Int32} {x10 : Int32} {x11 : Int32} {s0 : Int32} {k77 : Int32 → Int32 → Int32 → ax_M → Option (Int32 × ax_M)} {μ : ax_M} (hs : ∀ (k : Nat) (e : ax_E), SHF[k]? = some e → sh[k]? = some e) (hk77 : ∀ (x7 : Int32) (x8 : Int32) (x9 : Int32) (μ : ax_M) (v : Int32 × ax_M), k77 x7 x8 x9 μ = some v → ax_X G l RX10 cX10_place 12 (some .int) false 8 (some (.int v.1), sh, v.2) 77 [(0, .ref (G.1 + 51)), (1, .int x1), (2, .int x2), (3, .int x3), (4, .int x4), (5, .int x5), (6, .int x6), (7, .int x7), (8, .int x8), (9, .int x9)] [] sh μ) {v : Int32 × ax_M} (h : m_X10_place_183 x1 x2 x3 x4 x5 x6 x8 x9 x10 x11 s0 k77 μ = some v) : ax_X G l RX10 cX10_place 12 (some .int) false 8 (some (.int v.1), sh, v.2) 183 [(0, .ref (G.1 + 51)), (1, .int x1), (2, .int x2), (3, .int x3), (4, .int x4), (5, .int x5), (6, .int x6), (8, .int x8), (9, .int x9), (10, .int x10), (11, .int x11)] [.int s0] sh μ := by
  unfold m_X10_place_183 at h
  refine ax_istore (pc := 183) (lv' := [(7, .int s0), (0, .ref (G.1 + 51)), (1, .int x1), (2, .int x2), (3, .int x3), (4, .int x4), (5, .int x5), (6, .int x6), (8, .int x8), (9, .int x9), (10, .int x10), (11, .int x11)]) (ax_dd KX10_place 111 rfl) (by decide) rfl ?_
  refine ax_iload (pc := 185) (q := 11) (ax_dd KX10_place 112 rfl) rfl ?_
  by_cases c1 : x11 = 0
  · rw [if_pos c1] at h
    refine ax_if_eq_t (pc := 187) (tgt := 195) (ax_dd KX10_place 113 rfl) (by decide) c1 ?_
    refine ax_iload (pc := 195) (q := 8) (ax_dd KX10_place 116 rfl) rfl ?_
    refine ax_istore (pc := 197) (lv' := [(8, .int x8), (7, .int s0), (0, .ref (G.1 + 51)), (1, .int x1), (2, .int x2), (3, .int x3), (4, .int x4), (5, .int x5), (6, .int x6), (9, .int x9), (10, .int x10), (11, .int x11)]) (ax_dd KX10_place 117 rfl) (by decide) rfl ?_
    refine ax_iinc (pc := 199) (q := 9) (v := (x9 + 1)) (lv' := [(9, .int (x9 + 1)), (8, .int x8), (7, .int s0), (0, .ref (G.1 + 51)), (1, .int x1), (2, .int x2), (3, .int x3), (4, .int x4), (5, .int x5), (6, .int x6), (10, .int x10), (11, .int x11)]) (ax_dd KX10_place 118 rfl) rfl rfl (by decide) rfl ?_
    refine ax_goto (pc := 202) (tgt := 77) (ax_dd KX10_place 119 rfl) (by decide) ?_
    refine ax_sub (lv' := [(0, .ref (G.1 + 51)), (1, .int x1), (2, .int x2), (3, .int x3), (4, .int x4), (5, .int x5), (6, .int x6), (7, .int s0), (8, .int x8), (9, .int (x9 + 1))]) [3, 4, 5, 6, 7, 8, 9, 2, 1, 0] rfl ?_
    exact hk77 _ _ _ _ _ h
  · rw [if_neg c1] at h
    refine ax_if_eq_f (pc := 187) (tgt := 195) (ax_dd KX10_place 113 rfl) (by decide) c1 ?_
    refine ax_iload (pc := 190) (q := 10) (ax_dd KX10_place 114 rfl) rfl ?_
    refine ax_goto (pc := 192) (tgt := 197) (ax_dd KX10_place 115 rfl) (by decide) ?_
    refine ax_istore (pc := 197) (lv' := [(8, .int x10), (7, .int s0), (0, .ref (G.1 + 51)), (1, .int x1), (2, .int x2), (3, .int x3), (4, .int x4), (5, .int x5), (6, .int x6), (9, .int x9), (10, .int x10), (11, .int x11)]) (ax_dd KX10_place 117 rfl) (by decide) rfl ?_
    refine ax_iinc (pc := 199) (q := 9) (v := (x9 + 1)) (lv' := [(9, .int (x9 + 1)), (8, .int x10), (7, .int s0), (0, .ref (G.1 + 51)), (1, .int x1), (2, .int x2), (3, .int x3), (4, .int x4), (5, .int x5), (6, .int x6), (10, .int x10), (11, .int x11)]) (ax_dd KX10_place 118 rfl) rfl rfl (by decide) rfl ?_
    refine ax_goto (pc := 202) (tgt := 77) (ax_dd KX10_place 119 rfl) (by decide) ?_
    refine ax_sub (lv' := [(0, .ref (G.1 + 51)), (1, .int x1), (2, .int x2), (3, .int x3), (4, .int x4), (5, .int x5), (6, .int x6), (7, .int s0), (8, .int x10), (9, .int (x9 + 1))]) [3, 4, 5, 6, 7, 8, 9, 2, 1, 0] rfl ?_
    exact hk77 _ _ _ _ _ h
def m_X10_place_166 (x1 : Int32) (x2 : Int32) (x3 : Int32) (x4 : Int32) (x5 : Int32) (x6 : Int32) (x7 : Int32) (x8 : Int32) (x9 : Int32) (x10 : Int32) (s0 : Int32) (k77 : Int32 → Int32 → Int32 → ax_M → Option (Int32 × ax_M)) (μ : ax_M) : Option (Int32 × ax_M) :=
  if s0 = 0 then
    m_X10_place_183 x1 x2 x3 x4 x5 x6 x8 x9 x10 s0 x7 k77 μ
  else
    (m_X10_cornersOf x1 μ).bind fun v2 =>
    m_X10_place_183 x1 x2 x3 x4 x5 x6 x8 x9 x10 s0 v2 k77 μ
set_option maxRecDepth 100000 in
set_option maxHeartbeats 8000000 in
theorem a_X10_place_166 {G : ax_G} {l : Launch} {sh : List ax_E} {x1 : Int32} {x2 : Int32} {x3 : Int32} {x4 : Int32} {x5 : Int32} {x6 : Int32} {x7 : Int32} {x8 : Int32} {x9 : Int32} {x10 : Int32} {s0 : Int32} {k77 : Int32 → Int32 → Int32 → ax_M → Option (Int32 × ax_M)} {μ : ax_M} (hs : ∀ (k : Nat) (e : ax_E), SHF[k]? = some e → sh[k]? = some e) (hk77 : ∀ (x7 : Int32) (x8 : Int32) (x9 : Int32) (μ : ax_M) (v : Int32 × ax_M), k77 x7 x8 x9 μ = some v → ax_X G l RX10 cX10_place 12 (some .int) false 8 (some (.int v.1), sh, v.2) 77 [(0, .ref (G.1 + 51)), (1, .int x1), (2, .int x2), (3, .int x3), (4, .int x4), (5, .int x5), (6, .int x6), (7, .int x7), (8, .int x8), (9, .int x9)] [] sh μ) {v : Int32 × ax_M} (h : m_X10_place_166 x1 x2 x3 x4 x5 x6 x7 x8 x9 x10 s0 k77 μ = some v) : ax_X G l RX10 cX10_place 12 (some .int) false 8 (some (.int v.1), sh, v.2) 166 [(0, .ref (G.1 + 51)), (1, .int x1), (2, .int x2), (3, .int x3), (4, .int x4), (5, .int x5), (6, .int x6), (7, .int x7), (8, .int x8), (9, .int x9), (10, .int x10)] [.int s0] sh μ := by
  unfold m_X10_place_166 at h
  refine ax_istore (pc := 166) (lv' := [(11, .int s0), (0, .ref (G.1 + 51)), (1, .int x1), (2, .int x2), (3, .int x3), (4, .int x4), (5, .int x5), (6, .int x6), (7, .int x7), (8, .int x8), (9, .int x9), (10, .int x10)]) (ax_dd KX10_place 103 rfl) (by decide) rfl ?_
  refine ax_iload (pc := 168) (q := 0) (ax_dd KX10_place 104 rfl) rfl ?_
  by_cases c1 : s0 = 0
  · rw [if_pos c1] at h
    refine ax_if_eq_t (pc := 170) (tgt := 181) (ax_dd KX10_place 105 rfl) (by decide) c1 ?_
    refine ax_iload (pc := 181) (q := 8) (ax_dd KX10_place 110 rfl) rfl ?_
    refine ax_sub (lv' := [(0, .ref (G.1 + 51)), (1, .int x1), (2, .int x2), (3, .int x3), (4, .int x4), (5, .int x5), (6, .int x6), (8, .int x8), (9, .int x9), (10, .int x10), (11, .int s0)]) [1, 2, 3, 4, 5, 6, 7, 9, 10, 11, 0] rfl ?_
    exact a_X10_place_183 hs hk77 h
  · rw [if_neg c1] at h
    refine ax_if_eq_f (pc := 170) (tgt := 181) (ax_dd KX10_place 105 rfl) (by decide) c1 ?_
    refine ax_aload_n (pc := 173) (i := 0) (q := 1) (ax_dd KX10_place 106 rfl) rfl rfl ?_
    refine ax_iload_n (pc := 174) (i := 1) (q := 2) (ax_dd KX10_place 107 rfl) rfl rfl ?_
    obtain ⟨v2, b3, h⟩ := ob_bind h
    refine ax_kV (pc := 175) (ci := 10) (k := 51) (As := [.int x1]) (rest := []) (st1 := [.int v2]) (μ1 := μ) (ax_dd KX10_place 108 rfl) (c_X10_cornersOf hs b3) kV_X10_179 e_X10_cornersOf (hs 51 _ rfl) cl_X10 (by decide) rfl rfl (by decide) (by decide) (Nat.le_of_ble_eq_true rfl) rfl ?_
    refine ax_goto (pc := 178) (tgt := 183) (ax_dd KX10_place 109 rfl) (by decide) ?_
    refine ax_sub (lv' := [(0, .ref (G.1 + 51)), (1, .int x1), (2, .int x2), (3, .int x3), (4, .int x4), (5, .int x5), (6, .int x6), (8, .int x8), (9, .int x9), (10, .int x10), (11, .int s0)]) [1, 2, 3, 4, 5, 6, 7, 9, 10, 11, 0] rfl ?_
    exact a_X10_place_183 hs hk77 h
def m_X10_place_77 (x1 : Int32) (x2 : Int32) (x3 : Int32) (x4 : Int32) (x5 : Int32) (x6 : Int32) : Nat → Int32 → Int32 → Int32 → ax_M → Option (Int32 × ax_M)
  | 0, _, _, _, _ => none
  | n + 1, x7, x8, x9, μ =>
    if 36 ≤ x9 then
      (ix 18 ((3 : Int32) * x1)).bind fun j2 =>
      (ix 18 (((3 : Int32) * x1) + 1)).bind fun j4 =>
      if x2 = 0 then
        some (x7, ax_w (ax_w μ 54 j2 x3) 54 j4 x4)
      else
        some (x8, ax_w (ax_w μ 54 j2 x3) 54 j4 x4)
    else
      if 6 ≤ ((rmI x9 6) + x5) then
        m_X10_place_77 x1 x2 x3 x4 x5 x6 n x7 x8 (x9 + 1) μ
      else
        if 6 ≤ ((x9 / 6) + x6) then
          m_X10_place_77 x1 x2 x3 x4 x5 x6 n x7 x8 (x9 + 1) μ
        else
          (ix 18 ((3 : Int32) * x1)).bind fun j9 =>
          (ix 18 (((3 : Int32) * x1) + 1)).bind fun j11 =>
          bind2 (m_X10_ruledNow x1 (ax_w (ax_w μ 54 j9 x9) 54 j11 ((x9 + x5) + ((6 : Int32) * x6)))) fun v13 μ15 =>
          if x7 = (-1) then
            m_X10_place_166 x1 x2 x3 x4 x5 x6 x7 x8 x9 v13 1 (m_X10_place_77 x1 x2 x3 x4 x5 x6 n) μ15
          else
            if v13 ≤ x8 then
              m_X10_place_166 x1 x2 x3 x4 x5 x6 x7 x8 x9 v13 0 (m_X10_place_77 x1 x2 x3 x4 x5 x6 n) μ15
            else
              m_X10_place_166 x1 x2 x3 x4 x5 x6 x7 x8 x9 v13 1 (m_X10_place_77 x1 x2 x3 x4 x5 x6 n) μ15
set_option maxRecDepth 100000 in
set_option maxHeartbeats 8000000 in
theorem a_X10_place_77 {G : ax_G} {l : Launch} {sh : List ax_E} {x1 : Int32} {x2 : Int32} {x3 : Int32} {x4 : Int32} {x5 : Int32} {x6 : Int32} (hs : ∀ (k : Nat) (e : ax_E), SHF[k]? = some e → sh[k]? = some e) : ∀ (n : Nat) (x7 : Int32) (x8 : Int32) (x9 : Int32) (μ : ax_M) (v : Int32 × ax_M), m_X10_place_77 x1 x2 x3 x4 x5 x6 n x7 x8 x9 μ = some v → ax_X G l RX10 cX10_place 12 (some .int) false 8 (some (.int v.1), sh, v.2) 77 [(0, .ref (G.1 + 51)), (1, .int x1), (2, .int x2), (3, .int x3), (4, .int x4), (5, .int x5), (6, .int x6), (7, .int x7), (8, .int x8), (9, .int x9)] [] sh μ := by
  intro n
  induction n with
  | zero =>
    intro x7 x8 x9 μ v h
    rw [m_X10_place_77] at h
    cases h
  | succ n ih =>
    intro x7 x8 x9 μ v h
    rw [m_X10_place_77] at h
    refine ax_iload (pc := 77) (q := 9) (ax_dd KX10_place 51 rfl) rfl ?_
    refine ax_bipush (pc := 79) (v := 36) (ax_dd KX10_place 52 rfl) (by decide) ?_
    by_cases c1 : 36 ≤ x9
    · rw [if_pos c1] at h
      refine ax_icmp_ge_t (pc := 81) (tgt := 205) (ax_dd KX10_place 53 rfl) (by decide) c1 ?_
      refine ax_aload_n (pc := 205) (i := 0) (q := 0) (ax_dd KX10_place 120 rfl) rfl rfl ?_
      refine ax_getR (pc := 206) (k := 51) (q := 54) (ax_dd KX10_place 121 rfl) f_X10_16 (hs 51 _ rfl) rfl ?_
      refine ax_iconst (pc := 209) (v := 3) (ax_dd KX10_place 122 rfl) (by decide) ?_
      refine ax_iload_n (pc := 210) (i := 1) (q := 1) (ax_dd KX10_place 123 rfl) rfl rfl ?_
      refine ax_imul (pc := 211) (ax_dd KX10_place 124 rfl) ?_
      refine ax_iload_n (pc := 212) (i := 3) (q := 3) (ax_dd KX10_place 125 rfl) rfl rfl ?_
      obtain ⟨j2, b3, h⟩ := ob_bind h
      refine ax_ist (pc := 213) (k := 54) (N := 18) (j := j2) (ax_dd KX10_place 126 rfl) (hs 54 _ rfl) b3 ?_
      refine ax_aload_n (pc := 214) (i := 0) (q := 0) (ax_dd KX10_place 127 rfl) rfl rfl ?_
      refine ax_getR (pc := 215) (k := 51) (q := 54) (ax_dd KX10_place 128 rfl) f_X10_16 (hs 51 _ rfl) rfl ?_
      refine ax_iconst (pc := 218) (v := 3) (ax_dd KX10_place 129 rfl) (by decide) ?_
      refine ax_iload_n (pc := 219) (i := 1) (q := 1) (ax_dd KX10_place 130 rfl) rfl rfl ?_
      refine ax_imul (pc := 220) (ax_dd KX10_place 131 rfl) ?_
      refine ax_iconst (pc := 221) (v := 1) (ax_dd KX10_place 132 rfl) (by decide) ?_
      refine ax_iadd (pc := 222) (ax_dd KX10_place 133 rfl) ?_
      refine ax_iload (pc := 223) (q := 4) (ax_dd KX10_place 134 rfl) rfl ?_
      obtain ⟨j4, b5, h⟩ := ob_bind h
      refine ax_ist (pc := 225) (k := 54) (N := 18) (j := j4) (ax_dd KX10_place 135 rfl) (hs 54 _ rfl) b5 ?_
      refine ax_iload_n (pc := 226) (i := 2) (q := 2) (ax_dd KX10_place 136 rfl) rfl rfl ?_
      by_cases c6 : x2 = 0
      · rw [if_pos c6] at h
        refine ax_if_ne_f (pc := 227) (tgt := 235) (ax_dd KX10_place 137 rfl) (by decide) (fun z => z c6) ?_
        refine ax_iload (pc := 230) (q := 7) (ax_dd KX10_place 138 rfl) rfl ?_
        refine ax_goto (pc := 232) (tgt := 237) (ax_dd KX10_place 139 rfl) (by decide) ?_
        obtain rfl := Option.some.inj h
        exact ax_ireti (pc := 237) (ax_dd KX10_place 141 rfl) ⟨_, rfl, rfl⟩ rfl
      · rw [if_neg c6] at h
        refine ax_if_ne_t (pc := 227) (tgt := 235) (ax_dd KX10_place 137 rfl) (by decide) c6 ?_
        refine ax_iload (pc := 235) (q := 8) (ax_dd KX10_place 140 rfl) rfl ?_
        obtain rfl := Option.some.inj h
        exact ax_ireti (pc := 237) (ax_dd KX10_place 141 rfl) ⟨_, rfl, rfl⟩ rfl
    · rw [if_neg c1] at h
      refine ax_icmp_ge_f (pc := 81) (tgt := 205) (ax_dd KX10_place 53 rfl) (by decide) c1 ?_
      refine ax_iload (pc := 84) (q := 9) (ax_dd KX10_place 54 rfl) rfl ?_
      refine ax_bipush (pc := 86) (v := 6) (ax_dd KX10_place 55 rfl) (by decide) ?_
      refine ax_irem (pc := 88) (ax_dd KX10_place 56 rfl) (by decide) ?_
      refine ax_iload (pc := 89) (q := 5) (ax_dd KX10_place 57 rfl) rfl ?_
      refine ax_iadd (pc := 91) (ax_dd KX10_place 58 rfl) ?_
      refine ax_bipush (pc := 92) (v := 6) (ax_dd KX10_place 59 rfl) (by decide) ?_
      by_cases c7 : 6 ≤ ((rmI x9 6) + x5)
      · rw [if_pos c7] at h
        refine ax_icmp_ge_t (pc := 94) (tgt := 199) (ax_dd KX10_place 60 rfl) (by decide) c7 ?_
        refine ax_iinc (pc := 199) (q := 9) (v := (x9 + 1)) (lv' := [(9, .int (x9 + 1)), (0, .ref (G.1 + 51)), (1, .int x1), (2, .int x2), (3, .int x3), (4, .int x4), (5, .int x5), (6, .int x6), (7, .int x7), (8, .int x8)]) (ax_dd KX10_place 118 rfl) rfl rfl (by decide) rfl ?_
        refine ax_goto (pc := 202) (tgt := 77) (ax_dd KX10_place 119 rfl) (by decide) ?_
        refine ax_sub (lv' := [(0, .ref (G.1 + 51)), (1, .int x1), (2, .int x2), (3, .int x3), (4, .int x4), (5, .int x5), (6, .int x6), (7, .int x7), (8, .int x8), (9, .int (x9 + 1))]) [1, 2, 3, 4, 5, 6, 7, 8, 9, 0] rfl ?_
        exact ih _ _ _ _ _ h
      · rw [if_neg c7] at h
        refine ax_icmp_ge_f (pc := 94) (tgt := 199) (ax_dd KX10_place 60 rfl) (by decide) c7 ?_
        refine ax_iload (pc := 97) (q := 9) (ax_dd KX10_place 61 rfl) rfl ?_
        refine ax_bipush (pc := 99) (v := 6) (ax_dd KX10_place 62 rfl) (by decide) ?_
        refine ax_idiv (pc := 101) (ax_dd KX10_place 63 rfl) (by decide) ?_
        refine ax_iload (pc := 102) (q := 6) (ax_dd KX10_place 64 rfl) rfl ?_
        refine ax_iadd (pc := 104) (ax_dd KX10_place 65 rfl) ?_
        refine ax_bipush (pc := 105) (v := 6) (ax_dd KX10_place 66 rfl) (by decide) ?_
        by_cases c8 : 6 ≤ ((x9 / 6) + x6)
        · rw [if_pos c8] at h
          refine ax_icmp_ge_t (pc := 107) (tgt := 199) (ax_dd KX10_place 67 rfl) (by decide) c8 ?_
          refine ax_iinc (pc := 199) (q := 9) (v := (x9 + 1)) (lv' := [(9, .int (x9 + 1)), (0, .ref (G.1 + 51)), (1, .int x1), (2, .int x2), (3, .int x3), (4, .int x4), (5, .int x5), (6, .int x6), (7, .int x7), (8, .int x8)]) (ax_dd KX10_place 118 rfl) rfl rfl (by decide) rfl ?_
          refine ax_goto (pc := 202) (tgt := 77) (ax_dd KX10_place 119 rfl) (by decide) ?_
          refine ax_sub (lv' := [(0, .ref (G.1 + 51)), (1, .int x1), (2, .int x2), (3, .int x3), (4, .int x4), (5, .int x5), (6, .int x6), (7, .int x7), (8, .int x8), (9, .int (x9 + 1))]) [1, 2, 3, 4, 5, 6, 7, 8, 9, 0] rfl ?_
          exact ih _ _ _ _ _ h
        · rw [if_neg c8] at h
          refine ax_icmp_ge_f (pc := 107) (tgt := 199) (ax_dd KX10_place 67 rfl) (by decide) c8 ?_
          refine ax_aload_n (pc := 110) (i := 0) (q := 0) (ax_dd KX10_place 68 rfl) rfl rfl ?_
          refine ax_getR (pc := 111) (k := 51) (q := 54) (ax_dd KX10_place 69 rfl) f_X10_16 (hs 51 _ rfl) rfl ?_
          refine ax_iconst (pc := 114) (v := 3) (ax_dd KX10_place 70 rfl) (by decide) ?_
          refine ax_iload_n (pc := 115) (i := 1) (q := 1) (ax_dd KX10_place 71 rfl) rfl rfl ?_
          refine ax_imul (pc := 116) (ax_dd KX10_place 72 rfl) ?_
          refine ax_iload (pc := 117) (q := 9) (ax_dd KX10_place 73 rfl) rfl ?_
          obtain ⟨j9, b10, h⟩ := ob_bind h
          refine ax_ist (pc := 119) (k := 54) (N := 18) (j := j9) (ax_dd KX10_place 74 rfl) (hs 54 _ rfl) b10 ?_
          refine ax_aload_n (pc := 120) (i := 0) (q := 0) (ax_dd KX10_place 75 rfl) rfl rfl ?_
          refine ax_getR (pc := 121) (k := 51) (q := 54) (ax_dd KX10_place 76 rfl) f_X10_16 (hs 51 _ rfl) rfl ?_
          refine ax_iconst (pc := 124) (v := 3) (ax_dd KX10_place 77 rfl) (by decide) ?_
          refine ax_iload_n (pc := 125) (i := 1) (q := 1) (ax_dd KX10_place 78 rfl) rfl rfl ?_
          refine ax_imul (pc := 126) (ax_dd KX10_place 79 rfl) ?_
          refine ax_iconst (pc := 127) (v := 1) (ax_dd KX10_place 80 rfl) (by decide) ?_
          refine ax_iadd (pc := 128) (ax_dd KX10_place 81 rfl) ?_
          refine ax_iload (pc := 129) (q := 9) (ax_dd KX10_place 82 rfl) rfl ?_
          refine ax_iload (pc := 131) (q := 5) (ax_dd KX10_place 83 rfl) rfl ?_
          refine ax_iadd (pc := 133) (ax_dd KX10_place 84 rfl) ?_
          refine ax_bipush (pc := 134) (v := 6) (ax_dd KX10_place 85 rfl) (by decide) ?_
          refine ax_iload (pc := 136) (q := 6) (ax_dd KX10_place 86 rfl) rfl ?_
          refine ax_imul (pc := 138) (ax_dd KX10_place 87 rfl) ?_
          refine ax_iadd (pc := 139) (ax_dd KX10_place 88 rfl) ?_
          obtain ⟨j11, b12, h⟩ := ob_bind h
          refine ax_ist (pc := 140) (k := 54) (N := 18) (j := j11) (ax_dd KX10_place 89 rfl) (hs 54 _ rfl) b12 ?_
          refine ax_aload_n (pc := 141) (i := 0) (q := 0) (ax_dd KX10_place 90 rfl) rfl rfl ?_
          refine ax_iload_n (pc := 142) (i := 1) (q := 1) (ax_dd KX10_place 91 rfl) rfl rfl ?_
          obtain ⟨v13, μ15, b14, h⟩ := ob_bind2 h
          refine ax_kV (pc := 143) (ci := 10) (k := 51) (As := [.int x1]) (rest := []) (st1 := [.int v13]) (μ1 := μ15) (ax_dd KX10_place 92 rfl) (c_X10_ruledNow hs b14) kV_X10_204 e_X10_ruledNow (hs 51 _ rfl) cl_X10 (by decide) rfl rfl (by decide) (by decide) (Nat.le_of_ble_eq_true rfl) rfl ?_
          refine ax_istore (pc := 146) (lv' := [(10, .int v13), (0, .ref (G.1 + 51)), (1, .int x1), (2, .int x2), (3, .int x3), (4, .int x4), (5, .int x5), (6, .int x6), (7, .int x7), (8, .int x8), (9, .int x9)]) (ax_dd KX10_place 93 rfl) (by decide) rfl ?_
          refine ax_iload (pc := 148) (q := 8) (ax_dd KX10_place 94 rfl) rfl ?_
          refine ax_iconst (pc := 150) (v := (-1)) (ax_dd KX10_place 95 rfl) (by decide) ?_
          by_cases c16 : x7 = (-1)
          · rw [if_pos c16] at h
            refine ax_icmp_eq_t (pc := 151) (tgt := 161) (ax_dd KX10_place 96 rfl) (by decide) c16 ?_
            refine ax_iconst (pc := 161) (v := 1) (ax_dd KX10_place 100 rfl) (by decide) ?_
            refine ax_goto (pc := 162) (tgt := 166) (ax_dd KX10_place 101 rfl) (by decide) ?_
            refine ax_sub (lv' := [(0, .ref (G.1 + 51)), (1, .int x1), (2, .int x2), (3, .int x3), (4, .int x4), (5, .int x5), (6, .int x6), (7, .int x7), (8, .int x8), (9, .int x9), (10, .int v13)]) [1, 2, 3, 4, 5, 6, 7, 8, 9, 10, 0] rfl ?_
            exact a_X10_place_166 hs ih h
          · rw [if_neg c16] at h
            refine ax_icmp_eq_f (pc := 151) (tgt := 161) (ax_dd KX10_place 96 rfl) (by decide) c16 ?_
            refine ax_iload (pc := 154) (q := 0) (ax_dd KX10_place 97 rfl) rfl ?_
            refine ax_iload (pc := 156) (q := 9) (ax_dd KX10_place 98 rfl) rfl ?_
            by_cases c17 : v13 ≤ x8
            · rw [if_pos c17] at h
              refine ax_icmp_le_t (pc := 158) (tgt := 165) (ax_dd KX10_place 99 rfl) (by decide) c17 ?_
              refine ax_iconst (pc := 165) (v := 0) (ax_dd KX10_place 102 rfl) (by decide) ?_
              refine ax_sub (lv' := [(0, .ref (G.1 + 51)), (1, .int x1), (2, .int x2), (3, .int x3), (4, .int x4), (5, .int x5), (6, .int x6), (7, .int x7), (8, .int x8), (9, .int x9), (10, .int v13)]) [1, 2, 3, 4, 5, 6, 7, 8, 9, 10, 0] rfl ?_
              exact a_X10_place_166 hs ih h
            · rw [if_neg c17] at h
              refine ax_icmp_le_f (pc := 158) (tgt := 165) (ax_dd KX10_place 99 rfl) (by decide) c17 ?_
              refine ax_iconst (pc := 161) (v := 1) (ax_dd KX10_place 100 rfl) (by decide) ?_
              refine ax_goto (pc := 162) (tgt := 166) (ax_dd KX10_place 101 rfl) (by decide) ?_
              refine ax_sub (lv' := [(0, .ref (G.1 + 51)), (1, .int x1), (2, .int x2), (3, .int x3), (4, .int x4), (5, .int x5), (6, .int x6), (7, .int x7), (8, .int x8), (9, .int x9), (10, .int v13)]) [1, 2, 3, 4, 5, 6, 7, 8, 9, 10, 0] rfl ?_
              exact a_X10_place_166 hs ih h
def m_X10_place (x1 : Int32) (x2 : Int32) (μ : ax_M) : Option (Int32 × ax_M) :=
  (m_X10_isRug x1 μ).bind fun v1 =>
  if v1 = 0 then
    some ((-5), μ)
  else
    (m_X10_in x2 0 1 μ).bind fun v4 =>
    if v4 = 0 then
      some ((-7), μ)
    else
      (ix 18 ((3 : Int32) * x1)).bind fun j7 =>
      (ix 18 (((3 : Int32) * x1) + 1)).bind fun j9 =>
      m_X10_place_77 x1 x2 (μ 54 j7) (μ 54 j9) ((rmI (μ 54 j9) 6) - (rmI (μ 54 j7) 6)) (((μ 54 j9) / 6) - ((μ 54 j7) / 6)) fu (-1) 0 0 μ
set_option maxRecDepth 100000 in
set_option maxHeartbeats 8000000 in
theorem c_X10_place {G : ax_G} {l : Launch} {sh : List ax_E} {x1 : Int32} {x2 : Int32} {μ : ax_M} (hs : ∀ (k : Nat) (e : ax_E), SHF[k]? = some e → sh[k]? = some e) {v : Int32 × ax_M} (h : m_X10_place x1 x2 μ = some v) : ax_A G l yX10_place cX10_place 12 (some .int) 8 [.ref (G.1 + 51), .int x1, .int x2] sh μ (some (.int v.1), sh, v.2) := by
  refine ax_A.of false (by decide +kernel) (fun h9 => by cases h9) (Nat.le_of_ble_eq_true rfl) (?_ : ax_X G l RX10 cX10_place 12 (some .int) false 8 (some (.int v.1), sh, v.2) 0 [(0, .ref (G.1 + 51)), (1, .int x1), (2, .int x2)] [] sh μ)
  unfold m_X10_place at h
  refine ax_aload_n (pc := 0) (i := 0) (q := 0) (ax_dd KX10_place 0 rfl) rfl rfl ?_
  refine ax_iload_n (pc := 1) (i := 1) (q := 1) (ax_dd KX10_place 1 rfl) rfl rfl ?_
  obtain ⟨v1, b2, h⟩ := ob_bind h
  refine ax_kV (pc := 2) (ci := 10) (k := 51) (As := [.int x1]) (rest := []) (st1 := [.int v1]) (μ1 := μ) (ax_dd KX10_place 2 rfl) (c_X10_isRug hs b2) kV_X10_167 e_X10_isRug (hs 51 _ rfl) cl_X10 (by decide) rfl rfl (by decide) (by decide) (Nat.le_of_ble_eq_true rfl) rfl ?_
  by_cases c3 : v1 = 0
  · rw [if_pos c3] at h
    refine ax_if_ne_f (pc := 5) (tgt := 11) (ax_dd KX10_place 3 rfl) (by decide) (fun z => z c3) ?_
    refine ax_bipush (pc := 8) (v := (-5)) (ax_dd KX10_place 4 rfl) (by decide) ?_
    obtain rfl := Option.some.inj h
    exact ax_ireti (pc := 10) (ax_dd KX10_place 5 rfl) ⟨_, rfl, rfl⟩ rfl
  · rw [if_neg c3] at h
    refine ax_if_ne_t (pc := 5) (tgt := 11) (ax_dd KX10_place 3 rfl) (by decide) c3 ?_
    refine ax_iload_n (pc := 11) (i := 2) (q := 2) (ax_dd KX10_place 6 rfl) rfl rfl ?_
    refine ax_iconst (pc := 12) (v := 0) (ax_dd KX10_place 7 rfl) (by decide) ?_
    refine ax_iconst (pc := 13) (v := 1) (ax_dd KX10_place 8 rfl) (by decide) ?_
    obtain ⟨v4, b5, h⟩ := ob_bind h
    refine ax_kS (pc := 14) (As := [.int x2, .int 0, .int 1]) (rest := []) (st1 := [.int v4]) (μ1 := μ) (ax_dd KX10_place 9 rfl) (c_X10_in hs b5) kS_X10_81 e_X10_in rfl rfl (by decide) (by decide) (Nat.le_of_ble_eq_true rfl) rfl ?_
    by_cases c6 : v4 = 0
    · rw [if_pos c6] at h
      refine ax_if_ne_f (pc := 17) (tgt := 23) (ax_dd KX10_place 10 rfl) (by decide) (fun z => z c6) ?_
      refine ax_bipush (pc := 20) (v := (-7)) (ax_dd KX10_place 11 rfl) (by decide) ?_
      obtain rfl := Option.some.inj h
      exact ax_ireti (pc := 22) (ax_dd KX10_place 12 rfl) ⟨_, rfl, rfl⟩ rfl
    · rw [if_neg c6] at h
      refine ax_if_ne_t (pc := 17) (tgt := 23) (ax_dd KX10_place 10 rfl) (by decide) c6 ?_
      refine ax_aload_n (pc := 23) (i := 0) (q := 0) (ax_dd KX10_place 13 rfl) rfl rfl ?_
      refine ax_getR (pc := 24) (k := 51) (q := 54) (ax_dd KX10_place 14 rfl) f_X10_16 (hs 51 _ rfl) rfl ?_
      refine ax_iconst (pc := 27) (v := 3) (ax_dd KX10_place 15 rfl) (by decide) ?_
      refine ax_iload_n (pc := 28) (i := 1) (q := 1) (ax_dd KX10_place 16 rfl) rfl rfl ?_
      refine ax_imul (pc := 29) (ax_dd KX10_place 17 rfl) ?_
      obtain ⟨j7, b8, h⟩ := ob_bind h
      refine ax_ild (pc := 30) (k := 54) (N := 18) (j := j7) (ax_dd KX10_place 18 rfl) (hs 54 _ rfl) b8 ?_
      refine ax_istore_n (pc := 31) (i := 3) (lv' := [(3, .int (μ 54 j7)), (0, .ref (G.1 + 51)), (1, .int x1), (2, .int x2)]) (ax_dd KX10_place 19 rfl) rfl (by decide) rfl ?_
      refine ax_aload_n (pc := 32) (i := 0) (q := 1) (ax_dd KX10_place 20 rfl) rfl rfl ?_
      refine ax_getR (pc := 33) (k := 51) (q := 54) (ax_dd KX10_place 21 rfl) f_X10_16 (hs 51 _ rfl) rfl ?_
      refine ax_iconst (pc := 36) (v := 3) (ax_dd KX10_place 22 rfl) (by decide) ?_
      refine ax_iload_n (pc := 37) (i := 1) (q := 2) (ax_dd KX10_place 23 rfl) rfl rfl ?_
      refine ax_imul (pc := 38) (ax_dd KX10_place 24 rfl) ?_
      refine ax_iconst (pc := 39) (v := 1) (ax_dd KX10_place 25 rfl) (by decide) ?_
      refine ax_iadd (pc := 40) (ax_dd KX10_place 26 rfl) ?_
      obtain ⟨j9, b10, h⟩ := ob_bind h
      refine ax_ild (pc := 41) (k := 54) (N := 18) (j := j9) (ax_dd KX10_place 27 rfl) (hs 54 _ rfl) b10 ?_
      refine ax_istore (pc := 42) (lv' := [(4, .int (μ 54 j9)), (3, .int (μ 54 j7)), (0, .ref (G.1 + 51)), (1, .int x1), (2, .int x2)]) (ax_dd KX10_place 28 rfl) (by decide) rfl ?_
      refine ax_iload (pc := 44) (q := 0) (ax_dd KX10_place 29 rfl) rfl ?_
      refine ax_bipush (pc := 46) (v := 6) (ax_dd KX10_place 30 rfl) (by decide) ?_
      refine ax_irem (pc := 48) (ax_dd KX10_place 31 rfl) (by decide) ?_
      refine ax_iload_n (pc := 49) (i := 3) (q := 1) (ax_dd KX10_place 32 rfl) rfl rfl ?_
      refine ax_bipush (pc := 50) (v := 6) (ax_dd KX10_place 33 rfl) (by decide) ?_
      refine ax_irem (pc := 52) (ax_dd KX10_place 34 rfl) (by decide) ?_
      refine ax_isub (pc := 53) (ax_dd KX10_place 35 rfl) ?_
      refine ax_istore (pc := 54) (lv' := [(5, .int ((rmI (μ 54 j9) 6) - (rmI (μ 54 j7) 6))), (4, .int (μ 54 j9)), (3, .int (μ 54 j7)), (0, .ref (G.1 + 51)), (1, .int x1), (2, .int x2)]) (ax_dd KX10_place 36 rfl) (by decide) rfl ?_
      refine ax_iload (pc := 56) (q := 1) (ax_dd KX10_place 37 rfl) rfl ?_
      refine ax_bipush (pc := 58) (v := 6) (ax_dd KX10_place 38 rfl) (by decide) ?_
      refine ax_idiv (pc := 60) (ax_dd KX10_place 39 rfl) (by decide) ?_
      refine ax_iload_n (pc := 61) (i := 3) (q := 2) (ax_dd KX10_place 40 rfl) rfl rfl ?_
      refine ax_bipush (pc := 62) (v := 6) (ax_dd KX10_place 41 rfl) (by decide) ?_
      refine ax_idiv (pc := 64) (ax_dd KX10_place 42 rfl) (by decide) ?_
      refine ax_isub (pc := 65) (ax_dd KX10_place 43 rfl) ?_
      refine ax_istore (pc := 66) (lv' := [(6, .int (((μ 54 j9) / 6) - ((μ 54 j7) / 6))), (5, .int ((rmI (μ 54 j9) 6) - (rmI (μ 54 j7) 6))), (4, .int (μ 54 j9)), (3, .int (μ 54 j7)), (0, .ref (G.1 + 51)), (1, .int x1), (2, .int x2)]) (ax_dd KX10_place 44 rfl) (by decide) rfl ?_
      refine ax_iconst (pc := 68) (v := (-1)) (ax_dd KX10_place 45 rfl) (by decide) ?_
      refine ax_istore (pc := 69) (lv' := [(7, .int (-1)), (6, .int (((μ 54 j9) / 6) - ((μ 54 j7) / 6))), (5, .int ((rmI (μ 54 j9) 6) - (rmI (μ 54 j7) 6))), (4, .int (μ 54 j9)), (3, .int (μ 54 j7)), (0, .ref (G.1 + 51)), (1, .int x1), (2, .int x2)]) (ax_dd KX10_place 46 rfl) (by decide) rfl ?_
      refine ax_iconst (pc := 71) (v := 0) (ax_dd KX10_place 47 rfl) (by decide) ?_
      refine ax_istore (pc := 72) (lv' := [(8, .int 0), (7, .int (-1)), (6, .int (((μ 54 j9) / 6) - ((μ 54 j7) / 6))), (5, .int ((rmI (μ 54 j9) 6) - (rmI (μ 54 j7) 6))), (4, .int (μ 54 j9)), (3, .int (μ 54 j7)), (0, .ref (G.1 + 51)), (1, .int x1), (2, .int x2)]) (ax_dd KX10_place 48 rfl) (by decide) rfl ?_
      refine ax_iconst (pc := 74) (v := 0) (ax_dd KX10_place 49 rfl) (by decide) ?_
      refine ax_istore (pc := 75) (lv' := [(9, .int 0), (8, .int 0), (7, .int (-1)), (6, .int (((μ 54 j9) / 6) - ((μ 54 j7) / 6))), (5, .int ((rmI (μ 54 j9) 6) - (rmI (μ 54 j7) 6))), (4, .int (μ 54 j9)), (3, .int (μ 54 j7)), (0, .ref (G.1 + 51)), (1, .int x1), (2, .int x2)]) (ax_dd KX10_place 50 rfl) (by decide) rfl ?_
      refine ax_sub (lv' := [(0, .ref (G.1 + 51)), (1, .int x1), (2, .int x2), (3, .int (μ 54 j7)), (4, .int (μ 54 j9)), (5, .int ((rmI (μ 54 j9) 6) - (rmI (μ 54 j7) 6))), (6, .int (((μ 54 j9) / 6) - ((μ 54 j7) / 6))), (7, .int (-1)), (8, .int 0), (9, .int 0)]) [7, 8, 9, 6, 5, 4, 3, 2, 1, 0] rfl ?_
      exact a_X10_place_77 hs fu _ _ _ _ _ h
def m_X10_finedAll_9 : Nat → Int32 → Int32 → ax_M → Option (Int32 × ax_M)
  | 0, _, _, _ => none
  | n + 1, x2, x3, μ =>
    if 36 ≤ x3 then
      some (x2, μ)
    else
      bind2 (m_X10_finedAt x3 μ) fun v2 μ4 =>
      m_X10_finedAll_9 n (x2 + v2) (x3 + 1) μ4
set_option maxRecDepth 100000 in
set_option maxHeartbeats 8000000 in
theorem a_X10_finedAll_9 {G : ax_G} {l : Launch} {sh : List ax_E} (hs : ∀ (k : Nat) (e : ax_E), SHF[k]? = some e → sh[k]? = some e) : ∀ (n : Nat) (x2 : Int32) (x3 : Int32) (μ : ax_M) (v : Int32 × ax_M), m_X10_finedAll_9 n x2 x3 μ = some v → ax_X G l RX10 cX10_finedAll 4 (some .int) false 7 (some (.int v.1), sh, v.2) 9 [(0, .ref (G.1 + 51)), (2, .int x2), (3, .int x3)] [] sh μ := by
  intro n
  induction n with
  | zero =>
    intro x2 x3 μ v h
    rw [m_X10_finedAll_9] at h
    cases h
  | succ n ih =>
    intro x2 x3 μ v h
    rw [m_X10_finedAll_9] at h
    refine ax_iload_n (pc := 9) (i := 3) (q := 2) (ax_dd KX10_finedAll 7 rfl) rfl rfl ?_
    refine ax_bipush (pc := 10) (v := 36) (ax_dd KX10_finedAll 8 rfl) (by decide) ?_
    by_cases c1 : 36 ≤ x3
    · rw [if_pos c1] at h
      refine ax_icmp_ge_t (pc := 12) (tgt := 29) (ax_dd KX10_finedAll 9 rfl) (by decide) c1 ?_
      refine ax_iload_n (pc := 29) (i := 2) (q := 1) (ax_dd KX10_finedAll 18 rfl) rfl rfl ?_
      obtain rfl := Option.some.inj h
      exact ax_ireti (pc := 30) (ax_dd KX10_finedAll 19 rfl) ⟨_, rfl, rfl⟩ rfl
    · rw [if_neg c1] at h
      refine ax_icmp_ge_f (pc := 12) (tgt := 29) (ax_dd KX10_finedAll 9 rfl) (by decide) c1 ?_
      refine ax_iload_n (pc := 15) (i := 2) (q := 1) (ax_dd KX10_finedAll 10 rfl) rfl rfl ?_
      refine ax_aload_n (pc := 16) (i := 0) (q := 0) (ax_dd KX10_finedAll 11 rfl) rfl rfl ?_
      refine ax_iload_n (pc := 17) (i := 3) (q := 2) (ax_dd KX10_finedAll 12 rfl) rfl rfl ?_
      obtain ⟨v2, μ4, b3, h⟩ := ob_bind2 h
      refine ax_kV (pc := 18) (ci := 10) (k := 51) (As := [.int x3]) (rest := [.int x2]) (st1 := [.int v2, .int x2]) (μ1 := μ4) (ax_dd KX10_finedAll 13 rfl) (c_X10_finedAt hs b3) kV_X10_207 e_X10_finedAt (hs 51 _ rfl) cl_X10 (by decide) rfl rfl (by decide) (by decide) (Nat.le_of_ble_eq_true rfl) rfl ?_
      refine ax_iadd (pc := 21) (ax_dd KX10_finedAll 14 rfl) ?_
      refine ax_istore_n (pc := 22) (i := 2) (lv' := [(2, .int (x2 + v2)), (0, .ref (G.1 + 51)), (3, .int x3)]) (ax_dd KX10_finedAll 15 rfl) rfl (by decide) rfl ?_
      refine ax_iinc (pc := 23) (q := 2) (v := (x3 + 1)) (lv' := [(3, .int (x3 + 1)), (2, .int (x2 + v2)), (0, .ref (G.1 + 51))]) (ax_dd KX10_finedAll 16 rfl) rfl rfl (by decide) rfl ?_
      refine ax_goto (pc := 26) (tgt := 9) (ax_dd KX10_finedAll 17 rfl) (by decide) ?_
      refine ax_sub (lv' := [(0, .ref (G.1 + 51)), (2, .int (x2 + v2)), (3, .int (x3 + 1))]) [2, 1, 0] rfl ?_
      exact ih _ _ _ _ h
def m_X10_finedAll (x1 : Int32) (μ : ax_M) : Option (Int32 × ax_M) :=
  (m_X10_rulesBut x1 μ).bind fun μ3 =>
  m_X10_finedAll_9 fu 0 0 μ3
set_option maxRecDepth 100000 in
set_option maxHeartbeats 8000000 in
theorem c_X10_finedAll {G : ax_G} {l : Launch} {sh : List ax_E} {x1 : Int32} {μ : ax_M} (hs : ∀ (k : Nat) (e : ax_E), SHF[k]? = some e → sh[k]? = some e) {v : Int32 × ax_M} (h : m_X10_finedAll x1 μ = some v) : ax_A G l yX10_finedAll cX10_finedAll 4 (some .int) 7 [.ref (G.1 + 51), .int x1] sh μ (some (.int v.1), sh, v.2) := by
  refine ax_A.of false (by decide +kernel) (fun h9 => by cases h9) (Nat.le_of_ble_eq_true rfl) (?_ : ax_X G l RX10 cX10_finedAll 4 (some .int) false 7 (some (.int v.1), sh, v.2) 0 [(0, .ref (G.1 + 51)), (1, .int x1)] [] sh μ)
  unfold m_X10_finedAll at h
  refine ax_aload_n (pc := 0) (i := 0) (q := 0) (ax_dd KX10_finedAll 0 rfl) rfl rfl ?_
  refine ax_iload_n (pc := 1) (i := 1) (q := 1) (ax_dd KX10_finedAll 1 rfl) rfl rfl ?_
  obtain ⟨μ3, b2, h⟩ := ob_bind h
  refine ax_kV (pc := 2) (ci := 10) (k := 51) (As := [.int x1]) (rest := []) (st1 := []) (μ1 := μ3) (ax_dd KX10_finedAll 2 rfl) (c_X10_rulesBut hs b2) kV_X10_198 e_X10_rulesBut (hs 51 _ rfl) cl_X10 (by decide) rfl rfl (by decide) (by decide) (Nat.le_of_ble_eq_true rfl) rfl ?_
  refine ax_iconst (pc := 5) (v := 0) (ax_dd KX10_finedAll 3 rfl) (by decide) ?_
  refine ax_istore_n (pc := 6) (i := 2) (lv' := [(2, .int 0), (0, .ref (G.1 + 51)), (1, .int x1)]) (ax_dd KX10_finedAll 4 rfl) rfl (by decide) rfl ?_
  refine ax_iconst (pc := 7) (v := 0) (ax_dd KX10_finedAll 5 rfl) (by decide) ?_
  refine ax_istore_n (pc := 8) (i := 3) (lv' := [(3, .int 0), (2, .int 0), (0, .ref (G.1 + 51)), (1, .int x1)]) (ax_dd KX10_finedAll 6 rfl) rfl (by decide) rfl ?_
  refine ax_sub (lv' := [(0, .ref (G.1 + 51)), (2, .int 0), (3, .int 0)]) [2, 1, 0] rfl ?_
  exact a_X10_finedAll_9 hs fu _ _ _ _ h
