def m_X10_rugsBy_64 (x1 : Int32) (x3 : Int32) (x4 : Int32) : Nat → Int32 → Int32 → ax_M → Option (Int32 × ax_M)
  | 0, _, _, _ => none
  | n + 1, x5, x6, μ =>
    if x4 ≤ x6 then
      some (x5, μ)
    else
      if x3 < 0 then
        some ((-12), μ)
      else
        if (x3 + ((2 : Int32) * x6)) < x3 then
          some ((-12), μ)
        else
          (ix 4 x1).bind fun j4 =>
          if (x3 + ((2 : Int32) * x6)) ≤ ((μ 61 j4) - 2) then
            (ix 160 (((40 : Int32) * x1) + (x3 + ((2 : Int32) * x6)))).bind fun j7 =>
            (ix 160 ((((40 : Int32) * x1) + (x3 + ((2 : Int32) * x6))) + 1)).bind fun j9 =>
            bind2 (m_X10_spread (μ 62 j7) (μ 62 j9) μ) fun v11 μ13 =>
            if v11 < 0 then
              m_X10_rugsBy_64 x1 x3 x4 n (x5 + 0) (x6 + 1) μ13
            else
              m_X10_rugsBy_64 x1 x3 x4 n (x5 + 1) (x6 + 1) μ13
          else
            some ((-12), μ)
set_option maxRecDepth 100000 in
set_option maxHeartbeats 8000000 in
theorem a_X10_rugsBy_64 {G : ax_G} {l : Launch} {sh : List ax_E} {x1 : Int32} {x3 : Int32} {x4 : Int32} (hs : ∀ (k : Nat) (e : ax_E), SHF[k]? = some e → sh[k]? = some e) : ∀ (n : Nat) (x5 : Int32) (x6 : Int32) (μ : ax_M) (v : Int32 × ax_M), m_X10_rugsBy_64 x1 x3 x4 n x5 x6 μ = some v → ax_X G l RX10 cX10_rugsBy 9 (some .int) false 5 (some (.int v.1), sh, v.2) 64 [(0, .ref (G.1 + 51)), (1, .int x1), (3, .int x3), (4, .int x4), (5, .int x5), (6, .int x6)] [] sh μ := by
  intro n
  induction n with
  | zero =>
    intro x5 x6 μ v h
    rw [m_X10_rugsBy_64] at h
    cases h
  | succ n ih =>
    intro x5 x6 μ v h
    rw [m_X10_rugsBy_64] at h
    refine ax_iload (pc := 64) (q := 5) (ax_dd KX10_rugsBy 37 rfl) rfl ?_
    refine ax_iload (pc := 66) (q := 3) (ax_dd KX10_rugsBy 38 rfl) rfl ?_
    by_cases c1 : x4 ≤ x6
    · rw [if_pos c1] at h
      refine ax_icmp_ge_t (pc := 68) (tgt := 153) (ax_dd KX10_rugsBy 39 rfl) (by decide) c1 ?_
      refine ax_iload (pc := 153) (q := 4) (ax_dd KX10_rugsBy 88 rfl) rfl ?_
      obtain rfl := Option.some.inj h
      exact ax_ireti (pc := 155) (ax_dd KX10_rugsBy 89 rfl) ⟨_, rfl, rfl⟩ rfl
    · rw [if_neg c1] at h
      refine ax_icmp_ge_f (pc := 68) (tgt := 153) (ax_dd KX10_rugsBy 39 rfl) (by decide) c1 ?_
      refine ax_iload_n (pc := 71) (i := 3) (q := 2) (ax_dd KX10_rugsBy 40 rfl) rfl rfl ?_
      refine ax_iconst (pc := 72) (v := 2) (ax_dd KX10_rugsBy 41 rfl) (by decide) ?_
      refine ax_iload (pc := 73) (q := 5) (ax_dd KX10_rugsBy 42 rfl) rfl ?_
      refine ax_imul (pc := 75) (ax_dd KX10_rugsBy 43 rfl) ?_
      refine ax_iadd (pc := 76) (ax_dd KX10_rugsBy 44 rfl) ?_
      refine ax_istore (pc := 77) (lv' := [(7, .int (x3 + ((2 : Int32) * x6))), (0, .ref (G.1 + 51)), (1, .int x1), (3, .int x3), (4, .int x4), (5, .int x5), (6, .int x6)]) (ax_dd KX10_rugsBy 45 rfl) (by decide) rfl ?_
      refine ax_iload_n (pc := 79) (i := 3) (q := 3) (ax_dd KX10_rugsBy 46 rfl) rfl rfl ?_
      by_cases c2 : x3 < 0
      · rw [if_pos c2] at h
        refine ax_if_lt_t (pc := 80) (tgt := 102) (ax_dd KX10_rugsBy 47 rfl) (by decide) c2 ?_
        refine ax_bipush (pc := 102) (v := (-12)) (ax_dd KX10_rugsBy 59 rfl) (by decide) ?_
        obtain rfl := Option.some.inj h
        exact ax_ireti (pc := 104) (ax_dd KX10_rugsBy 60 rfl) ⟨_, rfl, rfl⟩ rfl
      · rw [if_neg c2] at h
        refine ax_if_lt_f (pc := 80) (tgt := 102) (ax_dd KX10_rugsBy 47 rfl) (by decide) c2 ?_
        refine ax_iload (pc := 83) (q := 0) (ax_dd KX10_rugsBy 48 rfl) rfl ?_
        refine ax_iload_n (pc := 85) (i := 3) (q := 3) (ax_dd KX10_rugsBy 49 rfl) rfl rfl ?_
        by_cases c3 : (x3 + ((2 : Int32) * x6)) < x3
        · rw [if_pos c3] at h
          refine ax_icmp_lt_t (pc := 86) (tgt := 102) (ax_dd KX10_rugsBy 50 rfl) (by decide) c3 ?_
          refine ax_bipush (pc := 102) (v := (-12)) (ax_dd KX10_rugsBy 59 rfl) (by decide) ?_
          obtain rfl := Option.some.inj h
          exact ax_ireti (pc := 104) (ax_dd KX10_rugsBy 60 rfl) ⟨_, rfl, rfl⟩ rfl
        · rw [if_neg c3] at h
          refine ax_icmp_lt_f (pc := 86) (tgt := 102) (ax_dd KX10_rugsBy 50 rfl) (by decide) c3 ?_
          refine ax_iload (pc := 89) (q := 0) (ax_dd KX10_rugsBy 51 rfl) rfl ?_
          refine ax_aload_n (pc := 91) (i := 0) (q := 1) (ax_dd KX10_rugsBy 52 rfl) rfl rfl ?_
          refine ax_getR (pc := 92) (k := 51) (q := 61) (ax_dd KX10_rugsBy 53 rfl) f_X10_41 (hs 51 _ rfl) rfl ?_
          refine ax_iload_n (pc := 95) (i := 1) (q := 2) (ax_dd KX10_rugsBy 54 rfl) rfl rfl ?_
          obtain ⟨j4, b5, h⟩ := ob_bind h
          refine ax_ild (pc := 96) (k := 61) (N := 4) (j := j4) (ax_dd KX10_rugsBy 55 rfl) (hs 61 _ rfl) b5 ?_
          refine ax_iconst (pc := 97) (v := 2) (ax_dd KX10_rugsBy 56 rfl) (by decide) ?_
          refine ax_isub (pc := 98) (ax_dd KX10_rugsBy 57 rfl) ?_
          by_cases c6 : (x3 + ((2 : Int32) * x6)) ≤ ((μ 61 j4) - 2)
          · rw [if_pos c6] at h
            refine ax_icmp_le_t (pc := 99) (tgt := 105) (ax_dd KX10_rugsBy 58 rfl) (by decide) c6 ?_
            refine ax_bipush (pc := 105) (v := 40) (ax_dd KX10_rugsBy 61 rfl) (by decide) ?_
            refine ax_iload_n (pc := 107) (i := 1) (q := 2) (ax_dd KX10_rugsBy 62 rfl) rfl rfl ?_
            refine ax_imul (pc := 108) (ax_dd KX10_rugsBy 63 rfl) ?_
            refine ax_iload (pc := 109) (q := 0) (ax_dd KX10_rugsBy 64 rfl) rfl ?_
            refine ax_iadd (pc := 111) (ax_dd KX10_rugsBy 65 rfl) ?_
            refine ax_istore (pc := 112) (lv' := [(8, .int (((40 : Int32) * x1) + (x3 + ((2 : Int32) * x6)))), (7, .int (x3 + ((2 : Int32) * x6))), (0, .ref (G.1 + 51)), (1, .int x1), (3, .int x3), (4, .int x4), (5, .int x5), (6, .int x6)]) (ax_dd KX10_rugsBy 66 rfl) (by decide) rfl ?_
            refine ax_iload (pc := 114) (q := 6) (ax_dd KX10_rugsBy 67 rfl) rfl ?_
            refine ax_aload_n (pc := 116) (i := 0) (q := 2) (ax_dd KX10_rugsBy 68 rfl) rfl rfl ?_
            refine ax_aload_n (pc := 117) (i := 0) (q := 2) (ax_dd KX10_rugsBy 69 rfl) rfl rfl ?_
            refine ax_getR (pc := 118) (k := 51) (q := 62) (ax_dd KX10_rugsBy 70 rfl) f_X10_44 (hs 51 _ rfl) rfl ?_
            refine ax_iload (pc := 121) (q := 0) (ax_dd KX10_rugsBy 71 rfl) rfl ?_
            obtain ⟨j7, b8, h⟩ := ob_bind h
            refine ax_ild (pc := 123) (k := 62) (N := 160) (j := j7) (ax_dd KX10_rugsBy 72 rfl) (hs 62 _ rfl) b8 ?_
            refine ax_aload_n (pc := 124) (i := 0) (q := 2) (ax_dd KX10_rugsBy 73 rfl) rfl rfl ?_
            refine ax_getR (pc := 125) (k := 51) (q := 62) (ax_dd KX10_rugsBy 74 rfl) f_X10_44 (hs 51 _ rfl) rfl ?_
            refine ax_iload (pc := 128) (q := 0) (ax_dd KX10_rugsBy 75 rfl) rfl ?_
            refine ax_iconst (pc := 130) (v := 1) (ax_dd KX10_rugsBy 76 rfl) (by decide) ?_
            refine ax_iadd (pc := 131) (ax_dd KX10_rugsBy 77 rfl) ?_
            obtain ⟨j9, b10, h⟩ := ob_bind h
            refine ax_ild (pc := 132) (k := 62) (N := 160) (j := j9) (ax_dd KX10_rugsBy 78 rfl) (hs 62 _ rfl) b10 ?_
            obtain ⟨v11, μ13, b12, h⟩ := ob_bind2 h
            refine ax_kV (pc := 133) (ci := 10) (k := 51) (As := [.int (μ 62 j7), .int (μ 62 j9)]) (rest := [.int x5]) (st1 := [.int v11, .int x5]) (μ1 := μ13) (ax_dd KX10_rugsBy 79 rfl) (c_X10_spread hs b12) kV_X10_286 e_X10_spread (hs 51 _ rfl) cl_X10 (by decide) rfl rfl (by decide) (by decide) (Nat.le_of_ble_eq_true rfl) rfl ?_
            by_cases c14 : v11 < 0
            · rw [if_pos c14] at h
              refine ax_if_lt_t (pc := 136) (tgt := 143) (ax_dd KX10_rugsBy 80 rfl) (by decide) c14 ?_
              refine ax_iconst (pc := 143) (v := 0) (ax_dd KX10_rugsBy 83 rfl) (by decide) ?_
              refine ax_iadd (pc := 144) (ax_dd KX10_rugsBy 84 rfl) ?_
              refine ax_istore (pc := 145) (lv' := [(5, .int (x5 + 0)), (8, .int (((40 : Int32) * x1) + (x3 + ((2 : Int32) * x6)))), (7, .int (x3 + ((2 : Int32) * x6))), (0, .ref (G.1 + 51)), (1, .int x1), (3, .int x3), (4, .int x4), (6, .int x6)]) (ax_dd KX10_rugsBy 85 rfl) (by decide) rfl ?_
              refine ax_iinc (pc := 147) (q := 7) (v := (x6 + 1)) (lv' := [(6, .int (x6 + 1)), (5, .int (x5 + 0)), (8, .int (((40 : Int32) * x1) + (x3 + ((2 : Int32) * x6)))), (7, .int (x3 + ((2 : Int32) * x6))), (0, .ref (G.1 + 51)), (1, .int x1), (3, .int x3), (4, .int x4)]) (ax_dd KX10_rugsBy 86 rfl) rfl rfl (by decide) rfl ?_
              refine ax_goto (pc := 150) (tgt := 64) (ax_dd KX10_rugsBy 87 rfl) (by decide) ?_
              refine ax_sub (lv' := [(0, .ref (G.1 + 51)), (1, .int x1), (3, .int x3), (4, .int x4), (5, .int (x5 + 0)), (6, .int (x6 + 1))]) [4, 5, 6, 7, 1, 0] rfl ?_
              exact ih _ _ _ _ h
            · rw [if_neg c14] at h
              refine ax_if_lt_f (pc := 136) (tgt := 143) (ax_dd KX10_rugsBy 80 rfl) (by decide) c14 ?_
              refine ax_iconst (pc := 139) (v := 1) (ax_dd KX10_rugsBy 81 rfl) (by decide) ?_
              refine ax_goto (pc := 140) (tgt := 144) (ax_dd KX10_rugsBy 82 rfl) (by decide) ?_
              refine ax_iadd (pc := 144) (ax_dd KX10_rugsBy 84 rfl) ?_
              refine ax_istore (pc := 145) (lv' := [(5, .int (x5 + 1)), (8, .int (((40 : Int32) * x1) + (x3 + ((2 : Int32) * x6)))), (7, .int (x3 + ((2 : Int32) * x6))), (0, .ref (G.1 + 51)), (1, .int x1), (3, .int x3), (4, .int x4), (6, .int x6)]) (ax_dd KX10_rugsBy 85 rfl) (by decide) rfl ?_
              refine ax_iinc (pc := 147) (q := 7) (v := (x6 + 1)) (lv' := [(6, .int (x6 + 1)), (5, .int (x5 + 1)), (8, .int (((40 : Int32) * x1) + (x3 + ((2 : Int32) * x6)))), (7, .int (x3 + ((2 : Int32) * x6))), (0, .ref (G.1 + 51)), (1, .int x1), (3, .int x3), (4, .int x4)]) (ax_dd KX10_rugsBy 86 rfl) rfl rfl (by decide) rfl ?_
              refine ax_goto (pc := 150) (tgt := 64) (ax_dd KX10_rugsBy 87 rfl) (by decide) ?_
              refine ax_sub (lv' := [(0, .ref (G.1 + 51)), (1, .int x1), (3, .int x3), (4, .int x4), (5, .int (x5 + 1)), (6, .int (x6 + 1))]) [4, 5, 6, 7, 1, 0] rfl ?_
              exact ih _ _ _ _ h
          · rw [if_neg c6] at h
            refine ax_icmp_le_f (pc := 99) (tgt := 105) (ax_dd KX10_rugsBy 58 rfl) (by decide) c6 ?_
            refine ax_bipush (pc := 102) (v := (-12)) (ax_dd KX10_rugsBy 59 rfl) (by decide) ?_
            obtain rfl := Option.some.inj h
            exact ax_ireti (pc := 104) (ax_dd KX10_rugsBy 60 rfl) ⟨_, rfl, rfl⟩ rfl
def m_X10_rugsBy (x1 : Int32) (x2 : Int32) (x3 : Int32) (x4 : Int32) (μ : ax_M) : Option (Int32 × ax_M) :=
  (m_X10_in x1 0 3 μ).bind fun v1 =>
  if v1 = 0 then
    some ((-2), μ)
  else
    (m_X10_in x2 0 2 μ).bind fun v4 =>
    if v4 = 0 then
      some ((-2), μ)
    else
      (m_X10_in x4 0 6 μ).bind fun v7 =>
      if v7 = 0 then
        some ((-2), μ)
      else
        (ix 4 x1).bind fun j10 =>
        if (μ 60 j10) = (-1) then
          some ((-11), μ)
        else
          (ix 4 x1).bind fun j13 =>
          if (μ 60 j13) = x2 then
            m_X10_rugsBy_64 x1 x3 x4 fu 0 0 μ
          else
            some ((-13), μ)
set_option maxRecDepth 100000 in
set_option maxHeartbeats 8000000 in
theorem c_X10_rugsBy {G : ax_G} {l : Launch} {sh : List ax_E} {x1 : Int32} {x2 : Int32} {x3 : Int32} {x4 : Int32} {μ : ax_M} (hs : ∀ (k : Nat) (e : ax_E), SHF[k]? = some e → sh[k]? = some e) {v : Int32 × ax_M} (h : m_X10_rugsBy x1 x2 x3 x4 μ = some v) : ax_A G l yX10_rugsBy cX10_rugsBy 9 (some .int) 5 [.ref (G.1 + 51), .int x1, .int x2, .int x3, .int x4] sh μ (some (.int v.1), sh, v.2) := by
  refine ax_A.of false (by decide +kernel) (fun h9 => by cases h9) (Nat.le_of_ble_eq_true rfl) (?_ : ax_X G l RX10 cX10_rugsBy 9 (some .int) false 5 (some (.int v.1), sh, v.2) 0 [(0, .ref (G.1 + 51)), (1, .int x1), (2, .int x2), (3, .int x3), (4, .int x4)] [] sh μ)
  unfold m_X10_rugsBy at h
  refine ax_iload_n (pc := 0) (i := 1) (q := 1) (ax_dd KX10_rugsBy 0 rfl) rfl rfl ?_
  refine ax_iconst (pc := 1) (v := 0) (ax_dd KX10_rugsBy 1 rfl) (by decide) ?_
  refine ax_iconst (pc := 2) (v := 3) (ax_dd KX10_rugsBy 2 rfl) (by decide) ?_
  obtain ⟨v1, b2, h⟩ := ob_bind h
  refine ax_kS (pc := 3) (As := [.int x1, .int 0, .int 3]) (rest := []) (st1 := [.int v1]) (μ1 := μ) (ax_dd KX10_rugsBy 3 rfl) (c_X10_in hs b2) kS_X10_81 e_X10_in rfl rfl (by decide) (by decide) (Nat.le_of_ble_eq_true rfl) rfl ?_
  by_cases c3 : v1 = 0
  · rw [if_pos c3] at h
    refine ax_if_eq_t (pc := 6) (tgt := 29) (ax_dd KX10_rugsBy 4 rfl) (by decide) c3 ?_
    refine ax_bipush (pc := 29) (v := (-2)) (ax_dd KX10_rugsBy 15 rfl) (by decide) ?_
    obtain rfl := Option.some.inj h
    exact ax_ireti (pc := 31) (ax_dd KX10_rugsBy 16 rfl) ⟨_, rfl, rfl⟩ rfl
  · rw [if_neg c3] at h
    refine ax_if_eq_f (pc := 6) (tgt := 29) (ax_dd KX10_rugsBy 4 rfl) (by decide) c3 ?_
    refine ax_iload_n (pc := 9) (i := 2) (q := 2) (ax_dd KX10_rugsBy 5 rfl) rfl rfl ?_
    refine ax_iconst (pc := 10) (v := 0) (ax_dd KX10_rugsBy 6 rfl) (by decide) ?_
    refine ax_iconst (pc := 11) (v := 2) (ax_dd KX10_rugsBy 7 rfl) (by decide) ?_
    obtain ⟨v4, b5, h⟩ := ob_bind h
    refine ax_kS (pc := 12) (As := [.int x2, .int 0, .int 2]) (rest := []) (st1 := [.int v4]) (μ1 := μ) (ax_dd KX10_rugsBy 8 rfl) (c_X10_in hs b5) kS_X10_81 e_X10_in rfl rfl (by decide) (by decide) (Nat.le_of_ble_eq_true rfl) rfl ?_
    by_cases c6 : v4 = 0
    · rw [if_pos c6] at h
      refine ax_if_eq_t (pc := 15) (tgt := 29) (ax_dd KX10_rugsBy 9 rfl) (by decide) c6 ?_
      refine ax_bipush (pc := 29) (v := (-2)) (ax_dd KX10_rugsBy 15 rfl) (by decide) ?_
      obtain rfl := Option.some.inj h
      exact ax_ireti (pc := 31) (ax_dd KX10_rugsBy 16 rfl) ⟨_, rfl, rfl⟩ rfl
    · rw [if_neg c6] at h
      refine ax_if_eq_f (pc := 15) (tgt := 29) (ax_dd KX10_rugsBy 9 rfl) (by decide) c6 ?_
      refine ax_iload (pc := 18) (q := 4) (ax_dd KX10_rugsBy 10 rfl) rfl ?_
      refine ax_iconst (pc := 20) (v := 0) (ax_dd KX10_rugsBy 11 rfl) (by decide) ?_
      refine ax_bipush (pc := 21) (v := 6) (ax_dd KX10_rugsBy 12 rfl) (by decide) ?_
      obtain ⟨v7, b8, h⟩ := ob_bind h
      refine ax_kS (pc := 23) (As := [.int x4, .int 0, .int 6]) (rest := []) (st1 := [.int v7]) (μ1 := μ) (ax_dd KX10_rugsBy 13 rfl) (c_X10_in hs b8) kS_X10_81 e_X10_in rfl rfl (by decide) (by decide) (Nat.le_of_ble_eq_true rfl) rfl ?_
      by_cases c9 : v7 = 0
      · rw [if_pos c9] at h
        refine ax_if_ne_f (pc := 26) (tgt := 32) (ax_dd KX10_rugsBy 14 rfl) (by decide) (fun z => z c9) ?_
        refine ax_bipush (pc := 29) (v := (-2)) (ax_dd KX10_rugsBy 15 rfl) (by decide) ?_
        obtain rfl := Option.some.inj h
        exact ax_ireti (pc := 31) (ax_dd KX10_rugsBy 16 rfl) ⟨_, rfl, rfl⟩ rfl
      · rw [if_neg c9] at h
        refine ax_if_ne_t (pc := 26) (tgt := 32) (ax_dd KX10_rugsBy 14 rfl) (by decide) c9 ?_
        refine ax_aload_n (pc := 32) (i := 0) (q := 0) (ax_dd KX10_rugsBy 17 rfl) rfl rfl ?_
        refine ax_getR (pc := 33) (k := 51) (q := 60) (ax_dd KX10_rugsBy 18 rfl) f_X10_38 (hs 51 _ rfl) rfl ?_
        refine ax_iload_n (pc := 36) (i := 1) (q := 1) (ax_dd KX10_rugsBy 19 rfl) rfl rfl ?_
        obtain ⟨j10, b11, h⟩ := ob_bind h
        refine ax_ild (pc := 37) (k := 60) (N := 4) (j := j10) (ax_dd KX10_rugsBy 20 rfl) (hs 60 _ rfl) b11 ?_
        refine ax_iconst (pc := 38) (v := (-1)) (ax_dd KX10_rugsBy 21 rfl) (by decide) ?_
        by_cases c12 : (μ 60 j10) = (-1)
        · rw [if_pos c12] at h
          refine ax_icmp_ne_f (pc := 39) (tgt := 45) (ax_dd KX10_rugsBy 22 rfl) (by decide) (fun z => z c12) ?_
          refine ax_bipush (pc := 42) (v := (-11)) (ax_dd KX10_rugsBy 23 rfl) (by decide) ?_
          obtain rfl := Option.some.inj h
          exact ax_ireti (pc := 44) (ax_dd KX10_rugsBy 24 rfl) ⟨_, rfl, rfl⟩ rfl
        · rw [if_neg c12] at h
          refine ax_icmp_ne_t (pc := 39) (tgt := 45) (ax_dd KX10_rugsBy 22 rfl) (by decide) c12 ?_
          refine ax_aload_n (pc := 45) (i := 0) (q := 0) (ax_dd KX10_rugsBy 25 rfl) rfl rfl ?_
          refine ax_getR (pc := 46) (k := 51) (q := 60) (ax_dd KX10_rugsBy 26 rfl) f_X10_38 (hs 51 _ rfl) rfl ?_
          refine ax_iload_n (pc := 49) (i := 1) (q := 1) (ax_dd KX10_rugsBy 27 rfl) rfl rfl ?_
          obtain ⟨j13, b14, h⟩ := ob_bind h
          refine ax_ild (pc := 50) (k := 60) (N := 4) (j := j13) (ax_dd KX10_rugsBy 28 rfl) (hs 60 _ rfl) b14 ?_
          refine ax_iload_n (pc := 51) (i := 2) (q := 2) (ax_dd KX10_rugsBy 29 rfl) rfl rfl ?_
          by_cases c15 : (μ 60 j13) = x2
          · rw [if_pos c15] at h
            refine ax_icmp_eq_t (pc := 52) (tgt := 58) (ax_dd KX10_rugsBy 30 rfl) (by decide) c15 ?_
            refine ax_iconst (pc := 58) (v := 0) (ax_dd KX10_rugsBy 33 rfl) (by decide) ?_
            refine ax_istore (pc := 59) (lv' := [(5, .int 0), (0, .ref (G.1 + 51)), (1, .int x1), (2, .int x2), (3, .int x3), (4, .int x4)]) (ax_dd KX10_rugsBy 34 rfl) (by decide) rfl ?_
            refine ax_iconst (pc := 61) (v := 0) (ax_dd KX10_rugsBy 35 rfl) (by decide) ?_
            refine ax_istore (pc := 62) (lv' := [(6, .int 0), (5, .int 0), (0, .ref (G.1 + 51)), (1, .int x1), (2, .int x2), (3, .int x3), (4, .int x4)]) (ax_dd KX10_rugsBy 36 rfl) (by decide) rfl ?_
            refine ax_sub (lv' := [(0, .ref (G.1 + 51)), (1, .int x1), (3, .int x3), (4, .int x4), (5, .int 0), (6, .int 0)]) [2, 3, 5, 6, 1, 0] rfl ?_
            exact a_X10_rugsBy_64 hs fu _ _ _ _ h
          · rw [if_neg c15] at h
            refine ax_icmp_eq_f (pc := 52) (tgt := 58) (ax_dd KX10_rugsBy 30 rfl) (by decide) c15 ?_
            refine ax_bipush (pc := 55) (v := (-13)) (ax_dd KX10_rugsBy 31 rfl) (by decide) ?_
            obtain rfl := Option.some.inj h
            exact ax_ireti (pc := 57) (ax_dd KX10_rugsBy 32 rfl) ⟨_, rfl, rfl⟩ rfl
def m_X10_isUnder_19 (x0 : Int32) (x1 : Int32) (μ : ax_M) : Option (Int32) :=
  if x1 = 2 then
    if x0 = 4 then
      some 1
    else
      some 0
  else
    some 0
set_option maxRecDepth 100000 in
set_option maxHeartbeats 8000000 in
theorem a_X10_isUnder_19 {G : ax_G} {l : Launch} {sh : List ax_E} {x0 : Int32} {x1 : Int32} {μ : ax_M} (hs : ∀ (k : Nat) (e : ax_E), SHF[k]? = some e → sh[k]? = some e) {v : Int32} (h : m_X10_isUnder_19 x0 x1 μ = some v) : ax_X G l RX10 cX10_isUnder 2 (some .boolean) false 2 (some (.int v), sh, μ) 19 [(0, .int x0), (1, .int x1)] [] sh μ := by
  unfold m_X10_isUnder_19 at h
  refine ax_iload_n (pc := 19) (i := 1) (q := 1) (ax_dd KX10_isUnder 11 rfl) rfl rfl ?_
  refine ax_iconst (pc := 20) (v := 2) (ax_dd KX10_isUnder 12 rfl) (by decide) ?_
  by_cases c1 : x1 = 2
  · rw [if_pos c1] at h
    refine ax_icmp_ne_f (pc := 21) (tgt := 33) (ax_dd KX10_isUnder 13 rfl) (by decide) (fun z => z c1) ?_
    refine ax_iload_n (pc := 24) (i := 0) (q := 0) (ax_dd KX10_isUnder 14 rfl) rfl rfl ?_
    refine ax_iconst (pc := 25) (v := 4) (ax_dd KX10_isUnder 15 rfl) (by decide) ?_
    by_cases c2 : x0 = 4
    · rw [if_pos c2] at h
      refine ax_icmp_ne_f (pc := 26) (tgt := 33) (ax_dd KX10_isUnder 16 rfl) (by decide) (fun z => z c2) ?_
      refine ax_iconst (pc := 29) (v := 1) (ax_dd KX10_isUnder 17 rfl) (by decide) ?_
      refine ax_goto (pc := 30) (tgt := 34) (ax_dd KX10_isUnder 18 rfl) (by decide) ?_
      obtain rfl := Option.some.inj h
      exact ax_ireti (pc := 34) (ax_dd KX10_isUnder 20 rfl) ⟨_, rfl, rfl⟩ rfl
    · rw [if_neg c2] at h
      refine ax_icmp_ne_t (pc := 26) (tgt := 33) (ax_dd KX10_isUnder 16 rfl) (by decide) c2 ?_
      refine ax_iconst (pc := 33) (v := 0) (ax_dd KX10_isUnder 19 rfl) (by decide) ?_
      obtain rfl := Option.some.inj h
      exact ax_ireti (pc := 34) (ax_dd KX10_isUnder 20 rfl) ⟨_, rfl, rfl⟩ rfl
  · rw [if_neg c1] at h
    refine ax_icmp_ne_t (pc := 21) (tgt := 33) (ax_dd KX10_isUnder 13 rfl) (by decide) c1 ?_
    refine ax_iconst (pc := 33) (v := 0) (ax_dd KX10_isUnder 19 rfl) (by decide) ?_
    obtain rfl := Option.some.inj h
    exact ax_ireti (pc := 34) (ax_dd KX10_isUnder 20 rfl) ⟨_, rfl, rfl⟩ rfl
def m_X10_isUnder (x0 : Int32) (x1 : Int32) (μ : ax_M) : Option (Int32) :=
  if x1 = 0 then
    some 1
  else
    if x0 = x1 then
      some 1
    else
      if x1 = 1 then
        if x0 = 3 then
          some 1
        else
          m_X10_isUnder_19 x0 x1 μ
      else
        m_X10_isUnder_19 x0 x1 μ
set_option maxRecDepth 100000 in
set_option maxHeartbeats 8000000 in
theorem c_X10_isUnder {G : ax_G} {l : Launch} {sh : List ax_E} {x0 : Int32} {x1 : Int32} {μ : ax_M} (hs : ∀ (k : Nat) (e : ax_E), SHF[k]? = some e → sh[k]? = some e) {v : Int32} (h : m_X10_isUnder x0 x1 μ = some v) : ax_A G l yX10_isUnder cX10_isUnder 2 (some .boolean) 2 [.int x0, .int x1] sh μ (some (.int v), sh, μ) := by
  refine ax_A.of false (by decide +kernel) (fun h9 => by cases h9) (Nat.le_of_ble_eq_true rfl) (?_ : ax_X G l RX10 cX10_isUnder 2 (some .boolean) false 2 (some (.int v), sh, μ) 0 [(0, .int x0), (1, .int x1)] [] sh μ)
  unfold m_X10_isUnder at h
  refine ax_iload_n (pc := 0) (i := 1) (q := 1) (ax_dd KX10_isUnder 0 rfl) rfl rfl ?_
  by_cases c1 : x1 = 0
  · rw [if_pos c1] at h
    refine ax_if_eq_t (pc := 1) (tgt := 29) (ax_dd KX10_isUnder 1 rfl) (by decide) c1 ?_
    refine ax_iconst (pc := 29) (v := 1) (ax_dd KX10_isUnder 17 rfl) (by decide) ?_
    refine ax_goto (pc := 30) (tgt := 34) (ax_dd KX10_isUnder 18 rfl) (by decide) ?_
    obtain rfl := Option.some.inj h
    exact ax_ireti (pc := 34) (ax_dd KX10_isUnder 20 rfl) ⟨_, rfl, rfl⟩ rfl
  · rw [if_neg c1] at h
    refine ax_if_eq_f (pc := 1) (tgt := 29) (ax_dd KX10_isUnder 1 rfl) (by decide) c1 ?_
    refine ax_iload_n (pc := 4) (i := 0) (q := 0) (ax_dd KX10_isUnder 2 rfl) rfl rfl ?_
    refine ax_iload_n (pc := 5) (i := 1) (q := 1) (ax_dd KX10_isUnder 3 rfl) rfl rfl ?_
    by_cases c2 : x0 = x1
    · rw [if_pos c2] at h
      refine ax_icmp_eq_t (pc := 6) (tgt := 29) (ax_dd KX10_isUnder 4 rfl) (by decide) c2 ?_
      refine ax_iconst (pc := 29) (v := 1) (ax_dd KX10_isUnder 17 rfl) (by decide) ?_
      refine ax_goto (pc := 30) (tgt := 34) (ax_dd KX10_isUnder 18 rfl) (by decide) ?_
      obtain rfl := Option.some.inj h
      exact ax_ireti (pc := 34) (ax_dd KX10_isUnder 20 rfl) ⟨_, rfl, rfl⟩ rfl
    · rw [if_neg c2] at h
      refine ax_icmp_eq_f (pc := 6) (tgt := 29) (ax_dd KX10_isUnder 4 rfl) (by decide) c2 ?_
      refine ax_iload_n (pc := 9) (i := 1) (q := 1) (ax_dd KX10_isUnder 5 rfl) rfl rfl ?_
      refine ax_iconst (pc := 10) (v := 1) (ax_dd KX10_isUnder 6 rfl) (by decide) ?_
      by_cases c3 : x1 = 1
      · rw [if_pos c3] at h
        refine ax_icmp_ne_f (pc := 11) (tgt := 19) (ax_dd KX10_isUnder 7 rfl) (by decide) (fun z => z c3) ?_
        refine ax_iload_n (pc := 14) (i := 0) (q := 0) (ax_dd KX10_isUnder 8 rfl) rfl rfl ?_
        refine ax_iconst (pc := 15) (v := 3) (ax_dd KX10_isUnder 9 rfl) (by decide) ?_
        by_cases c4 : x0 = 3
        · rw [if_pos c4] at h
          refine ax_icmp_eq_t (pc := 16) (tgt := 29) (ax_dd KX10_isUnder 10 rfl) (by decide) c4 ?_
          refine ax_iconst (pc := 29) (v := 1) (ax_dd KX10_isUnder 17 rfl) (by decide) ?_
          refine ax_goto (pc := 30) (tgt := 34) (ax_dd KX10_isUnder 18 rfl) (by decide) ?_
          obtain rfl := Option.some.inj h
          exact ax_ireti (pc := 34) (ax_dd KX10_isUnder 20 rfl) ⟨_, rfl, rfl⟩ rfl
        · rw [if_neg c4] at h
          refine ax_icmp_eq_f (pc := 16) (tgt := 29) (ax_dd KX10_isUnder 10 rfl) (by decide) c4 ?_
          exact a_X10_isUnder_19 hs h
      · rw [if_neg c3] at h
        refine ax_icmp_ne_t (pc := 11) (tgt := 19) (ax_dd KX10_isUnder 7 rfl) (by decide) c3 ?_
        exact a_X10_isUnder_19 hs h
def m_X10_taken (x1 : Int32) (x2 : Int32) (μ : ax_M) : Option (Int32) :=
  (m_X10_in x2 0 6 μ).bind fun v1 =>
  if v1 = 0 then
    some (-2)
  else
    (m_X10_in x1 0 11 μ).bind fun v4 =>
    if v4 = 0 then
      some (-12)
    else
      if (rmI x1 6) < (μ 51 0) then
        if x1 < 6 then
          if 6 ≤ x2 then
            some (-13)
          else
            (ix 6 x1).bind fun j10 =>
            (m_X10_isUnder (μ 52 j10) x2 μ).bind fun v12 =>
            if v12 = 0 then
              some (-13)
            else
              some x1
        else
          if x2 = 6 then
            (ix 18 (((3 : Int32) * (x1 - 6)) + 2)).bind fun j16 =>
            some (μ 54 j16)
          else
            some (-13)
      else
        some (-11)
set_option maxRecDepth 100000 in
set_option maxHeartbeats 8000000 in
theorem c_X10_taken {G : ax_G} {l : Launch} {sh : List ax_E} {x1 : Int32} {x2 : Int32} {μ : ax_M} (hs : ∀ (k : Nat) (e : ax_E), SHF[k]? = some e → sh[k]? = some e) {v : Int32} (h : m_X10_taken x1 x2 μ = some v) : ax_A G l yX10_taken cX10_taken 3 (some .int) 3 [.ref (G.1 + 51), .int x1, .int x2] sh μ (some (.int v), sh, μ) := by
  refine ax_A.of false (by decide +kernel) (fun h9 => by cases h9) (Nat.le_of_ble_eq_true rfl) (?_ : ax_X G l RX10 cX10_taken 3 (some .int) false 3 (some (.int v), sh, μ) 0 [(0, .ref (G.1 + 51)), (1, .int x1), (2, .int x2)] [] sh μ)
  unfold m_X10_taken at h
  refine ax_iload_n (pc := 0) (i := 2) (q := 2) (ax_dd KX10_taken 0 rfl) rfl rfl ?_
  refine ax_iconst (pc := 1) (v := 0) (ax_dd KX10_taken 1 rfl) (by decide) ?_
  refine ax_bipush (pc := 2) (v := 6) (ax_dd KX10_taken 2 rfl) (by decide) ?_
  obtain ⟨v1, b2, h⟩ := ob_bind h
  refine ax_kS (pc := 4) (As := [.int x2, .int 0, .int 6]) (rest := []) (st1 := [.int v1]) (μ1 := μ) (ax_dd KX10_taken 3 rfl) (c_X10_in hs b2) kS_X10_81 e_X10_in rfl rfl (by decide) (by decide) (Nat.le_of_ble_eq_true rfl) rfl ?_
  by_cases c3 : v1 = 0
  · rw [if_pos c3] at h
    refine ax_if_ne_f (pc := 7) (tgt := 13) (ax_dd KX10_taken 4 rfl) (by decide) (fun z => z c3) ?_
    refine ax_bipush (pc := 10) (v := (-2)) (ax_dd KX10_taken 5 rfl) (by decide) ?_
    obtain rfl := Option.some.inj h
    exact ax_ireti (pc := 12) (ax_dd KX10_taken 6 rfl) ⟨_, rfl, rfl⟩ rfl
  · rw [if_neg c3] at h
    refine ax_if_ne_t (pc := 7) (tgt := 13) (ax_dd KX10_taken 4 rfl) (by decide) c3 ?_
    refine ax_iload_n (pc := 13) (i := 1) (q := 1) (ax_dd KX10_taken 7 rfl) rfl rfl ?_
    refine ax_iconst (pc := 14) (v := 0) (ax_dd KX10_taken 8 rfl) (by decide) ?_
    refine ax_bipush (pc := 15) (v := 11) (ax_dd KX10_taken 9 rfl) (by decide) ?_
    obtain ⟨v4, b5, h⟩ := ob_bind h
    refine ax_kS (pc := 17) (As := [.int x1, .int 0, .int 11]) (rest := []) (st1 := [.int v4]) (μ1 := μ) (ax_dd KX10_taken 10 rfl) (c_X10_in hs b5) kS_X10_81 e_X10_in rfl rfl (by decide) (by decide) (Nat.le_of_ble_eq_true rfl) rfl ?_
    by_cases c6 : v4 = 0
    · rw [if_pos c6] at h
      refine ax_if_ne_f (pc := 20) (tgt := 26) (ax_dd KX10_taken 11 rfl) (by decide) (fun z => z c6) ?_
      refine ax_bipush (pc := 23) (v := (-12)) (ax_dd KX10_taken 12 rfl) (by decide) ?_
      obtain rfl := Option.some.inj h
      exact ax_ireti (pc := 25) (ax_dd KX10_taken 13 rfl) ⟨_, rfl, rfl⟩ rfl
    · rw [if_neg c6] at h
      refine ax_if_ne_t (pc := 20) (tgt := 26) (ax_dd KX10_taken 11 rfl) (by decide) c6 ?_
      refine ax_iload_n (pc := 26) (i := 1) (q := 1) (ax_dd KX10_taken 14 rfl) rfl rfl ?_
      refine ax_bipush (pc := 27) (v := 6) (ax_dd KX10_taken 15 rfl) (by decide) ?_
      refine ax_irem (pc := 29) (ax_dd KX10_taken 16 rfl) (by decide) ?_
      refine ax_aload_n (pc := 30) (i := 0) (q := 0) (ax_dd KX10_taken 17 rfl) rfl rfl ?_
      refine ax_getI (pc := 31) (k := 51) (ax_dd KX10_taken 18 rfl) f_X10_78 (hs 51 _ rfl) rfl ?_
      by_cases c7 : (rmI x1 6) < (μ 51 0)
      · rw [if_pos c7] at h
        refine ax_icmp_lt_t (pc := 34) (tgt := 40) (ax_dd KX10_taken 19 rfl) (by decide) c7 ?_
        refine ax_iload_n (pc := 40) (i := 1) (q := 1) (ax_dd KX10_taken 22 rfl) rfl rfl ?_
        refine ax_bipush (pc := 41) (v := 6) (ax_dd KX10_taken 23 rfl) (by decide) ?_
        by_cases c8 : x1 < 6
        · rw [if_pos c8] at h
          refine ax_icmp_lt_t (pc := 43) (tgt := 71) (ax_dd KX10_taken 24 rfl) (by decide) c8 ?_
          refine ax_iload_n (pc := 71) (i := 2) (q := 2) (ax_dd KX10_taken 41 rfl) rfl rfl ?_
          refine ax_bipush (pc := 72) (v := 6) (ax_dd KX10_taken 42 rfl) (by decide) ?_
          by_cases c9 : 6 ≤ x2
          · rw [if_pos c9] at h
            refine ax_icmp_ge_t (pc := 74) (tgt := 94) (ax_dd KX10_taken 43 rfl) (by decide) c9 ?_
            refine ax_bipush (pc := 94) (v := (-13)) (ax_dd KX10_taken 53 rfl) (by decide) ?_
            obtain rfl := Option.some.inj h
            exact ax_ireti (pc := 96) (ax_dd KX10_taken 54 rfl) ⟨_, rfl, rfl⟩ rfl
          · rw [if_neg c9] at h
            refine ax_icmp_ge_f (pc := 74) (tgt := 94) (ax_dd KX10_taken 43 rfl) (by decide) c9 ?_
            refine ax_aload_n (pc := 77) (i := 0) (q := 0) (ax_dd KX10_taken 44 rfl) rfl rfl ?_
            refine ax_getR (pc := 78) (k := 51) (q := 52) (ax_dd KX10_taken 45 rfl) f_X10_7 (hs 51 _ rfl) rfl ?_
            refine ax_iload_n (pc := 81) (i := 1) (q := 1) (ax_dd KX10_taken 46 rfl) rfl rfl ?_
            obtain ⟨j10, b11, h⟩ := ob_bind h
            refine ax_ild (pc := 82) (k := 52) (N := 6) (j := j10) (ax_dd KX10_taken 47 rfl) (hs 52 _ rfl) b11 ?_
            refine ax_iload_n (pc := 83) (i := 2) (q := 2) (ax_dd KX10_taken 48 rfl) rfl rfl ?_
            obtain ⟨v12, b13, h⟩ := ob_bind h
            refine ax_kS (pc := 84) (As := [.int (μ 52 j10), .int x2]) (rest := []) (st1 := [.int v12]) (μ1 := μ) (ax_dd KX10_taken 49 rfl) (c_X10_isUnder hs b13) kS_X10_289 e_X10_isUnder rfl rfl (by decide) (by decide) (Nat.le_of_ble_eq_true rfl) rfl ?_
            by_cases c14 : v12 = 0
            · rw [if_pos c14] at h
              refine ax_if_eq_t (pc := 87) (tgt := 94) (ax_dd KX10_taken 50 rfl) (by decide) c14 ?_
              refine ax_bipush (pc := 94) (v := (-13)) (ax_dd KX10_taken 53 rfl) (by decide) ?_
              obtain rfl := Option.some.inj h
              exact ax_ireti (pc := 96) (ax_dd KX10_taken 54 rfl) ⟨_, rfl, rfl⟩ rfl
            · rw [if_neg c14] at h
              refine ax_if_eq_f (pc := 87) (tgt := 94) (ax_dd KX10_taken 50 rfl) (by decide) c14 ?_
              refine ax_iload_n (pc := 90) (i := 1) (q := 1) (ax_dd KX10_taken 51 rfl) rfl rfl ?_
              refine ax_goto (pc := 91) (tgt := 96) (ax_dd KX10_taken 52 rfl) (by decide) ?_
              obtain rfl := Option.some.inj h
              exact ax_ireti (pc := 96) (ax_dd KX10_taken 54 rfl) ⟨_, rfl, rfl⟩ rfl
        · rw [if_neg c8] at h
          refine ax_icmp_lt_f (pc := 43) (tgt := 71) (ax_dd KX10_taken 24 rfl) (by decide) c8 ?_
          refine ax_iload_n (pc := 46) (i := 2) (q := 2) (ax_dd KX10_taken 25 rfl) rfl rfl ?_
          refine ax_bipush (pc := 47) (v := 6) (ax_dd KX10_taken 26 rfl) (by decide) ?_
          by_cases c15 : x2 = 6
          · rw [if_pos c15] at h
            refine ax_icmp_ne_f (pc := 49) (tgt := 68) (ax_dd KX10_taken 27 rfl) (by decide) (fun z => z c15) ?_
            refine ax_aload_n (pc := 52) (i := 0) (q := 0) (ax_dd KX10_taken 28 rfl) rfl rfl ?_
            refine ax_getR (pc := 53) (k := 51) (q := 54) (ax_dd KX10_taken 29 rfl) f_X10_16 (hs 51 _ rfl) rfl ?_
            refine ax_iconst (pc := 56) (v := 3) (ax_dd KX10_taken 30 rfl) (by decide) ?_
            refine ax_iload_n (pc := 57) (i := 1) (q := 1) (ax_dd KX10_taken 31 rfl) rfl rfl ?_
            refine ax_bipush (pc := 58) (v := 6) (ax_dd KX10_taken 32 rfl) (by decide) ?_
            refine ax_isub (pc := 60) (ax_dd KX10_taken 33 rfl) ?_
            refine ax_imul (pc := 61) (ax_dd KX10_taken 34 rfl) ?_
            refine ax_iconst (pc := 62) (v := 2) (ax_dd KX10_taken 35 rfl) (by decide) ?_
            refine ax_iadd (pc := 63) (ax_dd KX10_taken 36 rfl) ?_
            obtain ⟨j16, b17, h⟩ := ob_bind h
            refine ax_ild (pc := 64) (k := 54) (N := 18) (j := j16) (ax_dd KX10_taken 37 rfl) (hs 54 _ rfl) b17 ?_
            refine ax_goto (pc := 65) (tgt := 70) (ax_dd KX10_taken 38 rfl) (by decide) ?_
            obtain rfl := Option.some.inj h
            exact ax_ireti (pc := 70) (ax_dd KX10_taken 40 rfl) ⟨_, rfl, rfl⟩ rfl
          · rw [if_neg c15] at h
            refine ax_icmp_ne_t (pc := 49) (tgt := 68) (ax_dd KX10_taken 27 rfl) (by decide) c15 ?_
            refine ax_bipush (pc := 68) (v := (-13)) (ax_dd KX10_taken 39 rfl) (by decide) ?_
            obtain rfl := Option.some.inj h
            exact ax_ireti (pc := 70) (ax_dd KX10_taken 40 rfl) ⟨_, rfl, rfl⟩ rfl
      · rw [if_neg c7] at h
        refine ax_icmp_lt_f (pc := 34) (tgt := 40) (ax_dd KX10_taken 19 rfl) (by decide) c7 ?_
        refine ax_bipush (pc := 37) (v := (-11)) (ax_dd KX10_taken 20 rfl) (by decide) ?_
        obtain rfl := Option.some.inj h
        exact ax_ireti (pc := 39) (ax_dd KX10_taken 21 rfl) ⟨_, rfl, rfl⟩ rfl
