def m_X9_cell (x1 : Int32) (x2 : Int32) (x3 : Int32) (μ : ax_M) : Option (Int32 × ax_M) :=
  (m_X4_refuses x1 μ).bind fun v1 =>
  if v1 = 0 then
    if x2 < 0 then
      some ((-12), μ)
    else
      (ix 4 x1).bind fun j5 =>
      if x2 < (μ 50 j5) then
        (m_X4_write x1 x2 x3 μ).bind fun μ10 =>
        some (1, μ10)
      else
        some ((-12), μ)
  else
    some (v1, μ)
set_option maxRecDepth 100000 in
set_option maxHeartbeats 8000000 in
theorem c_X9_cell {G : ax_G} {l : Launch} {sh : List ax_E} {x1 : Int32} {x2 : Int32} {x3 : Int32} {μ : ax_M} (hs : ∀ (k : Nat) (e : ax_E), SHc[k]? = some e → sh[k]? = some e) {v : Int32 × ax_M} (h : m_X9_cell x1 x2 x3 μ = some v) : ax_A G l yX9_cell cX9_cell 5 (some .int) 3 [.ref (G.1 + 0), .int x1, .int x2, .int x3] sh μ (some (.int v.1), sh, v.2) := by
  refine ax_A.of false (by decide +kernel) (fun h9 => by cases h9) (Nat.le_of_ble_eq_true rfl) (?_ : ax_X G l RX9 cX9_cell 5 (some .int) false 3 (some (.int v.1), sh, v.2) 0 [(0, .ref (G.1 + 0)), (1, .int x1), (2, .int x2), (3, .int x3)] [] sh μ)
  unfold m_X9_cell at h
  refine ax_aload_n (pc := 0) (i := 0) (q := 0) (ax_dd KX9_cell 0 rfl) rfl rfl ?_
  refine ax_getR (pc := 1) (k := 0) (q := 43) (ax_dd KX9_cell 1 rfl) f_X9_74 (hs 0 _ rfl) rfl ?_
  refine ax_iload_n (pc := 4) (i := 1) (q := 1) (ax_dd KX9_cell 2 rfl) rfl rfl ?_
  obtain ⟨v1, b2, h⟩ := ob_bind h
  refine ax_kV (pc := 5) (ci := 4) (k := 43) (As := [.int x1]) (rest := []) (st1 := [.int v1]) (μ1 := μ) (ax_dd KX9_cell 3 rfl) (c_X4_refuses hs b2) kV_X9_292 e_X4_refuses (hs 43 _ rfl) cl_X4 (by decide) rfl rfl (by decide) (by decide) (Nat.le_of_ble_eq_true rfl) rfl ?_
  refine ax_istore (pc := 8) (lv' := [(4, .int v1), (0, .ref (G.1 + 0)), (1, .int x1), (2, .int x2), (3, .int x3)]) (ax_dd KX9_cell 4 rfl) (by decide) rfl ?_
  refine ax_iload (pc := 10) (q := 0) (ax_dd KX9_cell 5 rfl) rfl ?_
  by_cases c3 : v1 = 0
  · rw [if_pos c3] at h
    refine ax_if_eq_t (pc := 12) (tgt := 18) (ax_dd KX9_cell 6 rfl) (by decide) c3 ?_
    refine ax_iload_n (pc := 18) (i := 2) (q := 3) (ax_dd KX9_cell 9 rfl) rfl rfl ?_
    by_cases c4 : x2 < 0
    · rw [if_pos c4] at h
      refine ax_if_lt_t (pc := 19) (tgt := 35) (ax_dd KX9_cell 10 rfl) (by decide) c4 ?_
      refine ax_bipush (pc := 35) (v := (-12)) (ax_dd KX9_cell 18 rfl) (by decide) ?_
      obtain rfl := Option.some.inj h
      exact ax_ireti (pc := 37) (ax_dd KX9_cell 19 rfl) ⟨_, rfl, rfl⟩ rfl
    · rw [if_neg c4] at h
      refine ax_if_lt_f (pc := 19) (tgt := 35) (ax_dd KX9_cell 10 rfl) (by decide) c4 ?_
      refine ax_iload_n (pc := 22) (i := 2) (q := 3) (ax_dd KX9_cell 11 rfl) rfl rfl ?_
      refine ax_aload_n (pc := 23) (i := 0) (q := 1) (ax_dd KX9_cell 12 rfl) rfl rfl ?_
      refine ax_getR (pc := 24) (k := 0) (q := 43) (ax_dd KX9_cell 13 rfl) f_X9_74 (hs 0 _ rfl) rfl ?_
      refine ax_getR (pc := 27) (k := 43) (q := 50) (ax_dd KX9_cell 14 rfl) f_X9_251 (hs 43 _ rfl) rfl ?_
      refine ax_iload_n (pc := 30) (i := 1) (q := 2) (ax_dd KX9_cell 15 rfl) rfl rfl ?_
      obtain ⟨j5, b6, h⟩ := ob_bind h
      refine ax_ild (pc := 31) (k := 50) (N := 4) (j := j5) (ax_dd KX9_cell 16 rfl) (hs 50 _ rfl) b6 ?_
      by_cases c7 : x2 < (μ 50 j5)
      · rw [if_pos c7] at h
        refine ax_icmp_lt_t (pc := 32) (tgt := 38) (ax_dd KX9_cell 17 rfl) (by decide) c7 ?_
        refine ax_aload_n (pc := 38) (i := 0) (q := 1) (ax_dd KX9_cell 20 rfl) rfl rfl ?_
        refine ax_getR (pc := 39) (k := 0) (q := 43) (ax_dd KX9_cell 21 rfl) f_X9_74 (hs 0 _ rfl) rfl ?_
        refine ax_iload_n (pc := 42) (i := 1) (q := 2) (ax_dd KX9_cell 22 rfl) rfl rfl ?_
        refine ax_iload_n (pc := 43) (i := 2) (q := 3) (ax_dd KX9_cell 23 rfl) rfl rfl ?_
        refine ax_iload_n (pc := 44) (i := 3) (q := 4) (ax_dd KX9_cell 24 rfl) rfl rfl ?_
        obtain ⟨μ10, b9, h⟩ := ob_bind h
        refine ax_kV (pc := 45) (ci := 4) (k := 43) (As := [.int x1, .int x2, .int x3]) (rest := []) (st1 := []) (μ1 := μ10) (ax_dd KX9_cell 25 rfl) (c_X4_write hs b9) kV_X9_262 e_X4_write (hs 43 _ rfl) cl_X4 (by decide) rfl rfl (by decide) (by decide) (Nat.le_of_ble_eq_true rfl) rfl ?_
        refine ax_iconst (pc := 48) (v := 1) (ax_dd KX9_cell 26 rfl) (by decide) ?_
        obtain rfl := Option.some.inj h
        exact ax_ireti (pc := 49) (ax_dd KX9_cell 27 rfl) ⟨_, rfl, rfl⟩ rfl
      · rw [if_neg c7] at h
        refine ax_icmp_lt_f (pc := 32) (tgt := 38) (ax_dd KX9_cell 17 rfl) (by decide) c7 ?_
        refine ax_bipush (pc := 35) (v := (-12)) (ax_dd KX9_cell 18 rfl) (by decide) ?_
        obtain rfl := Option.some.inj h
        exact ax_ireti (pc := 37) (ax_dd KX9_cell 19 rfl) ⟨_, rfl, rfl⟩ rfl
  · rw [if_neg c3] at h
    refine ax_if_eq_f (pc := 12) (tgt := 18) (ax_dd KX9_cell 6 rfl) (by decide) c3 ?_
    refine ax_iload (pc := 15) (q := 0) (ax_dd KX9_cell 7 rfl) rfl ?_
    obtain rfl := Option.some.inj h
    exact ax_ireti (pc := 17) (ax_dd KX9_cell 8 rfl) ⟨_, rfl, rfl⟩ rfl
def m_X9_copy (x1 : Int32) (x2 : Int32) (x3 : Int32) (x4 : Int32) (x5 : Int32) (μ : ax_M) : Option (Int32 × ax_M) :=
  if x1 < 0 then
    some ((-2), μ)
  else
    if 4 ≤ x1 then
      some ((-2), μ)
    else
      if x3 < 0 then
        some ((-2), μ)
      else
        if x3 < 4 then
          (ix 4 x1).bind fun j5 =>
          if (μ 49 j5) = (-1) then
            some ((-11), μ)
          else
            (ix 4 x3).bind fun j8 =>
            if (μ 49 j8) = (-1) then
              some ((-11), μ)
            else
              (ix 4 x1).bind fun j11 =>
              (ix 4 x3).bind fun j13 =>
              if (μ 49 j11) = (μ 49 j13) then
                if x2 < 0 then
                  some ((-12), μ)
                else
                  if x4 < 0 then
                    some ((-12), μ)
                  else
                    if x5 < 0 then
                      some ((-12), μ)
                    else
                      (ix 4 x1).bind fun j19 =>
                      if ((μ 50 j19) - x2) < x5 then
                        some ((-12), μ)
                      else
                        (ix 4 x3).bind fun j22 =>
                        if x5 ≤ ((μ 50 j22) - x4) then
                          (ix 4 x1).bind fun j25 =>
                          (ix 4 x3).bind fun j27 =>
                          (q_cp μ (45 + j25) x2 (45 + j27) x4 x5).bind fun μ29 =>
                          some (x5, μ29)
                        else
                          some ((-12), μ)
              else
                some ((-13), μ)
        else
          some ((-2), μ)
set_option maxRecDepth 100000 in
set_option maxHeartbeats 8000000 in
theorem c_X9_copy {G : ax_G} {l : Launch} {sh : List ax_E} {x1 : Int32} {x2 : Int32} {x3 : Int32} {x4 : Int32} {x5 : Int32} {μ : ax_M} (hs : ∀ (k : Nat) (e : ax_E), SHc[k]? = some e → sh[k]? = some e) {v : Int32 × ax_M} (h : m_X9_copy x1 x2 x3 x4 x5 μ = some v) : ax_A G l yX9_copy cX9_copy 6 (some .int) 2 [.ref (G.1 + 0), .int x1, .int x2, .int x3, .int x4, .int x5] sh μ (some (.int v.1), sh, v.2) := by
  refine ax_A.of false (by decide +kernel) (fun h9 => by cases h9) (Nat.le_of_ble_eq_true rfl) (?_ : ax_X G l RX9 cX9_copy 6 (some .int) false 2 (some (.int v.1), sh, v.2) 0 [(0, .ref (G.1 + 0)), (1, .int x1), (2, .int x2), (3, .int x3), (4, .int x4), (5, .int x5)] [] sh μ)
  unfold m_X9_copy at h
  refine ax_iload_n (pc := 0) (i := 1) (q := 1) (ax_dd KX9_copy 0 rfl) rfl rfl ?_
  by_cases c1 : x1 < 0
  · rw [if_pos c1] at h
    refine ax_if_lt_t (pc := 1) (tgt := 18) (ax_dd KX9_copy 1 rfl) (by decide) c1 ?_
    refine ax_bipush (pc := 18) (v := (-2)) (ax_dd KX9_copy 10 rfl) (by decide) ?_
    obtain rfl := Option.some.inj h
    exact ax_ireti (pc := 20) (ax_dd KX9_copy 11 rfl) ⟨_, rfl, rfl⟩ rfl
  · rw [if_neg c1] at h
    refine ax_if_lt_f (pc := 1) (tgt := 18) (ax_dd KX9_copy 1 rfl) (by decide) c1 ?_
    refine ax_iload_n (pc := 4) (i := 1) (q := 1) (ax_dd KX9_copy 2 rfl) rfl rfl ?_
    refine ax_iconst (pc := 5) (v := 4) (ax_dd KX9_copy 3 rfl) (by decide) ?_
    by_cases c2 : 4 ≤ x1
    · rw [if_pos c2] at h
      refine ax_icmp_ge_t (pc := 6) (tgt := 18) (ax_dd KX9_copy 4 rfl) (by decide) c2 ?_
      refine ax_bipush (pc := 18) (v := (-2)) (ax_dd KX9_copy 10 rfl) (by decide) ?_
      obtain rfl := Option.some.inj h
      exact ax_ireti (pc := 20) (ax_dd KX9_copy 11 rfl) ⟨_, rfl, rfl⟩ rfl
    · rw [if_neg c2] at h
      refine ax_icmp_ge_f (pc := 6) (tgt := 18) (ax_dd KX9_copy 4 rfl) (by decide) c2 ?_
      refine ax_iload_n (pc := 9) (i := 3) (q := 3) (ax_dd KX9_copy 5 rfl) rfl rfl ?_
      by_cases c3 : x3 < 0
      · rw [if_pos c3] at h
        refine ax_if_lt_t (pc := 10) (tgt := 18) (ax_dd KX9_copy 6 rfl) (by decide) c3 ?_
        refine ax_bipush (pc := 18) (v := (-2)) (ax_dd KX9_copy 10 rfl) (by decide) ?_
        obtain rfl := Option.some.inj h
        exact ax_ireti (pc := 20) (ax_dd KX9_copy 11 rfl) ⟨_, rfl, rfl⟩ rfl
      · rw [if_neg c3] at h
        refine ax_if_lt_f (pc := 10) (tgt := 18) (ax_dd KX9_copy 6 rfl) (by decide) c3 ?_
        refine ax_iload_n (pc := 13) (i := 3) (q := 3) (ax_dd KX9_copy 7 rfl) rfl rfl ?_
        refine ax_iconst (pc := 14) (v := 4) (ax_dd KX9_copy 8 rfl) (by decide) ?_
        by_cases c4 : x3 < 4
        · rw [if_pos c4] at h
          refine ax_icmp_lt_t (pc := 15) (tgt := 21) (ax_dd KX9_copy 9 rfl) (by decide) c4 ?_
          refine ax_aload_n (pc := 21) (i := 0) (q := 0) (ax_dd KX9_copy 12 rfl) rfl rfl ?_
          refine ax_getR (pc := 22) (k := 0) (q := 43) (ax_dd KX9_copy 13 rfl) f_X9_74 (hs 0 _ rfl) rfl ?_
          refine ax_getR (pc := 25) (k := 43) (q := 49) (ax_dd KX9_copy 14 rfl) f_X9_295 (hs 43 _ rfl) rfl ?_
          refine ax_iload_n (pc := 28) (i := 1) (q := 1) (ax_dd KX9_copy 15 rfl) rfl rfl ?_
          obtain ⟨j5, b6, h⟩ := ob_bind h
          refine ax_ild (pc := 29) (k := 49) (N := 4) (j := j5) (ax_dd KX9_copy 16 rfl) (hs 49 _ rfl) b6 ?_
          refine ax_iconst (pc := 30) (v := (-1)) (ax_dd KX9_copy 17 rfl) (by decide) ?_
          by_cases c7 : (μ 49 j5) = (-1)
          · rw [if_pos c7] at h
            refine ax_icmp_eq_t (pc := 31) (tgt := 47) (ax_dd KX9_copy 18 rfl) (by decide) c7 ?_
            refine ax_bipush (pc := 47) (v := (-11)) (ax_dd KX9_copy 26 rfl) (by decide) ?_
            obtain rfl := Option.some.inj h
            exact ax_ireti (pc := 49) (ax_dd KX9_copy 27 rfl) ⟨_, rfl, rfl⟩ rfl
          · rw [if_neg c7] at h
            refine ax_icmp_eq_f (pc := 31) (tgt := 47) (ax_dd KX9_copy 18 rfl) (by decide) c7 ?_
            refine ax_aload_n (pc := 34) (i := 0) (q := 0) (ax_dd KX9_copy 19 rfl) rfl rfl ?_
            refine ax_getR (pc := 35) (k := 0) (q := 43) (ax_dd KX9_copy 20 rfl) f_X9_74 (hs 0 _ rfl) rfl ?_
            refine ax_getR (pc := 38) (k := 43) (q := 49) (ax_dd KX9_copy 21 rfl) f_X9_295 (hs 43 _ rfl) rfl ?_
            refine ax_iload_n (pc := 41) (i := 3) (q := 3) (ax_dd KX9_copy 22 rfl) rfl rfl ?_
            obtain ⟨j8, b9, h⟩ := ob_bind h
            refine ax_ild (pc := 42) (k := 49) (N := 4) (j := j8) (ax_dd KX9_copy 23 rfl) (hs 49 _ rfl) b9 ?_
            refine ax_iconst (pc := 43) (v := (-1)) (ax_dd KX9_copy 24 rfl) (by decide) ?_
            by_cases c10 : (μ 49 j8) = (-1)
            · rw [if_pos c10] at h
              refine ax_icmp_ne_f (pc := 44) (tgt := 50) (ax_dd KX9_copy 25 rfl) (by decide) (fun z => z c10) ?_
              refine ax_bipush (pc := 47) (v := (-11)) (ax_dd KX9_copy 26 rfl) (by decide) ?_
              obtain rfl := Option.some.inj h
              exact ax_ireti (pc := 49) (ax_dd KX9_copy 27 rfl) ⟨_, rfl, rfl⟩ rfl
            · rw [if_neg c10] at h
              refine ax_icmp_ne_t (pc := 44) (tgt := 50) (ax_dd KX9_copy 25 rfl) (by decide) c10 ?_
              refine ax_aload_n (pc := 50) (i := 0) (q := 0) (ax_dd KX9_copy 28 rfl) rfl rfl ?_
              refine ax_getR (pc := 51) (k := 0) (q := 43) (ax_dd KX9_copy 29 rfl) f_X9_74 (hs 0 _ rfl) rfl ?_
              refine ax_getR (pc := 54) (k := 43) (q := 49) (ax_dd KX9_copy 30 rfl) f_X9_295 (hs 43 _ rfl) rfl ?_
              refine ax_iload_n (pc := 57) (i := 1) (q := 1) (ax_dd KX9_copy 31 rfl) rfl rfl ?_
              obtain ⟨j11, b12, h⟩ := ob_bind h
              refine ax_ild (pc := 58) (k := 49) (N := 4) (j := j11) (ax_dd KX9_copy 32 rfl) (hs 49 _ rfl) b12 ?_
              refine ax_aload_n (pc := 59) (i := 0) (q := 0) (ax_dd KX9_copy 33 rfl) rfl rfl ?_
              refine ax_getR (pc := 60) (k := 0) (q := 43) (ax_dd KX9_copy 34 rfl) f_X9_74 (hs 0 _ rfl) rfl ?_
              refine ax_getR (pc := 63) (k := 43) (q := 49) (ax_dd KX9_copy 35 rfl) f_X9_295 (hs 43 _ rfl) rfl ?_
              refine ax_iload_n (pc := 66) (i := 3) (q := 3) (ax_dd KX9_copy 36 rfl) rfl rfl ?_
              obtain ⟨j13, b14, h⟩ := ob_bind h
              refine ax_ild (pc := 67) (k := 49) (N := 4) (j := j13) (ax_dd KX9_copy 37 rfl) (hs 49 _ rfl) b14 ?_
              by_cases c15 : (μ 49 j11) = (μ 49 j13)
              · rw [if_pos c15] at h
                refine ax_icmp_eq_t (pc := 68) (tgt := 74) (ax_dd KX9_copy 38 rfl) (by decide) c15 ?_
                refine ax_iload_n (pc := 74) (i := 2) (q := 2) (ax_dd KX9_copy 41 rfl) rfl rfl ?_
                by_cases c16 : x2 < 0
                · rw [if_pos c16] at h
                  refine ax_if_lt_t (pc := 75) (tgt := 121) (ax_dd KX9_copy 42 rfl) (by decide) c16 ?_
                  refine ax_bipush (pc := 121) (v := (-12)) (ax_dd KX9_copy 65 rfl) (by decide) ?_
                  obtain rfl := Option.some.inj h
                  exact ax_ireti (pc := 123) (ax_dd KX9_copy 66 rfl) ⟨_, rfl, rfl⟩ rfl
                · rw [if_neg c16] at h
                  refine ax_if_lt_f (pc := 75) (tgt := 121) (ax_dd KX9_copy 42 rfl) (by decide) c16 ?_
                  refine ax_iload (pc := 78) (q := 4) (ax_dd KX9_copy 43 rfl) rfl ?_
                  by_cases c17 : x4 < 0
                  · rw [if_pos c17] at h
                    refine ax_if_lt_t (pc := 80) (tgt := 121) (ax_dd KX9_copy 44 rfl) (by decide) c17 ?_
                    refine ax_bipush (pc := 121) (v := (-12)) (ax_dd KX9_copy 65 rfl) (by decide) ?_
                    obtain rfl := Option.some.inj h
                    exact ax_ireti (pc := 123) (ax_dd KX9_copy 66 rfl) ⟨_, rfl, rfl⟩ rfl
                  · rw [if_neg c17] at h
                    refine ax_if_lt_f (pc := 80) (tgt := 121) (ax_dd KX9_copy 44 rfl) (by decide) c17 ?_
                    refine ax_iload (pc := 83) (q := 5) (ax_dd KX9_copy 45 rfl) rfl ?_
                    by_cases c18 : x5 < 0
                    · rw [if_pos c18] at h
                      refine ax_if_lt_t (pc := 85) (tgt := 121) (ax_dd KX9_copy 46 rfl) (by decide) c18 ?_
                      refine ax_bipush (pc := 121) (v := (-12)) (ax_dd KX9_copy 65 rfl) (by decide) ?_
                      obtain rfl := Option.some.inj h
                      exact ax_ireti (pc := 123) (ax_dd KX9_copy 66 rfl) ⟨_, rfl, rfl⟩ rfl
                    · rw [if_neg c18] at h
                      refine ax_if_lt_f (pc := 85) (tgt := 121) (ax_dd KX9_copy 46 rfl) (by decide) c18 ?_
                      refine ax_iload (pc := 88) (q := 5) (ax_dd KX9_copy 47 rfl) rfl ?_
                      refine ax_aload_n (pc := 90) (i := 0) (q := 0) (ax_dd KX9_copy 48 rfl) rfl rfl ?_
                      refine ax_getR (pc := 91) (k := 0) (q := 43) (ax_dd KX9_copy 49 rfl) f_X9_74 (hs 0 _ rfl) rfl ?_
                      refine ax_getR (pc := 94) (k := 43) (q := 50) (ax_dd KX9_copy 50 rfl) f_X9_251 (hs 43 _ rfl) rfl ?_
                      refine ax_iload_n (pc := 97) (i := 1) (q := 1) (ax_dd KX9_copy 51 rfl) rfl rfl ?_
                      obtain ⟨j19, b20, h⟩ := ob_bind h
                      refine ax_ild (pc := 98) (k := 50) (N := 4) (j := j19) (ax_dd KX9_copy 52 rfl) (hs 50 _ rfl) b20 ?_
                      refine ax_iload_n (pc := 99) (i := 2) (q := 2) (ax_dd KX9_copy 53 rfl) rfl rfl ?_
                      refine ax_isub (pc := 100) (ax_dd KX9_copy 54 rfl) ?_
                      by_cases c21 : ((μ 50 j19) - x2) < x5
                      · rw [if_pos c21] at h
                        refine ax_icmp_gt_t (pc := 101) (tgt := 121) (ax_dd KX9_copy 55 rfl) (by decide) c21 ?_
                        refine ax_bipush (pc := 121) (v := (-12)) (ax_dd KX9_copy 65 rfl) (by decide) ?_
                        obtain rfl := Option.some.inj h
                        exact ax_ireti (pc := 123) (ax_dd KX9_copy 66 rfl) ⟨_, rfl, rfl⟩ rfl
                      · rw [if_neg c21] at h
                        refine ax_icmp_gt_f (pc := 101) (tgt := 121) (ax_dd KX9_copy 55 rfl) (by decide) c21 ?_
                        refine ax_iload (pc := 104) (q := 5) (ax_dd KX9_copy 56 rfl) rfl ?_
                        refine ax_aload_n (pc := 106) (i := 0) (q := 0) (ax_dd KX9_copy 57 rfl) rfl rfl ?_
                        refine ax_getR (pc := 107) (k := 0) (q := 43) (ax_dd KX9_copy 58 rfl) f_X9_74 (hs 0 _ rfl) rfl ?_
                        refine ax_getR (pc := 110) (k := 43) (q := 50) (ax_dd KX9_copy 59 rfl) f_X9_251 (hs 43 _ rfl) rfl ?_
                        refine ax_iload_n (pc := 113) (i := 3) (q := 3) (ax_dd KX9_copy 60 rfl) rfl rfl ?_
                        obtain ⟨j22, b23, h⟩ := ob_bind h
                        refine ax_ild (pc := 114) (k := 50) (N := 4) (j := j22) (ax_dd KX9_copy 61 rfl) (hs 50 _ rfl) b23 ?_
                        refine ax_iload (pc := 115) (q := 4) (ax_dd KX9_copy 62 rfl) rfl ?_
                        refine ax_isub (pc := 117) (ax_dd KX9_copy 63 rfl) ?_
                        by_cases c24 : x5 ≤ ((μ 50 j22) - x4)
                        · rw [if_pos c24] at h
                          refine ax_icmp_le_t (pc := 118) (tgt := 124) (ax_dd KX9_copy 64 rfl) (by decide) c24 ?_
                          refine ax_aload_n (pc := 124) (i := 0) (q := 0) (ax_dd KX9_copy 67 rfl) rfl rfl ?_
                          refine ax_getR (pc := 125) (k := 0) (q := 43) (ax_dd KX9_copy 68 rfl) f_X9_74 (hs 0 _ rfl) rfl ?_
                          refine ax_getR (pc := 128) (k := 43) (q := 44) (ax_dd KX9_copy 69 rfl) f_X9_247 (hs 43 _ rfl) rfl ?_
                          refine ax_iload_n (pc := 131) (i := 1) (q := 1) (ax_dd KX9_copy 70 rfl) rfl rfl ?_
                          obtain ⟨j25, b26, h⟩ := ob_bind h
                          refine ax_ald (pc := 132) (k := 44) (b0 := 45) (N := 4) (j := j25) (ax_dd KX9_copy 71 rfl) (hs 44 _ rfl) b26 ?_
                          refine ax_iload_n (pc := 133) (i := 2) (q := 2) (ax_dd KX9_copy 72 rfl) rfl rfl ?_
                          refine ax_aload_n (pc := 134) (i := 0) (q := 0) (ax_dd KX9_copy 73 rfl) rfl rfl ?_
                          refine ax_getR (pc := 135) (k := 0) (q := 43) (ax_dd KX9_copy 74 rfl) f_X9_74 (hs 0 _ rfl) rfl ?_
                          refine ax_getR (pc := 138) (k := 43) (q := 44) (ax_dd KX9_copy 75 rfl) f_X9_247 (hs 43 _ rfl) rfl ?_
                          refine ax_iload_n (pc := 141) (i := 3) (q := 3) (ax_dd KX9_copy 76 rfl) rfl rfl ?_
                          obtain ⟨j27, b28, h⟩ := ob_bind h
                          refine ax_ald (pc := 142) (k := 44) (b0 := 45) (N := 4) (j := j27) (ax_dd KX9_copy 77 rfl) (hs 44 _ rfl) b28 ?_
                          refine ax_iload (pc := 143) (q := 4) (ax_dd KX9_copy 78 rfl) rfl ?_
                          refine ax_iload (pc := 145) (q := 5) (ax_dd KX9_copy 79 rfl) rfl ?_
                          obtain ⟨μ29, b30, h⟩ := ob_bind h
                          refine ax_qcp (pc := 147) (ax_dd KX9_copy 80 rfl) cp_X9_298 hs b30 (by decide) (Nat.le_of_ble_eq_true rfl) ?_
                          refine ax_iload (pc := 150) (q := 5) (ax_dd KX9_copy 81 rfl) rfl ?_
                          obtain rfl := Option.some.inj h
                          exact ax_ireti (pc := 152) (ax_dd KX9_copy 82 rfl) ⟨_, rfl, rfl⟩ rfl
                        · rw [if_neg c24] at h
                          refine ax_icmp_le_f (pc := 118) (tgt := 124) (ax_dd KX9_copy 64 rfl) (by decide) c24 ?_
                          refine ax_bipush (pc := 121) (v := (-12)) (ax_dd KX9_copy 65 rfl) (by decide) ?_
                          obtain rfl := Option.some.inj h
                          exact ax_ireti (pc := 123) (ax_dd KX9_copy 66 rfl) ⟨_, rfl, rfl⟩ rfl
              · rw [if_neg c15] at h
                refine ax_icmp_eq_f (pc := 68) (tgt := 74) (ax_dd KX9_copy 38 rfl) (by decide) c15 ?_
                refine ax_bipush (pc := 71) (v := (-13)) (ax_dd KX9_copy 39 rfl) (by decide) ?_
                obtain rfl := Option.some.inj h
                exact ax_ireti (pc := 73) (ax_dd KX9_copy 40 rfl) ⟨_, rfl, rfl⟩ rfl
        · rw [if_neg c4] at h
          refine ax_icmp_lt_f (pc := 15) (tgt := 21) (ax_dd KX9_copy 9 rfl) (by decide) c4 ?_
          refine ax_bipush (pc := 18) (v := (-2)) (ax_dd KX9_copy 10 rfl) (by decide) ?_
          obtain rfl := Option.some.inj h
          exact ax_ireti (pc := 20) (ax_dd KX9_copy 11 rfl) ⟨_, rfl, rfl⟩ rfl
def m_X9_rugsBy_74 (x1 : Int32) (x4 : Int32) : Nat → Int32 → Int32 → Int32 → ax_M → Option (Int32 × ax_M)
  | 0, _, _, _, _ => none
  | n + 1, x5, x6, x7, μ =>
    if x4 ≤ x7 then
      some (x5, μ)
    else
      if x6 < 0 then
        some ((-12), μ)
      else
        (ix 4 x1).bind fun j3 =>
        if x6 ≤ ((μ 50 j3) - 2) then
          (ix 4 x1).bind fun j6 =>
          (q_ld μ (45 + j6) x6).bind fun j8 =>
          (ix 4 x1).bind fun j10 =>
          (q_ld μ (45 + j10) (x6 + 1)).bind fun j12 =>
          bind2 (m_X9_spread j8 j12 μ) fun v14 μ16 =>
          if v14 < 0 then
            m_X9_rugsBy_74 x1 x4 n x5 (x6 + 2) (x7 + 1) μ16
          else
            m_X9_rugsBy_74 x1 x4 n (x5 + 1) (x6 + 2) (x7 + 1) μ16
        else
          some ((-12), μ)
set_option maxRecDepth 100000 in
set_option maxHeartbeats 8000000 in
theorem a_X9_rugsBy_74 {G : ax_G} {l : Launch} {sh : List ax_E} {x1 : Int32} {x4 : Int32} (hs : ∀ (k : Nat) (e : ax_E), SHc[k]? = some e → sh[k]? = some e) : ∀ (n : Nat) (x5 : Int32) (x6 : Int32) (x7 : Int32) (μ : ax_M) (v : Int32 × ax_M), m_X9_rugsBy_74 x1 x4 n x5 x6 x7 μ = some v → ax_X G l RX9 cX9_rugsBy 8 (some .int) false 6 (some (.int v.1), sh, v.2) 74 [(0, .ref (G.1 + 0)), (1, .int x1), (4, .int x4), (5, .int x5), (6, .int x6), (7, .int x7)] [] sh μ := by
  intro n
  induction n with
  | zero =>
    intro x5 x6 x7 μ v h
    rw [m_X9_rugsBy_74] at h
    cases h
  | succ n ih =>
    intro x5 x6 x7 μ v h
    rw [m_X9_rugsBy_74] at h
    refine ax_iload (pc := 74) (q := 5) (ax_dd KX9_rugsBy 41 rfl) rfl ?_
    refine ax_iload (pc := 76) (q := 2) (ax_dd KX9_rugsBy 42 rfl) rfl ?_
    by_cases c1 : x4 ≤ x7
    · rw [if_pos c1] at h
      refine ax_icmp_ge_t (pc := 78) (tgt := 150) (ax_dd KX9_rugsBy 43 rfl) (by decide) c1 ?_
      refine ax_iload (pc := 150) (q := 3) (ax_dd KX9_rugsBy 80 rfl) rfl ?_
      obtain rfl := Option.some.inj h
      exact ax_ireti (pc := 152) (ax_dd KX9_rugsBy 81 rfl) ⟨_, rfl, rfl⟩ rfl
    · rw [if_neg c1] at h
      refine ax_icmp_ge_f (pc := 78) (tgt := 150) (ax_dd KX9_rugsBy 43 rfl) (by decide) c1 ?_
      refine ax_iload (pc := 81) (q := 4) (ax_dd KX9_rugsBy 44 rfl) rfl ?_
      by_cases c2 : x6 < 0
      · rw [if_pos c2] at h
        refine ax_if_lt_t (pc := 83) (tgt := 102) (ax_dd KX9_rugsBy 45 rfl) (by decide) c2 ?_
        refine ax_bipush (pc := 102) (v := (-12)) (ax_dd KX9_rugsBy 55 rfl) (by decide) ?_
        obtain rfl := Option.some.inj h
        exact ax_ireti (pc := 104) (ax_dd KX9_rugsBy 56 rfl) ⟨_, rfl, rfl⟩ rfl
      · rw [if_neg c2] at h
        refine ax_if_lt_f (pc := 83) (tgt := 102) (ax_dd KX9_rugsBy 45 rfl) (by decide) c2 ?_
        refine ax_iload (pc := 86) (q := 4) (ax_dd KX9_rugsBy 46 rfl) rfl ?_
        refine ax_aload_n (pc := 88) (i := 0) (q := 0) (ax_dd KX9_rugsBy 47 rfl) rfl rfl ?_
        refine ax_getR (pc := 89) (k := 0) (q := 43) (ax_dd KX9_rugsBy 48 rfl) f_X9_74 (hs 0 _ rfl) rfl ?_
        refine ax_getR (pc := 92) (k := 43) (q := 50) (ax_dd KX9_rugsBy 49 rfl) f_X9_251 (hs 43 _ rfl) rfl ?_
        refine ax_iload_n (pc := 95) (i := 1) (q := 1) (ax_dd KX9_rugsBy 50 rfl) rfl rfl ?_
        obtain ⟨j3, b4, h⟩ := ob_bind h
        refine ax_ild (pc := 96) (k := 50) (N := 4) (j := j3) (ax_dd KX9_rugsBy 51 rfl) (hs 50 _ rfl) b4 ?_
        refine ax_iconst (pc := 97) (v := 2) (ax_dd KX9_rugsBy 52 rfl) (by decide) ?_
        refine ax_isub (pc := 98) (ax_dd KX9_rugsBy 53 rfl) ?_
        by_cases c5 : x6 ≤ ((μ 50 j3) - 2)
        · rw [if_pos c5] at h
          refine ax_icmp_le_t (pc := 99) (tgt := 105) (ax_dd KX9_rugsBy 54 rfl) (by decide) c5 ?_
          refine ax_aload_n (pc := 105) (i := 0) (q := 0) (ax_dd KX9_rugsBy 57 rfl) rfl rfl ?_
          refine ax_aload_n (pc := 106) (i := 0) (q := 0) (ax_dd KX9_rugsBy 58 rfl) rfl rfl ?_
          refine ax_getR (pc := 107) (k := 0) (q := 43) (ax_dd KX9_rugsBy 59 rfl) f_X9_74 (hs 0 _ rfl) rfl ?_
          refine ax_getR (pc := 110) (k := 43) (q := 44) (ax_dd KX9_rugsBy 60 rfl) f_X9_247 (hs 43 _ rfl) rfl ?_
          refine ax_iload_n (pc := 113) (i := 1) (q := 1) (ax_dd KX9_rugsBy 61 rfl) rfl rfl ?_
          obtain ⟨j6, b7, h⟩ := ob_bind h
          refine ax_ald (pc := 114) (k := 44) (b0 := 45) (N := 4) (j := j6) (ax_dd KX9_rugsBy 62 rfl) (hs 44 _ rfl) b7 ?_
          refine ax_iload (pc := 115) (q := 4) (ax_dd KX9_rugsBy 63 rfl) rfl ?_
          obtain ⟨j8, b9, h⟩ := ob_bind h
          refine ax_qld (pc := 117) (ax_dd KX9_rugsBy 64 rfl) hs b9 ?_
          refine ax_aload_n (pc := 118) (i := 0) (q := 0) (ax_dd KX9_rugsBy 65 rfl) rfl rfl ?_
          refine ax_getR (pc := 119) (k := 0) (q := 43) (ax_dd KX9_rugsBy 66 rfl) f_X9_74 (hs 0 _ rfl) rfl ?_
          refine ax_getR (pc := 122) (k := 43) (q := 44) (ax_dd KX9_rugsBy 67 rfl) f_X9_247 (hs 43 _ rfl) rfl ?_
          refine ax_iload_n (pc := 125) (i := 1) (q := 1) (ax_dd KX9_rugsBy 68 rfl) rfl rfl ?_
          obtain ⟨j10, b11, h⟩ := ob_bind h
          refine ax_ald (pc := 126) (k := 44) (b0 := 45) (N := 4) (j := j10) (ax_dd KX9_rugsBy 69 rfl) (hs 44 _ rfl) b11 ?_
          refine ax_iload (pc := 127) (q := 4) (ax_dd KX9_rugsBy 70 rfl) rfl ?_
          refine ax_iconst (pc := 129) (v := 1) (ax_dd KX9_rugsBy 71 rfl) (by decide) ?_
          refine ax_iadd (pc := 130) (ax_dd KX9_rugsBy 72 rfl) ?_
          obtain ⟨j12, b13, h⟩ := ob_bind h
          refine ax_qld (pc := 131) (ax_dd KX9_rugsBy 73 rfl) hs b13 ?_
          obtain ⟨v14, μ16, b15, h⟩ := ob_bind2 h
          refine ax_kV (pc := 132) (ci := 9) (k := 0) (As := [.int j8, .int j12]) (rest := []) (st1 := [.int v14]) (μ1 := μ16) (ax_dd KX9_rugsBy 74 rfl) (c_X9_spread hs b15) kV_X9_304 e_X9_spread (hs 0 _ rfl) cl_X9 (by decide) rfl rfl (by decide) (by decide) (Nat.le_of_ble_eq_true rfl) rfl ?_
          by_cases c17 : v14 < 0
          · rw [if_pos c17] at h
            refine ax_if_lt_t (pc := 135) (tgt := 141) (ax_dd KX9_rugsBy 75 rfl) (by decide) c17 ?_
            refine ax_iinc (pc := 141) (q := 4) (v := (x6 + 2)) (lv' := [(6, .int (x6 + 2)), (0, .ref (G.1 + 0)), (1, .int x1), (4, .int x4), (5, .int x5), (7, .int x7)]) (ax_dd KX9_rugsBy 77 rfl) rfl rfl (by decide) rfl ?_
            refine ax_iinc (pc := 144) (q := 5) (v := (x7 + 1)) (lv' := [(7, .int (x7 + 1)), (6, .int (x6 + 2)), (0, .ref (G.1 + 0)), (1, .int x1), (4, .int x4), (5, .int x5)]) (ax_dd KX9_rugsBy 78 rfl) rfl rfl (by decide) rfl ?_
            refine ax_goto (pc := 147) (tgt := 74) (ax_dd KX9_rugsBy 79 rfl) (by decide) ?_
            refine ax_sub (lv' := [(0, .ref (G.1 + 0)), (1, .int x1), (4, .int x4), (5, .int x5), (6, .int (x6 + 2)), (7, .int (x7 + 1))]) [2, 3, 4, 5, 1, 0] rfl ?_
            exact ih _ _ _ _ _ h
          · rw [if_neg c17] at h
            refine ax_if_lt_f (pc := 135) (tgt := 141) (ax_dd KX9_rugsBy 75 rfl) (by decide) c17 ?_
            refine ax_iinc (pc := 138) (q := 3) (v := (x5 + 1)) (lv' := [(5, .int (x5 + 1)), (0, .ref (G.1 + 0)), (1, .int x1), (4, .int x4), (6, .int x6), (7, .int x7)]) (ax_dd KX9_rugsBy 76 rfl) rfl rfl (by decide) rfl ?_
            refine ax_iinc (pc := 141) (q := 4) (v := (x6 + 2)) (lv' := [(6, .int (x6 + 2)), (5, .int (x5 + 1)), (0, .ref (G.1 + 0)), (1, .int x1), (4, .int x4), (7, .int x7)]) (ax_dd KX9_rugsBy 77 rfl) rfl rfl (by decide) rfl ?_
            refine ax_iinc (pc := 144) (q := 5) (v := (x7 + 1)) (lv' := [(7, .int (x7 + 1)), (6, .int (x6 + 2)), (5, .int (x5 + 1)), (0, .ref (G.1 + 0)), (1, .int x1), (4, .int x4)]) (ax_dd KX9_rugsBy 78 rfl) rfl rfl (by decide) rfl ?_
            refine ax_goto (pc := 147) (tgt := 74) (ax_dd KX9_rugsBy 79 rfl) (by decide) ?_
            refine ax_sub (lv' := [(0, .ref (G.1 + 0)), (1, .int x1), (4, .int x4), (5, .int (x5 + 1)), (6, .int (x6 + 2)), (7, .int (x7 + 1))]) [3, 4, 5, 2, 1, 0] rfl ?_
            exact ih _ _ _ _ _ h
        · rw [if_neg c5] at h
          refine ax_icmp_le_f (pc := 99) (tgt := 105) (ax_dd KX9_rugsBy 54 rfl) (by decide) c5 ?_
          refine ax_bipush (pc := 102) (v := (-12)) (ax_dd KX9_rugsBy 55 rfl) (by decide) ?_
          obtain rfl := Option.some.inj h
          exact ax_ireti (pc := 104) (ax_dd KX9_rugsBy 56 rfl) ⟨_, rfl, rfl⟩ rfl
def m_X9_rugsBy (x1 : Int32) (x2 : Int32) (x3 : Int32) (x4 : Int32) (μ : ax_M) : Option (Int32 × ax_M) :=
  if x1 < 0 then
    some ((-2), μ)
  else
    if 4 ≤ x1 then
      some ((-2), μ)
    else
      if x2 < 0 then
        some ((-2), μ)
      else
        if 3 ≤ x2 then
          some ((-2), μ)
        else
          if x4 < 0 then
            some ((-2), μ)
          else
            if x4 ≤ 6 then
              (ix 4 x1).bind fun j7 =>
              if (μ 49 j7) = (-1) then
                some ((-11), μ)
              else
                (ix 4 x1).bind fun j10 =>
                if (μ 49 j10) = x2 then
                  m_X9_rugsBy_74 x1 x4 fu 0 x3 0 μ
                else
                  some ((-13), μ)
            else
              some ((-2), μ)
set_option maxRecDepth 100000 in
set_option maxHeartbeats 8000000 in
theorem c_X9_rugsBy {G : ax_G} {l : Launch} {sh : List ax_E} {x1 : Int32} {x2 : Int32} {x3 : Int32} {x4 : Int32} {μ : ax_M} (hs : ∀ (k : Nat) (e : ax_E), SHc[k]? = some e → sh[k]? = some e) {v : Int32 × ax_M} (h : m_X9_rugsBy x1 x2 x3 x4 μ = some v) : ax_A G l yX9_rugsBy cX9_rugsBy 8 (some .int) 6 [.ref (G.1 + 0), .int x1, .int x2, .int x3, .int x4] sh μ (some (.int v.1), sh, v.2) := by
  refine ax_A.of false (by decide +kernel) (fun h9 => by cases h9) (Nat.le_of_ble_eq_true rfl) (?_ : ax_X G l RX9 cX9_rugsBy 8 (some .int) false 6 (some (.int v.1), sh, v.2) 0 [(0, .ref (G.1 + 0)), (1, .int x1), (2, .int x2), (3, .int x3), (4, .int x4)] [] sh μ)
  unfold m_X9_rugsBy at h
  refine ax_iload_n (pc := 0) (i := 1) (q := 1) (ax_dd KX9_rugsBy 0 rfl) rfl rfl ?_
  by_cases c1 : x1 < 0
  · rw [if_pos c1] at h
    refine ax_if_lt_t (pc := 1) (tgt := 30) (ax_dd KX9_rugsBy 1 rfl) (by decide) c1 ?_
    refine ax_bipush (pc := 30) (v := (-2)) (ax_dd KX9_rugsBy 15 rfl) (by decide) ?_
    obtain rfl := Option.some.inj h
    exact ax_ireti (pc := 32) (ax_dd KX9_rugsBy 16 rfl) ⟨_, rfl, rfl⟩ rfl
  · rw [if_neg c1] at h
    refine ax_if_lt_f (pc := 1) (tgt := 30) (ax_dd KX9_rugsBy 1 rfl) (by decide) c1 ?_
    refine ax_iload_n (pc := 4) (i := 1) (q := 1) (ax_dd KX9_rugsBy 2 rfl) rfl rfl ?_
    refine ax_iconst (pc := 5) (v := 4) (ax_dd KX9_rugsBy 3 rfl) (by decide) ?_
    by_cases c2 : 4 ≤ x1
    · rw [if_pos c2] at h
      refine ax_icmp_ge_t (pc := 6) (tgt := 30) (ax_dd KX9_rugsBy 4 rfl) (by decide) c2 ?_
      refine ax_bipush (pc := 30) (v := (-2)) (ax_dd KX9_rugsBy 15 rfl) (by decide) ?_
      obtain rfl := Option.some.inj h
      exact ax_ireti (pc := 32) (ax_dd KX9_rugsBy 16 rfl) ⟨_, rfl, rfl⟩ rfl
    · rw [if_neg c2] at h
      refine ax_icmp_ge_f (pc := 6) (tgt := 30) (ax_dd KX9_rugsBy 4 rfl) (by decide) c2 ?_
      refine ax_iload_n (pc := 9) (i := 2) (q := 2) (ax_dd KX9_rugsBy 5 rfl) rfl rfl ?_
      by_cases c3 : x2 < 0
      · rw [if_pos c3] at h
        refine ax_if_lt_t (pc := 10) (tgt := 30) (ax_dd KX9_rugsBy 6 rfl) (by decide) c3 ?_
        refine ax_bipush (pc := 30) (v := (-2)) (ax_dd KX9_rugsBy 15 rfl) (by decide) ?_
        obtain rfl := Option.some.inj h
        exact ax_ireti (pc := 32) (ax_dd KX9_rugsBy 16 rfl) ⟨_, rfl, rfl⟩ rfl
      · rw [if_neg c3] at h
        refine ax_if_lt_f (pc := 10) (tgt := 30) (ax_dd KX9_rugsBy 6 rfl) (by decide) c3 ?_
        refine ax_iload_n (pc := 13) (i := 2) (q := 2) (ax_dd KX9_rugsBy 7 rfl) rfl rfl ?_
        refine ax_iconst (pc := 14) (v := 3) (ax_dd KX9_rugsBy 8 rfl) (by decide) ?_
        by_cases c4 : 3 ≤ x2
        · rw [if_pos c4] at h
          refine ax_icmp_ge_t (pc := 15) (tgt := 30) (ax_dd KX9_rugsBy 9 rfl) (by decide) c4 ?_
          refine ax_bipush (pc := 30) (v := (-2)) (ax_dd KX9_rugsBy 15 rfl) (by decide) ?_
          obtain rfl := Option.some.inj h
          exact ax_ireti (pc := 32) (ax_dd KX9_rugsBy 16 rfl) ⟨_, rfl, rfl⟩ rfl
        · rw [if_neg c4] at h
          refine ax_icmp_ge_f (pc := 15) (tgt := 30) (ax_dd KX9_rugsBy 9 rfl) (by decide) c4 ?_
          refine ax_iload (pc := 18) (q := 4) (ax_dd KX9_rugsBy 10 rfl) rfl ?_
          by_cases c5 : x4 < 0
          · rw [if_pos c5] at h
            refine ax_if_lt_t (pc := 20) (tgt := 30) (ax_dd KX9_rugsBy 11 rfl) (by decide) c5 ?_
            refine ax_bipush (pc := 30) (v := (-2)) (ax_dd KX9_rugsBy 15 rfl) (by decide) ?_
            obtain rfl := Option.some.inj h
            exact ax_ireti (pc := 32) (ax_dd KX9_rugsBy 16 rfl) ⟨_, rfl, rfl⟩ rfl
          · rw [if_neg c5] at h
            refine ax_if_lt_f (pc := 20) (tgt := 30) (ax_dd KX9_rugsBy 11 rfl) (by decide) c5 ?_
            refine ax_iload (pc := 23) (q := 4) (ax_dd KX9_rugsBy 12 rfl) rfl ?_
            refine ax_bipush (pc := 25) (v := 6) (ax_dd KX9_rugsBy 13 rfl) (by decide) ?_
            by_cases c6 : x4 ≤ 6
            · rw [if_pos c6] at h
              refine ax_icmp_le_t (pc := 27) (tgt := 33) (ax_dd KX9_rugsBy 14 rfl) (by decide) c6 ?_
              refine ax_aload_n (pc := 33) (i := 0) (q := 0) (ax_dd KX9_rugsBy 17 rfl) rfl rfl ?_
              refine ax_getR (pc := 34) (k := 0) (q := 43) (ax_dd KX9_rugsBy 18 rfl) f_X9_74 (hs 0 _ rfl) rfl ?_
              refine ax_getR (pc := 37) (k := 43) (q := 49) (ax_dd KX9_rugsBy 19 rfl) f_X9_295 (hs 43 _ rfl) rfl ?_
              refine ax_iload_n (pc := 40) (i := 1) (q := 1) (ax_dd KX9_rugsBy 20 rfl) rfl rfl ?_
              obtain ⟨j7, b8, h⟩ := ob_bind h
              refine ax_ild (pc := 41) (k := 49) (N := 4) (j := j7) (ax_dd KX9_rugsBy 21 rfl) (hs 49 _ rfl) b8 ?_
              refine ax_iconst (pc := 42) (v := (-1)) (ax_dd KX9_rugsBy 22 rfl) (by decide) ?_
              by_cases c9 : (μ 49 j7) = (-1)
              · rw [if_pos c9] at h
                refine ax_icmp_ne_f (pc := 43) (tgt := 49) (ax_dd KX9_rugsBy 23 rfl) (by decide) (fun z => z c9) ?_
                refine ax_bipush (pc := 46) (v := (-11)) (ax_dd KX9_rugsBy 24 rfl) (by decide) ?_
                obtain rfl := Option.some.inj h
                exact ax_ireti (pc := 48) (ax_dd KX9_rugsBy 25 rfl) ⟨_, rfl, rfl⟩ rfl
              · rw [if_neg c9] at h
                refine ax_icmp_ne_t (pc := 43) (tgt := 49) (ax_dd KX9_rugsBy 23 rfl) (by decide) c9 ?_
                refine ax_aload_n (pc := 49) (i := 0) (q := 0) (ax_dd KX9_rugsBy 26 rfl) rfl rfl ?_
                refine ax_getR (pc := 50) (k := 0) (q := 43) (ax_dd KX9_rugsBy 27 rfl) f_X9_74 (hs 0 _ rfl) rfl ?_
                refine ax_getR (pc := 53) (k := 43) (q := 49) (ax_dd KX9_rugsBy 28 rfl) f_X9_295 (hs 43 _ rfl) rfl ?_
                refine ax_iload_n (pc := 56) (i := 1) (q := 1) (ax_dd KX9_rugsBy 29 rfl) rfl rfl ?_
                obtain ⟨j10, b11, h⟩ := ob_bind h
                refine ax_ild (pc := 57) (k := 49) (N := 4) (j := j10) (ax_dd KX9_rugsBy 30 rfl) (hs 49 _ rfl) b11 ?_
                refine ax_iload_n (pc := 58) (i := 2) (q := 2) (ax_dd KX9_rugsBy 31 rfl) rfl rfl ?_
                by_cases c12 : (μ 49 j10) = x2
                · rw [if_pos c12] at h
                  refine ax_icmp_eq_t (pc := 59) (tgt := 65) (ax_dd KX9_rugsBy 32 rfl) (by decide) c12 ?_
                  refine ax_iconst (pc := 65) (v := 0) (ax_dd KX9_rugsBy 35 rfl) (by decide) ?_
                  refine ax_istore (pc := 66) (lv' := [(5, .int 0), (0, .ref (G.1 + 0)), (1, .int x1), (2, .int x2), (3, .int x3), (4, .int x4)]) (ax_dd KX9_rugsBy 36 rfl) (by decide) rfl ?_
                  refine ax_iload_n (pc := 68) (i := 3) (q := 4) (ax_dd KX9_rugsBy 37 rfl) rfl rfl ?_
                  refine ax_istore (pc := 69) (lv' := [(6, .int x3), (5, .int 0), (0, .ref (G.1 + 0)), (1, .int x1), (2, .int x2), (3, .int x3), (4, .int x4)]) (ax_dd KX9_rugsBy 38 rfl) (by decide) rfl ?_
                  refine ax_iconst (pc := 71) (v := 0) (ax_dd KX9_rugsBy 39 rfl) (by decide) ?_
                  refine ax_istore (pc := 72) (lv' := [(7, .int 0), (6, .int x3), (5, .int 0), (0, .ref (G.1 + 0)), (1, .int x1), (2, .int x2), (3, .int x3), (4, .int x4)]) (ax_dd KX9_rugsBy 40 rfl) (by decide) rfl ?_
                  refine ax_sub (lv' := [(0, .ref (G.1 + 0)), (1, .int x1), (4, .int x4), (5, .int 0), (6, .int x3), (7, .int 0)]) [3, 4, 7, 2, 1, 0] rfl ?_
                  exact a_X9_rugsBy_74 hs fu _ _ _ _ _ h
                · rw [if_neg c12] at h
                  refine ax_icmp_eq_f (pc := 59) (tgt := 65) (ax_dd KX9_rugsBy 32 rfl) (by decide) c12 ?_
                  refine ax_bipush (pc := 62) (v := (-13)) (ax_dd KX9_rugsBy 33 rfl) (by decide) ?_
                  obtain rfl := Option.some.inj h
                  exact ax_ireti (pc := 64) (ax_dd KX9_rugsBy 34 rfl) ⟨_, rfl, rfl⟩ rfl
            · rw [if_neg c6] at h
              refine ax_icmp_le_f (pc := 27) (tgt := 33) (ax_dd KX9_rugsBy 14 rfl) (by decide) c6 ?_
              refine ax_bipush (pc := 30) (v := (-2)) (ax_dd KX9_rugsBy 15 rfl) (by decide) ?_
              obtain rfl := Option.some.inj h
              exact ax_ireti (pc := 32) (ax_dd KX9_rugsBy 16 rfl) ⟨_, rfl, rfl⟩ rfl
def m_X9_taken_81 (x2 : Int32) (x3 : Int32) (x4 : Int32) (μ : ax_M) : Option (Int32) :=
  if x4 = 0 then
    (ix 6 x3).bind fun j2 =>
    (m_X9_isA (μ 26 j2) x2 μ).bind fun v4 =>
    if v4 = 0 then
      some (-13)
    else
      some x3
  else
    (ix 6 x3).bind fun j7 =>
    some (μ 31 j7)
set_option maxRecDepth 100000 in
set_option maxHeartbeats 8000000 in
theorem a_X9_taken_81 {G : ax_G} {l : Launch} {sh : List ax_E} {x2 : Int32} {x3 : Int32} {x4 : Int32} {μ : ax_M} (hs : ∀ (k : Nat) (e : ax_E), SHc[k]? = some e → sh[k]? = some e) {v : Int32} (h : m_X9_taken_81 x2 x3 x4 μ = some v) : ax_X G l RX9 cX9_taken 5 (some .int) false 3 (some (.int v), sh, μ) 81 [(0, .ref (G.1 + 0)), (2, .int x2), (3, .int x3), (4, .int x4)] [] sh μ := by
  unfold m_X9_taken_81 at h
  refine ax_iload (pc := 81) (q := 3) (ax_dd KX9_taken 43 rfl) rfl ?_
  by_cases c1 : x4 = 0
  · rw [if_pos c1] at h
    refine ax_if_eq_t (pc := 83) (tgt := 96) (ax_dd KX9_taken 44 rfl) (by decide) c1 ?_
    refine ax_aload_n (pc := 96) (i := 0) (q := 0) (ax_dd KX9_taken 51 rfl) rfl rfl ?_
    refine ax_getR (pc := 97) (k := 0) (q := 25) (ax_dd KX9_taken 52 rfl) f_X9_37 (hs 0 _ rfl) rfl ?_
    refine ax_getR (pc := 100) (k := 25) (q := 26) (ax_dd KX9_taken 53 rfl) f_X9_145 (hs 25 _ rfl) rfl ?_
    refine ax_iload_n (pc := 103) (i := 3) (q := 2) (ax_dd KX9_taken 54 rfl) rfl rfl ?_
    obtain ⟨j2, b3, h⟩ := ob_bind h
    refine ax_ild (pc := 104) (k := 26) (N := 6) (j := j2) (ax_dd KX9_taken 55 rfl) (hs 26 _ rfl) b3 ?_
    refine ax_iload_n (pc := 105) (i := 2) (q := 1) (ax_dd KX9_taken 56 rfl) rfl rfl ?_
    obtain ⟨v4, b5, h⟩ := ob_bind h
    refine ax_kS (pc := 106) (As := [.int (μ 26 j2), .int x2]) (rest := []) (st1 := [.int v4]) (μ1 := μ) (ax_dd KX9_taken 57 rfl) (c_X9_isA hs b5) kS_X9_307 e_X9_isA rfl rfl (by decide) (by decide) (Nat.le_of_ble_eq_true rfl) rfl ?_
    by_cases c6 : v4 = 0
    · rw [if_pos c6] at h
      refine ax_if_eq_t (pc := 109) (tgt := 116) (ax_dd KX9_taken 58 rfl) (by decide) c6 ?_
      refine ax_bipush (pc := 116) (v := (-13)) (ax_dd KX9_taken 61 rfl) (by decide) ?_
      obtain rfl := Option.some.inj h
      exact ax_ireti (pc := 118) (ax_dd KX9_taken 62 rfl) ⟨_, rfl, rfl⟩ rfl
    · rw [if_neg c6] at h
      refine ax_if_eq_f (pc := 109) (tgt := 116) (ax_dd KX9_taken 58 rfl) (by decide) c6 ?_
      refine ax_iload_n (pc := 112) (i := 3) (q := 2) (ax_dd KX9_taken 59 rfl) rfl rfl ?_
      refine ax_goto (pc := 113) (tgt := 118) (ax_dd KX9_taken 60 rfl) (by decide) ?_
      obtain rfl := Option.some.inj h
      exact ax_ireti (pc := 118) (ax_dd KX9_taken 62 rfl) ⟨_, rfl, rfl⟩ rfl
  · rw [if_neg c1] at h
    refine ax_if_eq_f (pc := 83) (tgt := 96) (ax_dd KX9_taken 44 rfl) (by decide) c1 ?_
    refine ax_aload_n (pc := 86) (i := 0) (q := 0) (ax_dd KX9_taken 45 rfl) rfl rfl ?_
    refine ax_getR (pc := 87) (k := 0) (q := 25) (ax_dd KX9_taken 46 rfl) f_X9_37 (hs 0 _ rfl) rfl ?_
    refine ax_getR (pc := 90) (k := 25) (q := 31) (ax_dd KX9_taken 47 rfl) f_X9_141 (hs 25 _ rfl) rfl ?_
    refine ax_iload_n (pc := 93) (i := 3) (q := 2) (ax_dd KX9_taken 48 rfl) rfl rfl ?_
    obtain ⟨j7, b8, h⟩ := ob_bind h
    refine ax_ild (pc := 94) (k := 31) (N := 6) (j := j7) (ax_dd KX9_taken 49 rfl) (hs 31 _ rfl) b8 ?_
    obtain rfl := Option.some.inj h
    exact ax_ireti (pc := 95) (ax_dd KX9_taken 50 rfl) ⟨_, rfl, rfl⟩ rfl
def m_X9_taken_56 (x1 : Int32) (x2 : Int32) (x3 : Int32) (s0 : Int32) (μ : ax_M) : Option (Int32) :=
  if s0 = 0 then
    if x1 < 6 then
      m_X9_taken_81 x2 x3 s0 μ
    else
      some (-13)
  else
    if 6 ≤ x1 then
      m_X9_taken_81 x2 x3 s0 μ
    else
      some (-13)
set_option maxRecDepth 100000 in
set_option maxHeartbeats 8000000 in
theorem a_X9_taken_56 {G : ax_G} {l : Launch} {sh : List ax_E} {x1 : Int32} {x2 : Int32} {x3 : Int32} {s0 : Int32} {μ : ax_M} (hs : ∀ (k : Nat) (e : ax_E), SHc[k]? = some e → sh[k]? = some e) {v : Int32} (h : m_X9_taken_56 x1 x2 x3 s0 μ = some v) : ax_X G l RX9 cX9_taken 5 (some .int) false 3 (some (.int v), sh, μ) 56 [(0, .ref (G.1 + 0)), (1, .int x1), (2, .int x2), (3, .int x3)] [.int s0] sh μ := by
  unfold m_X9_taken_56 at h
  refine ax_istore (pc := 56) (lv' := [(4, .int s0), (0, .ref (G.1 + 0)), (1, .int x1), (2, .int x2), (3, .int x3)]) (ax_dd KX9_taken 31 rfl) (by decide) rfl ?_
  refine ax_iload (pc := 58) (q := 0) (ax_dd KX9_taken 32 rfl) rfl ?_
  by_cases c1 : s0 = 0
  · rw [if_pos c1] at h
    refine ax_if_eq_t (pc := 60) (tgt := 72) (ax_dd KX9_taken 33 rfl) (by decide) c1 ?_
    refine ax_iload_n (pc := 72) (i := 1) (q := 2) (ax_dd KX9_taken 38 rfl) rfl rfl ?_
    refine ax_bipush (pc := 73) (v := 6) (ax_dd KX9_taken 39 rfl) (by decide) ?_
    by_cases c2 : x1 < 6
    · rw [if_pos c2] at h
      refine ax_icmp_lt_t (pc := 75) (tgt := 81) (ax_dd KX9_taken 40 rfl) (by decide) c2 ?_
      refine ax_sub (lv' := [(0, .ref (G.1 + 0)), (2, .int x2), (3, .int x3), (4, .int s0)]) [1, 3, 4, 0] rfl ?_
      exact a_X9_taken_81 hs h
    · rw [if_neg c2] at h
      refine ax_icmp_lt_f (pc := 75) (tgt := 81) (ax_dd KX9_taken 40 rfl) (by decide) c2 ?_
      refine ax_bipush (pc := 78) (v := (-13)) (ax_dd KX9_taken 41 rfl) (by decide) ?_
      obtain rfl := Option.some.inj h
      exact ax_ireti (pc := 80) (ax_dd KX9_taken 42 rfl) ⟨_, rfl, rfl⟩ rfl
  · rw [if_neg c1] at h
    refine ax_if_eq_f (pc := 60) (tgt := 72) (ax_dd KX9_taken 33 rfl) (by decide) c1 ?_
    refine ax_iload_n (pc := 63) (i := 1) (q := 2) (ax_dd KX9_taken 34 rfl) rfl rfl ?_
    refine ax_bipush (pc := 64) (v := 6) (ax_dd KX9_taken 35 rfl) (by decide) ?_
    by_cases c3 : 6 ≤ x1
    · rw [if_pos c3] at h
      refine ax_icmp_ge_t (pc := 66) (tgt := 81) (ax_dd KX9_taken 36 rfl) (by decide) c3 ?_
      refine ax_sub (lv' := [(0, .ref (G.1 + 0)), (2, .int x2), (3, .int x3), (4, .int s0)]) [1, 3, 4, 0] rfl ?_
      exact a_X9_taken_81 hs h
    · rw [if_neg c3] at h
      refine ax_icmp_ge_f (pc := 66) (tgt := 81) (ax_dd KX9_taken 36 rfl) (by decide) c3 ?_
      refine ax_goto (pc := 69) (tgt := 78) (ax_dd KX9_taken 37 rfl) (by decide) ?_
      refine ax_bipush (pc := 78) (v := (-13)) (ax_dd KX9_taken 41 rfl) (by decide) ?_
      obtain rfl := Option.some.inj h
      exact ax_ireti (pc := 80) (ax_dd KX9_taken 42 rfl) ⟨_, rfl, rfl⟩ rfl
def m_X9_taken (x1 : Int32) (x2 : Int32) (μ : ax_M) : Option (Int32) :=
  if x2 < 0 then
    some (-2)
  else
    if x2 ≤ 6 then
      if x1 < 0 then
        some (-12)
      else
        if x1 < 12 then
          (m_X0_isRug (rmI x1 6) μ).bind fun v5 =>
          if v5 = 0 then
            some (-11)
          else
            if x2 = 6 then
              m_X9_taken_56 x1 x2 (rmI x1 6) 1 μ
            else
              m_X9_taken_56 x1 x2 (rmI x1 6) 0 μ
        else
          some (-12)
    else
      some (-2)
set_option maxRecDepth 100000 in
set_option maxHeartbeats 8000000 in
theorem c_X9_taken {G : ax_G} {l : Launch} {sh : List ax_E} {x1 : Int32} {x2 : Int32} {μ : ax_M} (hs : ∀ (k : Nat) (e : ax_E), SHc[k]? = some e → sh[k]? = some e) {v : Int32} (h : m_X9_taken x1 x2 μ = some v) : ax_A G l yX9_taken cX9_taken 5 (some .int) 3 [.ref (G.1 + 0), .int x1, .int x2] sh μ (some (.int v), sh, μ) := by
  refine ax_A.of false (by decide +kernel) (fun h9 => by cases h9) (Nat.le_of_ble_eq_true rfl) (?_ : ax_X G l RX9 cX9_taken 5 (some .int) false 3 (some (.int v), sh, μ) 0 [(0, .ref (G.1 + 0)), (1, .int x1), (2, .int x2)] [] sh μ)
  unfold m_X9_taken at h
  refine ax_iload_n (pc := 0) (i := 2) (q := 2) (ax_dd KX9_taken 0 rfl) rfl rfl ?_
  by_cases c1 : x2 < 0
  · rw [if_pos c1] at h
    refine ax_if_lt_t (pc := 1) (tgt := 10) (ax_dd KX9_taken 1 rfl) (by decide) c1 ?_
    refine ax_bipush (pc := 10) (v := (-2)) (ax_dd KX9_taken 5 rfl) (by decide) ?_
    obtain rfl := Option.some.inj h
    exact ax_ireti (pc := 12) (ax_dd KX9_taken 6 rfl) ⟨_, rfl, rfl⟩ rfl
  · rw [if_neg c1] at h
    refine ax_if_lt_f (pc := 1) (tgt := 10) (ax_dd KX9_taken 1 rfl) (by decide) c1 ?_
    refine ax_iload_n (pc := 4) (i := 2) (q := 2) (ax_dd KX9_taken 2 rfl) rfl rfl ?_
    refine ax_bipush (pc := 5) (v := 6) (ax_dd KX9_taken 3 rfl) (by decide) ?_
    by_cases c2 : x2 ≤ 6
    · rw [if_pos c2] at h
      refine ax_icmp_le_t (pc := 7) (tgt := 13) (ax_dd KX9_taken 4 rfl) (by decide) c2 ?_
      refine ax_iload_n (pc := 13) (i := 1) (q := 1) (ax_dd KX9_taken 7 rfl) rfl rfl ?_
      by_cases c3 : x1 < 0
      · rw [if_pos c3] at h
        refine ax_if_lt_t (pc := 14) (tgt := 23) (ax_dd KX9_taken 8 rfl) (by decide) c3 ?_
        refine ax_bipush (pc := 23) (v := (-12)) (ax_dd KX9_taken 12 rfl) (by decide) ?_
        obtain rfl := Option.some.inj h
        exact ax_ireti (pc := 25) (ax_dd KX9_taken 13 rfl) ⟨_, rfl, rfl⟩ rfl
      · rw [if_neg c3] at h
        refine ax_if_lt_f (pc := 14) (tgt := 23) (ax_dd KX9_taken 8 rfl) (by decide) c3 ?_
        refine ax_iload_n (pc := 17) (i := 1) (q := 1) (ax_dd KX9_taken 9 rfl) rfl rfl ?_
        refine ax_bipush (pc := 18) (v := 12) (ax_dd KX9_taken 10 rfl) (by decide) ?_
        by_cases c4 : x1 < 12
        · rw [if_pos c4] at h
          refine ax_icmp_lt_t (pc := 20) (tgt := 26) (ax_dd KX9_taken 11 rfl) (by decide) c4 ?_
          refine ax_iload_n (pc := 26) (i := 1) (q := 1) (ax_dd KX9_taken 14 rfl) rfl rfl ?_
          refine ax_bipush (pc := 27) (v := 6) (ax_dd KX9_taken 15 rfl) (by decide) ?_
          refine ax_irem (pc := 29) (ax_dd KX9_taken 16 rfl) (by decide) ?_
          refine ax_istore_n (pc := 30) (i := 3) (lv' := [(3, .int (rmI x1 6)), (0, .ref (G.1 + 0)), (1, .int x1), (2, .int x2)]) (ax_dd KX9_taken 17 rfl) rfl (by decide) rfl ?_
          refine ax_aload_n (pc := 31) (i := 0) (q := 1) (ax_dd KX9_taken 18 rfl) rfl rfl ?_
          refine ax_getR (pc := 32) (k := 0) (q := 25) (ax_dd KX9_taken 19 rfl) f_X9_37 (hs 0 _ rfl) rfl ?_
          refine ax_iload_n (pc := 35) (i := 3) (q := 0) (ax_dd KX9_taken 20 rfl) rfl rfl ?_
          obtain ⟨v5, b6, h⟩ := ob_bind h
          refine ax_kV (pc := 36) (ci := 0) (k := 25) (As := [.int (rmI x1 6)]) (rest := []) (st1 := [.int v5]) (μ1 := μ) (ax_dd KX9_taken 21 rfl) (c_X0_isRug hs b6) kV_X9_117 e_X0_isRug (hs 25 _ rfl) cl_X0 (by decide) rfl rfl (by decide) (by decide) (Nat.le_of_ble_eq_true rfl) rfl ?_
          by_cases c7 : v5 = 0
          · rw [if_pos c7] at h
            refine ax_if_ne_f (pc := 39) (tgt := 45) (ax_dd KX9_taken 22 rfl) (by decide) (fun z => z c7) ?_
            refine ax_bipush (pc := 42) (v := (-11)) (ax_dd KX9_taken 23 rfl) (by decide) ?_
            obtain rfl := Option.some.inj h
            exact ax_ireti (pc := 44) (ax_dd KX9_taken 24 rfl) ⟨_, rfl, rfl⟩ rfl
          · rw [if_neg c7] at h
            refine ax_if_ne_t (pc := 39) (tgt := 45) (ax_dd KX9_taken 22 rfl) (by decide) c7 ?_
            refine ax_iload_n (pc := 45) (i := 2) (q := 3) (ax_dd KX9_taken 25 rfl) rfl rfl ?_
            refine ax_bipush (pc := 46) (v := 6) (ax_dd KX9_taken 26 rfl) (by decide) ?_
            by_cases c8 : x2 = 6
            · rw [if_pos c8] at h
              refine ax_icmp_ne_f (pc := 48) (tgt := 55) (ax_dd KX9_taken 27 rfl) (by decide) (fun z => z c8) ?_
              refine ax_iconst (pc := 51) (v := 1) (ax_dd KX9_taken 28 rfl) (by decide) ?_
              refine ax_goto (pc := 52) (tgt := 56) (ax_dd KX9_taken 29 rfl) (by decide) ?_
              refine ax_sub (lv' := [(0, .ref (G.1 + 0)), (1, .int x1), (2, .int x2), (3, .int (rmI x1 6))]) [1, 2, 3, 0] rfl ?_
              exact a_X9_taken_56 hs h
            · rw [if_neg c8] at h
              refine ax_icmp_ne_t (pc := 48) (tgt := 55) (ax_dd KX9_taken 27 rfl) (by decide) c8 ?_
              refine ax_iconst (pc := 55) (v := 0) (ax_dd KX9_taken 30 rfl) (by decide) ?_
              refine ax_sub (lv' := [(0, .ref (G.1 + 0)), (1, .int x1), (2, .int x2), (3, .int (rmI x1 6))]) [1, 2, 3, 0] rfl ?_
              exact a_X9_taken_56 hs h
        · rw [if_neg c4] at h
          refine ax_icmp_lt_f (pc := 20) (tgt := 26) (ax_dd KX9_taken 11 rfl) (by decide) c4 ?_
          refine ax_bipush (pc := 23) (v := (-12)) (ax_dd KX9_taken 12 rfl) (by decide) ?_
          obtain rfl := Option.some.inj h
          exact ax_ireti (pc := 25) (ax_dd KX9_taken 13 rfl) ⟨_, rfl, rfl⟩ rfl
    · rw [if_neg c2] at h
      refine ax_icmp_le_f (pc := 7) (tgt := 13) (ax_dd KX9_taken 4 rfl) (by decide) c2 ?_
      refine ax_bipush (pc := 10) (v := (-2)) (ax_dd KX9_taken 5 rfl) (by decide) ?_
      obtain rfl := Option.some.inj h
      exact ax_ireti (pc := 12) (ax_dd KX9_taken 6 rfl) ⟨_, rfl, rfl⟩ rfl
