def m_X8_stepCost (x1 : Int32) (x2 : Int32) (x3 : Int32) (μ : ax_M) : Option (Int32) :=
  if x3 = 0 then
    (ix 36 x2).bind fun j2 =>
    some (μ 33 j2)
  else
    if x3 = 1 then
      (ix 36 x1).bind fun j5 =>
      (ix 36 x2).bind fun j7 =>
      if (μ 32 j5) = (μ 32 j7) then
        some 0
      else
        some 1
    else
      some 1
set_option maxRecDepth 100000 in
set_option maxHeartbeats 8000000 in
theorem c_X8_stepCost {G : ax_G} {l : Launch} {sh : List ax_E} {x1 : Int32} {x2 : Int32} {x3 : Int32} {μ : ax_M} (hs : ∀ (k : Nat) (e : ax_E), SHc[k]? = some e → sh[k]? = some e) {v : Int32} (h : m_X8_stepCost x1 x2 x3 μ = some v) : ax_A G l yX8_stepCost cX8_stepCost 4 (some .int) 2 [.ref (G.1 + 35), .int x1, .int x2, .int x3] sh μ (some (.int v), sh, μ) := by
  refine ax_A.of false (by decide +kernel) (fun h9 => by cases h9) (Nat.le_of_ble_eq_true rfl) (?_ : ax_X G l RX8 cX8_stepCost 4 (some .int) false 2 (some (.int v), sh, μ) 0 [(0, .ref (G.1 + 35)), (1, .int x1), (2, .int x2), (3, .int x3)] [] sh μ)
  unfold m_X8_stepCost at h
  refine ax_iload_n (pc := 0) (i := 3) (q := 3) (ax_dd KX8_stepCost 0 rfl) rfl rfl ?_
  by_cases c1 : x3 = 0
  · rw [if_pos c1] at h
    refine ax_look (pc := 1) (off := 27) (tgt := 28) (ax_dd KX8_stepCost 1 rfl) (by decide) (by rw [c1]; rfl) (by decide) ?_
    refine ax_aload_n (pc := 28) (i := 0) (q := 0) (ax_dd KX8_stepCost 2 rfl) rfl rfl ?_
    refine ax_getR (pc := 29) (k := 35) (q := 25) (ax_dd KX8_stepCost 3 rfl) f_X8_19 (hs 35 _ rfl) rfl ?_
    refine ax_getR (pc := 32) (k := 25) (q := 33) (ax_dd KX8_stepCost 4 rfl) f_X8_41 (hs 25 _ rfl) rfl ?_
    refine ax_iload_n (pc := 35) (i := 2) (q := 2) (ax_dd KX8_stepCost 5 rfl) rfl rfl ?_
    obtain ⟨j2, b3, h⟩ := ob_bind h
    refine ax_ild (pc := 36) (k := 33) (N := 36) (j := j2) (ax_dd KX8_stepCost 6 rfl) (hs 33 _ rfl) b3 ?_
    obtain rfl := Option.some.inj h
    exact ax_ireti (pc := 37) (ax_dd KX8_stepCost 7 rfl) ⟨_, rfl, rfl⟩ rfl
  · rw [if_neg c1] at h
    by_cases c4 : x3 = 1
    · rw [if_pos c4] at h
      refine ax_look (pc := 1) (off := 37) (tgt := 38) (ax_dd KX8_stepCost 1 rfl) (by decide) (by rw [c4]; rfl) (by decide) ?_
      refine ax_aload_n (pc := 38) (i := 0) (q := 0) (ax_dd KX8_stepCost 8 rfl) rfl rfl ?_
      refine ax_getR (pc := 39) (k := 35) (q := 25) (ax_dd KX8_stepCost 9 rfl) f_X8_19 (hs 35 _ rfl) rfl ?_
      refine ax_getR (pc := 42) (k := 25) (q := 32) (ax_dd KX8_stepCost 10 rfl) f_X8_44 (hs 25 _ rfl) rfl ?_
      refine ax_iload_n (pc := 45) (i := 1) (q := 1) (ax_dd KX8_stepCost 11 rfl) rfl rfl ?_
      obtain ⟨j5, b6, h⟩ := ob_bind h
      refine ax_ild (pc := 46) (k := 32) (N := 36) (j := j5) (ax_dd KX8_stepCost 12 rfl) (hs 32 _ rfl) b6 ?_
      refine ax_aload_n (pc := 47) (i := 0) (q := 0) (ax_dd KX8_stepCost 13 rfl) rfl rfl ?_
      refine ax_getR (pc := 48) (k := 35) (q := 25) (ax_dd KX8_stepCost 14 rfl) f_X8_19 (hs 35 _ rfl) rfl ?_
      refine ax_getR (pc := 51) (k := 25) (q := 32) (ax_dd KX8_stepCost 15 rfl) f_X8_44 (hs 25 _ rfl) rfl ?_
      refine ax_iload_n (pc := 54) (i := 2) (q := 2) (ax_dd KX8_stepCost 16 rfl) rfl rfl ?_
      obtain ⟨j7, b8, h⟩ := ob_bind h
      refine ax_ild (pc := 55) (k := 32) (N := 36) (j := j7) (ax_dd KX8_stepCost 17 rfl) (hs 32 _ rfl) b8 ?_
      by_cases c9 : (μ 32 j5) = (μ 32 j7)
      · rw [if_pos c9] at h
        refine ax_icmp_ne_f (pc := 56) (tgt := 63) (ax_dd KX8_stepCost 18 rfl) (by decide) (fun z => z c9) ?_
        refine ax_iconst (pc := 59) (v := 0) (ax_dd KX8_stepCost 19 rfl) (by decide) ?_
        refine ax_goto (pc := 60) (tgt := 64) (ax_dd KX8_stepCost 20 rfl) (by decide) ?_
        obtain rfl := Option.some.inj h
        exact ax_ireti (pc := 64) (ax_dd KX8_stepCost 22 rfl) ⟨_, rfl, rfl⟩ rfl
      · rw [if_neg c9] at h
        refine ax_icmp_ne_t (pc := 56) (tgt := 63) (ax_dd KX8_stepCost 18 rfl) (by decide) c9 ?_
        refine ax_iconst (pc := 63) (v := 1) (ax_dd KX8_stepCost 21 rfl) (by decide) ?_
        obtain rfl := Option.some.inj h
        exact ax_ireti (pc := 64) (ax_dd KX8_stepCost 22 rfl) ⟨_, rfl, rfl⟩ rfl
    · rw [if_neg c4] at h
      refine ax_look (pc := 1) (off := 64) (tgt := 65) (ax_dd KX8_stepCost 1 rfl) (by decide) ((lv_osw c1 rfl).trans ((lv_osw c4 rfl).trans (rfl))) (by decide) ?_
      refine ax_iconst (pc := 65) (v := 1) (ax_dd KX8_stepCost 23 rfl) (by decide) ?_
      obtain rfl := Option.some.inj h
      exact ax_ireti (pc := 66) (ax_dd KX8_stepCost 24 rfl) ⟨_, rfl, rfl⟩ rfl
def m_X8_lowersBeside_75 (x1 : Int32) (x2 : Int32) (x4 : Int32) (x5 : Int32) (x6 : Int32) (k5 : Int32 → Int32 → ax_M → Option (Int32 × ax_M)) (μ : ax_M) : Option (Int32 × ax_M) :=
  (ix 36 x5).bind fun j1 =>
  k5 1 (x4 + 1) (ax_w μ 37 j1 x6)
set_option maxRecDepth 100000 in
set_option maxHeartbeats 8000000 in
theorem a_X8_lowersBeside_75 {G : ax_G} {l : Launch} {sh : List ax_E} {x1 : Int32} {x2 : Int32} {x4 : Int32} {x5 : Int32} {x6 : Int32} {k5 : Int32 → Int32 → ax_M → Option (Int32 × ax_M)} {μ : ax_M} (hs : ∀ (k : Nat) (e : ax_E), SHc[k]? = some e → sh[k]? = some e) (hk5 : ∀ (x3 : Int32) (x4 : Int32) (μ : ax_M) (v : Int32 × ax_M), k5 x3 x4 μ = some v → ax_X G l RX8 cX8_lowersBeside 7 (some .boolean) false 4 (some (.int v.1), sh, v.2) 5 [(0, .ref (G.1 + 35)), (1, .int x1), (2, .int x2), (3, .int x3), (4, .int x4)] [] sh μ) {v : Int32 × ax_M} (h : m_X8_lowersBeside_75 x1 x2 x4 x5 x6 k5 μ = some v) : ax_X G l RX8 cX8_lowersBeside 7 (some .boolean) false 4 (some (.int v.1), sh, v.2) 75 [(0, .ref (G.1 + 35)), (1, .int x1), (2, .int x2), (4, .int x4), (5, .int x5), (6, .int x6)] [] sh μ := by
  unfold m_X8_lowersBeside_75 at h
  refine ax_aload_n (pc := 75) (i := 0) (q := 0) (ax_dd KX8_lowersBeside 42 rfl) rfl rfl ?_
  refine ax_getR (pc := 76) (k := 35) (q := 37) (ax_dd KX8_lowersBeside 43 rfl) f_X8_15 (hs 35 _ rfl) rfl ?_
  refine ax_iload (pc := 79) (q := 4) (ax_dd KX8_lowersBeside 44 rfl) rfl ?_
  refine ax_iload (pc := 81) (q := 5) (ax_dd KX8_lowersBeside 45 rfl) rfl ?_
  obtain ⟨j1, b2, h⟩ := ob_bind h
  refine ax_ist (pc := 83) (k := 37) (N := 36) (j := j1) (ax_dd KX8_lowersBeside 46 rfl) (hs 37 _ rfl) b2 ?_
  refine ax_iconst (pc := 84) (v := 1) (ax_dd KX8_lowersBeside 47 rfl) (by decide) ?_
  refine ax_istore_n (pc := 85) (i := 3) (lv' := [(3, .int 1), (0, .ref (G.1 + 35)), (1, .int x1), (2, .int x2), (4, .int x4), (5, .int x5), (6, .int x6)]) (ax_dd KX8_lowersBeside 48 rfl) rfl (by decide) rfl ?_
  refine ax_iinc (pc := 86) (q := 4) (v := (x4 + 1)) (lv' := [(4, .int (x4 + 1)), (3, .int 1), (0, .ref (G.1 + 35)), (1, .int x1), (2, .int x2), (5, .int x5), (6, .int x6)]) (ax_dd KX8_lowersBeside 49 rfl) rfl rfl (by decide) rfl ?_
  refine ax_goto (pc := 89) (tgt := 5) (ax_dd KX8_lowersBeside 50 rfl) (by decide) ?_
  refine ax_sub (lv' := [(0, .ref (G.1 + 35)), (1, .int x1), (2, .int x2), (3, .int 1), (4, .int (x4 + 1))]) [2, 3, 4, 1, 0] rfl ?_
  exact hk5 _ _ _ _ h
def m_X8_lowersBeside_5 (x1 : Int32) (x2 : Int32) : Nat → Int32 → Int32 → ax_M → Option (Int32 × ax_M)
  | 0, _, _, _ => none
  | n + 1, x3, x4, μ =>
    if 4 ≤ x4 then
      if x3 = 0 ∨ x3 = 1 then
        some (x3, μ)
      else
        none
    else
      (m_X9_stepFrom x1 x4 μ).bind fun v3 =>
      if v3 = (-1) then
        m_X8_lowersBeside_5 x1 x2 n x3 (x4 + 1) μ
      else
        (ix 36 v3).bind fun j6 =>
        if (μ 36 j6) = 0 then
          m_X8_lowersBeside_5 x1 x2 n x3 (x4 + 1) μ
        else
          (ix 36 x1).bind fun j9 =>
          (m_X8_stepCost x1 v3 x2 μ).bind fun v11 =>
          (ix 36 v3).bind fun j13 =>
          if (μ 37 j13) = (-1) then
            m_X8_lowersBeside_75 x1 x2 x4 v3 ((μ 37 j9) + v11) (m_X8_lowersBeside_5 x1 x2 n) μ
          else
            (ix 36 v3).bind fun j16 =>
            if (μ 37 j16) ≤ ((μ 37 j9) + v11) then
              m_X8_lowersBeside_5 x1 x2 n x3 (x4 + 1) μ
            else
              m_X8_lowersBeside_75 x1 x2 x4 v3 ((μ 37 j9) + v11) (m_X8_lowersBeside_5 x1 x2 n) μ
set_option maxRecDepth 100000 in
set_option maxHeartbeats 8000000 in
theorem a_X8_lowersBeside_5 {G : ax_G} {l : Launch} {sh : List ax_E} {x1 : Int32} {x2 : Int32} (hs : ∀ (k : Nat) (e : ax_E), SHc[k]? = some e → sh[k]? = some e) : ∀ (n : Nat) (x3 : Int32) (x4 : Int32) (μ : ax_M) (v : Int32 × ax_M), m_X8_lowersBeside_5 x1 x2 n x3 x4 μ = some v → ax_X G l RX8 cX8_lowersBeside 7 (some .boolean) false 4 (some (.int v.1), sh, v.2) 5 [(0, .ref (G.1 + 35)), (1, .int x1), (2, .int x2), (3, .int x3), (4, .int x4)] [] sh μ := by
  intro n
  induction n with
  | zero =>
    intro x3 x4 μ v h
    rw [m_X8_lowersBeside_5] at h
    cases h
  | succ n ih =>
    intro x3 x4 μ v h
    rw [m_X8_lowersBeside_5] at h
    refine ax_iload (pc := 5) (q := 4) (ax_dd KX8_lowersBeside 4 rfl) rfl ?_
    refine ax_iconst (pc := 7) (v := 4) (ax_dd KX8_lowersBeside 5 rfl) (by decide) ?_
    by_cases c1 : 4 ≤ x4
    · rw [if_pos c1] at h
      refine ax_icmp_ge_t (pc := 8) (tgt := 92) (ax_dd KX8_lowersBeside 6 rfl) (by decide) c1 ?_
      refine ax_iload_n (pc := 92) (i := 3) (q := 3) (ax_dd KX8_lowersBeside 51 rfl) rfl rfl ?_
      by_cases c2 : x3 = 0 ∨ x3 = 1
      · rw [if_pos c2] at h
        obtain rfl := Option.some.inj h
        exact ax_ireti (pc := 93) (ax_dd KX8_lowersBeside 52 rfl) ⟨_, rfl, ax_nb c2⟩ rfl
      · rw [if_neg c2] at h
        cases h
    · rw [if_neg c1] at h
      refine ax_icmp_ge_f (pc := 8) (tgt := 92) (ax_dd KX8_lowersBeside 6 rfl) (by decide) c1 ?_
      refine ax_iload_n (pc := 11) (i := 1) (q := 1) (ax_dd KX8_lowersBeside 7 rfl) rfl rfl ?_
      refine ax_iload (pc := 12) (q := 4) (ax_dd KX8_lowersBeside 8 rfl) rfl ?_
      obtain ⟨v3, b4, h⟩ := ob_bind h
      refine ax_kSN (pc := 14) (i := 6) (As := [.int x1, .int x4]) (rest := []) (st1 := [.int v3]) (μ1 := μ) (ax_dd KX8_lowersBeside 9 rfl) (c_X9_stepFrom hs b4) kN_X8_37 rfl e_X9_stepFrom rfl rfl (by decide) (by decide) (Nat.le_of_ble_eq_true rfl) rfl ?_
      refine ax_istore (pc := 17) (lv' := [(5, .int v3), (0, .ref (G.1 + 35)), (1, .int x1), (2, .int x2), (3, .int x3), (4, .int x4)]) (ax_dd KX8_lowersBeside 10 rfl) (by decide) rfl ?_
      refine ax_iload (pc := 19) (q := 0) (ax_dd KX8_lowersBeside 11 rfl) rfl ?_
      refine ax_iconst (pc := 21) (v := (-1)) (ax_dd KX8_lowersBeside 12 rfl) (by decide) ?_
      by_cases c5 : v3 = (-1)
      · rw [if_pos c5] at h
        refine ax_icmp_eq_t (pc := 22) (tgt := 86) (ax_dd KX8_lowersBeside 13 rfl) (by decide) c5 ?_
        refine ax_iinc (pc := 86) (q := 5) (v := (x4 + 1)) (lv' := [(4, .int (x4 + 1)), (5, .int v3), (0, .ref (G.1 + 35)), (1, .int x1), (2, .int x2), (3, .int x3)]) (ax_dd KX8_lowersBeside 49 rfl) rfl rfl (by decide) rfl ?_
        refine ax_goto (pc := 89) (tgt := 5) (ax_dd KX8_lowersBeside 50 rfl) (by decide) ?_
        refine ax_sub (lv' := [(0, .ref (G.1 + 35)), (1, .int x1), (2, .int x2), (3, .int x3), (4, .int (x4 + 1))]) [2, 3, 4, 5, 0] rfl ?_
        exact ih _ _ _ _ h
      · rw [if_neg c5] at h
        refine ax_icmp_eq_f (pc := 22) (tgt := 86) (ax_dd KX8_lowersBeside 13 rfl) (by decide) c5 ?_
        refine ax_aload_n (pc := 25) (i := 0) (q := 1) (ax_dd KX8_lowersBeside 14 rfl) rfl rfl ?_
        refine ax_getR (pc := 26) (k := 35) (q := 36) (ax_dd KX8_lowersBeside 15 rfl) f_X8_9 (hs 35 _ rfl) rfl ?_
        refine ax_iload (pc := 29) (q := 0) (ax_dd KX8_lowersBeside 16 rfl) rfl ?_
        obtain ⟨j6, b7, h⟩ := ob_bind h
        refine ax_zld (pc := 31) (k := 36) (N := 36) (j := j6) (ax_dd KX8_lowersBeside 17 rfl) (hs 36 _ rfl) b7 ?_
        by_cases c8 : (μ 36 j6) = 0
        · rw [if_pos c8] at h
          refine ax_if_eq_t (pc := 32) (tgt := 86) (ax_dd KX8_lowersBeside 18 rfl) (by decide) c8 ?_
          refine ax_iinc (pc := 86) (q := 5) (v := (x4 + 1)) (lv' := [(4, .int (x4 + 1)), (5, .int v3), (0, .ref (G.1 + 35)), (1, .int x1), (2, .int x2), (3, .int x3)]) (ax_dd KX8_lowersBeside 49 rfl) rfl rfl (by decide) rfl ?_
          refine ax_goto (pc := 89) (tgt := 5) (ax_dd KX8_lowersBeside 50 rfl) (by decide) ?_
          refine ax_sub (lv' := [(0, .ref (G.1 + 35)), (1, .int x1), (2, .int x2), (3, .int x3), (4, .int (x4 + 1))]) [2, 3, 4, 5, 0] rfl ?_
          exact ih _ _ _ _ h
        · rw [if_neg c8] at h
          refine ax_if_eq_f (pc := 32) (tgt := 86) (ax_dd KX8_lowersBeside 18 rfl) (by decide) c8 ?_
          refine ax_aload_n (pc := 35) (i := 0) (q := 1) (ax_dd KX8_lowersBeside 19 rfl) rfl rfl ?_
          refine ax_getR (pc := 36) (k := 35) (q := 37) (ax_dd KX8_lowersBeside 20 rfl) f_X8_15 (hs 35 _ rfl) rfl ?_
          refine ax_iload_n (pc := 39) (i := 1) (q := 2) (ax_dd KX8_lowersBeside 21 rfl) rfl rfl ?_
          obtain ⟨j9, b10, h⟩ := ob_bind h
          refine ax_ild (pc := 40) (k := 37) (N := 36) (j := j9) (ax_dd KX8_lowersBeside 22 rfl) (hs 37 _ rfl) b10 ?_
          refine ax_aload_n (pc := 41) (i := 0) (q := 1) (ax_dd KX8_lowersBeside 23 rfl) rfl rfl ?_
          refine ax_iload_n (pc := 42) (i := 1) (q := 2) (ax_dd KX8_lowersBeside 24 rfl) rfl rfl ?_
          refine ax_iload (pc := 43) (q := 0) (ax_dd KX8_lowersBeside 25 rfl) rfl ?_
          refine ax_iload_n (pc := 45) (i := 2) (q := 3) (ax_dd KX8_lowersBeside 26 rfl) rfl rfl ?_
          obtain ⟨v11, b12, h⟩ := ob_bind h
          refine ax_kV (pc := 46) (ci := 8) (k := 35) (As := [.int x1, .int v3, .int x2]) (rest := [.int (μ 37 j9)]) (st1 := [.int v11, .int (μ 37 j9)]) (μ1 := μ) (ax_dd KX8_lowersBeside 27 rfl) (c_X8_stepCost hs b12) kV_X8_29 e_X8_stepCost (hs 35 _ rfl) cl_X8 (by decide) rfl rfl (by decide) (by decide) (Nat.le_of_ble_eq_true rfl) rfl ?_
          refine ax_iadd (pc := 49) (ax_dd KX8_lowersBeside 28 rfl) ?_
          refine ax_istore (pc := 50) (lv' := [(6, .int ((μ 37 j9) + v11)), (5, .int v3), (0, .ref (G.1 + 35)), (1, .int x1), (2, .int x2), (3, .int x3), (4, .int x4)]) (ax_dd KX8_lowersBeside 29 rfl) (by decide) rfl ?_
          refine ax_aload_n (pc := 52) (i := 0) (q := 2) (ax_dd KX8_lowersBeside 30 rfl) rfl rfl ?_
          refine ax_getR (pc := 53) (k := 35) (q := 37) (ax_dd KX8_lowersBeside 31 rfl) f_X8_15 (hs 35 _ rfl) rfl ?_
          refine ax_iload (pc := 56) (q := 1) (ax_dd KX8_lowersBeside 32 rfl) rfl ?_
          obtain ⟨j13, b14, h⟩ := ob_bind h
          refine ax_ild (pc := 58) (k := 37) (N := 36) (j := j13) (ax_dd KX8_lowersBeside 33 rfl) (hs 37 _ rfl) b14 ?_
          refine ax_iconst (pc := 59) (v := (-1)) (ax_dd KX8_lowersBeside 34 rfl) (by decide) ?_
          by_cases c15 : (μ 37 j13) = (-1)
          · rw [if_pos c15] at h
            refine ax_icmp_eq_t (pc := 60) (tgt := 75) (ax_dd KX8_lowersBeside 35 rfl) (by decide) c15 ?_
            refine ax_sub (lv' := [(0, .ref (G.1 + 35)), (1, .int x1), (2, .int x2), (4, .int x4), (5, .int v3), (6, .int ((μ 37 j9) + v11))]) [2, 3, 4, 6, 1, 0] rfl ?_
            exact a_X8_lowersBeside_75 hs ih h
          · rw [if_neg c15] at h
            refine ax_icmp_eq_f (pc := 60) (tgt := 75) (ax_dd KX8_lowersBeside 35 rfl) (by decide) c15 ?_
            refine ax_iload (pc := 63) (q := 0) (ax_dd KX8_lowersBeside 36 rfl) rfl ?_
            refine ax_aload_n (pc := 65) (i := 0) (q := 2) (ax_dd KX8_lowersBeside 37 rfl) rfl rfl ?_
            refine ax_getR (pc := 66) (k := 35) (q := 37) (ax_dd KX8_lowersBeside 38 rfl) f_X8_15 (hs 35 _ rfl) rfl ?_
            refine ax_iload (pc := 69) (q := 1) (ax_dd KX8_lowersBeside 39 rfl) rfl ?_
            obtain ⟨j16, b17, h⟩ := ob_bind h
            refine ax_ild (pc := 71) (k := 37) (N := 36) (j := j16) (ax_dd KX8_lowersBeside 40 rfl) (hs 37 _ rfl) b17 ?_
            by_cases c18 : (μ 37 j16) ≤ ((μ 37 j9) + v11)
            · rw [if_pos c18] at h
              refine ax_icmp_ge_t (pc := 72) (tgt := 86) (ax_dd KX8_lowersBeside 41 rfl) (by decide) c18 ?_
              refine ax_iinc (pc := 86) (q := 6) (v := (x4 + 1)) (lv' := [(4, .int (x4 + 1)), (6, .int ((μ 37 j9) + v11)), (5, .int v3), (0, .ref (G.1 + 35)), (1, .int x1), (2, .int x2), (3, .int x3)]) (ax_dd KX8_lowersBeside 49 rfl) rfl rfl (by decide) rfl ?_
              refine ax_goto (pc := 89) (tgt := 5) (ax_dd KX8_lowersBeside 50 rfl) (by decide) ?_
              refine ax_sub (lv' := [(0, .ref (G.1 + 35)), (1, .int x1), (2, .int x2), (3, .int x3), (4, .int (x4 + 1))]) [3, 4, 5, 6, 0] rfl ?_
              exact ih _ _ _ _ h
            · rw [if_neg c18] at h
              refine ax_icmp_ge_f (pc := 72) (tgt := 86) (ax_dd KX8_lowersBeside 41 rfl) (by decide) c18 ?_
              refine ax_sub (lv' := [(0, .ref (G.1 + 35)), (1, .int x1), (2, .int x2), (4, .int x4), (5, .int v3), (6, .int ((μ 37 j9) + v11))]) [2, 3, 4, 6, 1, 0] rfl ?_
              exact a_X8_lowersBeside_75 hs ih h
def m_X8_lowersBeside (x1 : Int32) (x2 : Int32) (μ : ax_M) : Option (Int32 × ax_M) :=
  m_X8_lowersBeside_5 x1 x2 fu 0 0 μ
set_option maxRecDepth 100000 in
set_option maxHeartbeats 8000000 in
theorem c_X8_lowersBeside {G : ax_G} {l : Launch} {sh : List ax_E} {x1 : Int32} {x2 : Int32} {μ : ax_M} (hs : ∀ (k : Nat) (e : ax_E), SHc[k]? = some e → sh[k]? = some e) {v : Int32 × ax_M} (h : m_X8_lowersBeside x1 x2 μ = some v) : ax_A G l yX8_lowersBeside cX8_lowersBeside 7 (some .boolean) 4 [.ref (G.1 + 35), .int x1, .int x2] sh μ (some (.int v.1), sh, v.2) := by
  refine ax_A.of false (by decide +kernel) (fun h9 => by cases h9) (Nat.le_of_ble_eq_true rfl) (?_ : ax_X G l RX8 cX8_lowersBeside 7 (some .boolean) false 4 (some (.int v.1), sh, v.2) 0 [(0, .ref (G.1 + 35)), (1, .int x1), (2, .int x2)] [] sh μ)
  unfold m_X8_lowersBeside at h
  refine ax_iconst (pc := 0) (v := 0) (ax_dd KX8_lowersBeside 0 rfl) (by decide) ?_
  refine ax_istore_n (pc := 1) (i := 3) (lv' := [(3, .int 0), (0, .ref (G.1 + 35)), (1, .int x1), (2, .int x2)]) (ax_dd KX8_lowersBeside 1 rfl) rfl (by decide) rfl ?_
  refine ax_iconst (pc := 2) (v := 0) (ax_dd KX8_lowersBeside 2 rfl) (by decide) ?_
  refine ax_istore (pc := 3) (lv' := [(4, .int 0), (3, .int 0), (0, .ref (G.1 + 35)), (1, .int x1), (2, .int x2)]) (ax_dd KX8_lowersBeside 3 rfl) (by decide) rfl ?_
  refine ax_sub (lv' := [(0, .ref (G.1 + 35)), (1, .int x1), (2, .int x2), (3, .int 0), (4, .int 0)]) [2, 3, 4, 1, 0] rfl ?_
  exact a_X8_lowersBeside_5 hs fu _ _ _ _ h
def m_X8_least_95 (x2 : Int32) (x3 : Int32) (x5 : Int32) (k77 : Int32 → Int32 → ax_M → Option (Int32 × ax_M)) : Nat → Int32 → Int32 → ax_M → Option (Int32 × ax_M)
  | 0, _, _, _ => none
  | n + 1, x4, x6, μ =>
    if 36 ≤ x6 then
      k77 x4 (x5 + 1) μ
    else
      (ix 36 x6).bind fun j2 =>
      if (μ 37 j2) = (-1) then
        m_X8_least_95 x2 x3 x5 k77 n x4 (x6 + 1) μ
      else
        bind2 (m_X8_lowersBeside x6 x3 μ) fun v5 μ7 =>
        if v5 = 0 then
          m_X8_least_95 x2 x3 x5 k77 n x4 (x6 + 1) μ7
        else
          m_X8_least_95 x2 x3 x5 k77 n 1 (x6 + 1) μ7
set_option maxRecDepth 100000 in
set_option maxHeartbeats 8000000 in
theorem a_X8_least_95 {G : ax_G} {l : Launch} {sh : List ax_E} {x2 : Int32} {x3 : Int32} {x5 : Int32} {k77 : Int32 → Int32 → ax_M → Option (Int32 × ax_M)} (hs : ∀ (k : Nat) (e : ax_E), SHc[k]? = some e → sh[k]? = some e) (hk77 : ∀ (x4 : Int32) (x5 : Int32) (μ : ax_M) (v : Int32 × ax_M), k77 x4 x5 μ = some v → ax_X G l RX8 cX8_least 7 (some .int) false 6 (some (.int v.1), sh, v.2) 77 [(0, .ref (G.1 + 35)), (2, .int x2), (3, .int x3), (4, .int x4), (5, .int x5)] [] sh μ) : ∀ (n : Nat) (x4 : Int32) (x6 : Int32) (μ : ax_M) (v : Int32 × ax_M), m_X8_least_95 x2 x3 x5 k77 n x4 x6 μ = some v → ax_X G l RX8 cX8_least 7 (some .int) false 6 (some (.int v.1), sh, v.2) 95 [(0, .ref (G.1 + 35)), (2, .int x2), (3, .int x3), (4, .int x4), (5, .int x5), (6, .int x6)] [] sh μ := by
  intro n
  induction n with
  | zero =>
    intro x4 x6 μ v h
    rw [m_X8_least_95] at h
    cases h
  | succ n ih =>
    intro x4 x6 μ v h
    rw [m_X8_least_95] at h
    refine ax_iload (pc := 95) (q := 5) (ax_dd KX8_least 52 rfl) rfl ?_
    refine ax_bipush (pc := 97) (v := 36) (ax_dd KX8_least 53 rfl) (by decide) ?_
    by_cases c1 : 36 ≤ x6
    · rw [if_pos c1] at h
      refine ax_icmp_ge_t (pc := 99) (tgt := 132) (ax_dd KX8_least 54 rfl) (by decide) c1 ?_
      refine ax_iinc (pc := 132) (q := 4) (v := (x5 + 1)) (lv' := [(5, .int (x5 + 1)), (0, .ref (G.1 + 35)), (2, .int x2), (3, .int x3), (4, .int x4), (6, .int x6)]) (ax_dd KX8_least 70 rfl) rfl rfl (by decide) rfl ?_
      refine ax_goto (pc := 135) (tgt := 77) (ax_dd KX8_least 71 rfl) (by decide) ?_
      refine ax_sub (lv' := [(0, .ref (G.1 + 35)), (2, .int x2), (3, .int x3), (4, .int x4), (5, .int (x5 + 1))]) [1, 2, 3, 4, 0] rfl ?_
      exact hk77 _ _ _ _ h
    · rw [if_neg c1] at h
      refine ax_icmp_ge_f (pc := 99) (tgt := 132) (ax_dd KX8_least 54 rfl) (by decide) c1 ?_
      refine ax_aload_n (pc := 102) (i := 0) (q := 0) (ax_dd KX8_least 55 rfl) rfl rfl ?_
      refine ax_getR (pc := 103) (k := 35) (q := 37) (ax_dd KX8_least 56 rfl) f_X8_15 (hs 35 _ rfl) rfl ?_
      refine ax_iload (pc := 106) (q := 5) (ax_dd KX8_least 57 rfl) rfl ?_
      obtain ⟨j2, b3, h⟩ := ob_bind h
      refine ax_ild (pc := 108) (k := 37) (N := 36) (j := j2) (ax_dd KX8_least 58 rfl) (hs 37 _ rfl) b3 ?_
      refine ax_iconst (pc := 109) (v := (-1)) (ax_dd KX8_least 59 rfl) (by decide) ?_
      by_cases c4 : (μ 37 j2) = (-1)
      · rw [if_pos c4] at h
        refine ax_icmp_eq_t (pc := 110) (tgt := 126) (ax_dd KX8_least 60 rfl) (by decide) c4 ?_
        refine ax_iinc (pc := 126) (q := 5) (v := (x6 + 1)) (lv' := [(6, .int (x6 + 1)), (0, .ref (G.1 + 35)), (2, .int x2), (3, .int x3), (4, .int x4), (5, .int x5)]) (ax_dd KX8_least 68 rfl) rfl rfl (by decide) rfl ?_
        refine ax_goto (pc := 129) (tgt := 95) (ax_dd KX8_least 69 rfl) (by decide) ?_
        refine ax_sub (lv' := [(0, .ref (G.1 + 35)), (2, .int x2), (3, .int x3), (4, .int x4), (5, .int x5), (6, .int (x6 + 1))]) [1, 2, 3, 4, 5, 0] rfl ?_
        exact ih _ _ _ _ h
      · rw [if_neg c4] at h
        refine ax_icmp_eq_f (pc := 110) (tgt := 126) (ax_dd KX8_least 60 rfl) (by decide) c4 ?_
        refine ax_aload_n (pc := 113) (i := 0) (q := 0) (ax_dd KX8_least 61 rfl) rfl rfl ?_
        refine ax_iload (pc := 114) (q := 5) (ax_dd KX8_least 62 rfl) rfl ?_
        refine ax_iload_n (pc := 116) (i := 3) (q := 2) (ax_dd KX8_least 63 rfl) rfl rfl ?_
        obtain ⟨v5, μ7, b6, h⟩ := ob_bind2 h
        refine ax_kV (pc := 117) (ci := 8) (k := 35) (As := [.int x6, .int x3]) (rest := []) (st1 := [.int v5]) (μ1 := μ7) (ax_dd KX8_least 64 rfl) (c_X8_lowersBeside hs b6) kV_X8_33 e_X8_lowersBeside (hs 35 _ rfl) cl_X8 (by decide) rfl rfl (by decide) (by decide) (Nat.le_of_ble_eq_true rfl) rfl ?_
        by_cases c8 : v5 = 0
        · rw [if_pos c8] at h
          refine ax_if_eq_t (pc := 120) (tgt := 126) (ax_dd KX8_least 65 rfl) (by decide) c8 ?_
          refine ax_iinc (pc := 126) (q := 5) (v := (x6 + 1)) (lv' := [(6, .int (x6 + 1)), (0, .ref (G.1 + 35)), (2, .int x2), (3, .int x3), (4, .int x4), (5, .int x5)]) (ax_dd KX8_least 68 rfl) rfl rfl (by decide) rfl ?_
          refine ax_goto (pc := 129) (tgt := 95) (ax_dd KX8_least 69 rfl) (by decide) ?_
          refine ax_sub (lv' := [(0, .ref (G.1 + 35)), (2, .int x2), (3, .int x3), (4, .int x4), (5, .int x5), (6, .int (x6 + 1))]) [1, 2, 3, 4, 5, 0] rfl ?_
          exact ih _ _ _ _ h
        · rw [if_neg c8] at h
          refine ax_if_eq_f (pc := 120) (tgt := 126) (ax_dd KX8_least 65 rfl) (by decide) c8 ?_
          refine ax_iconst (pc := 123) (v := 1) (ax_dd KX8_least 66 rfl) (by decide) ?_
          refine ax_istore (pc := 124) (lv' := [(4, .int 1), (0, .ref (G.1 + 35)), (2, .int x2), (3, .int x3), (5, .int x5), (6, .int x6)]) (ax_dd KX8_least 67 rfl) (by decide) rfl ?_
          refine ax_iinc (pc := 126) (q := 5) (v := (x6 + 1)) (lv' := [(6, .int (x6 + 1)), (4, .int 1), (0, .ref (G.1 + 35)), (2, .int x2), (3, .int x3), (5, .int x5)]) (ax_dd KX8_least 68 rfl) rfl rfl (by decide) rfl ?_
          refine ax_goto (pc := 129) (tgt := 95) (ax_dd KX8_least 69 rfl) (by decide) ?_
          refine ax_sub (lv' := [(0, .ref (G.1 + 35)), (2, .int x2), (3, .int x3), (4, .int 1), (5, .int x5), (6, .int (x6 + 1))]) [2, 3, 4, 1, 5, 0] rfl ?_
          exact ih _ _ _ _ h
def m_X8_least_77 (x2 : Int32) (x3 : Int32) : Nat → Int32 → Int32 → ax_M → Option (Int32 × ax_M)
  | 0, _, _, _ => none
  | n + 1, x4, x5, μ =>
    if 36 ≤ x5 then
      (ix 36 x2).bind fun j2 =>
      some ((μ 37 j2), μ)
    else
      if x4 = 0 then
        (ix 36 x2).bind fun j5 =>
        some ((μ 37 j5), μ)
      else
        m_X8_least_95 x2 x3 x5 (m_X8_least_77 x2 x3 n) fu 0 0 μ
set_option maxRecDepth 100000 in
set_option maxHeartbeats 8000000 in
theorem a_X8_least_77 {G : ax_G} {l : Launch} {sh : List ax_E} {x2 : Int32} {x3 : Int32} (hs : ∀ (k : Nat) (e : ax_E), SHc[k]? = some e → sh[k]? = some e) : ∀ (n : Nat) (x4 : Int32) (x5 : Int32) (μ : ax_M) (v : Int32 × ax_M), m_X8_least_77 x2 x3 n x4 x5 μ = some v → ax_X G l RX8 cX8_least 7 (some .int) false 6 (some (.int v.1), sh, v.2) 77 [(0, .ref (G.1 + 35)), (2, .int x2), (3, .int x3), (4, .int x4), (5, .int x5)] [] sh μ := by
  intro n
  induction n with
  | zero =>
    intro x4 x5 μ v h
    rw [m_X8_least_77] at h
    cases h
  | succ n ih =>
    intro x4 x5 μ v h
    rw [m_X8_least_77] at h
    refine ax_iload (pc := 77) (q := 4) (ax_dd KX8_least 43 rfl) rfl ?_
    refine ax_bipush (pc := 79) (v := 36) (ax_dd KX8_least 44 rfl) (by decide) ?_
    by_cases c1 : 36 ≤ x5
    · rw [if_pos c1] at h
      refine ax_icmp_ge_t (pc := 81) (tgt := 138) (ax_dd KX8_least 45 rfl) (by decide) c1 ?_
      refine ax_aload_n (pc := 138) (i := 0) (q := 0) (ax_dd KX8_least 72 rfl) rfl rfl ?_
      refine ax_getR (pc := 139) (k := 35) (q := 37) (ax_dd KX8_least 73 rfl) f_X8_15 (hs 35 _ rfl) rfl ?_
      refine ax_iload_n (pc := 142) (i := 2) (q := 1) (ax_dd KX8_least 74 rfl) rfl rfl ?_
      obtain ⟨j2, b3, h⟩ := ob_bind h
      refine ax_ild (pc := 143) (k := 37) (N := 36) (j := j2) (ax_dd KX8_least 75 rfl) (hs 37 _ rfl) b3 ?_
      obtain rfl := Option.some.inj h
      exact ax_ireti (pc := 144) (ax_dd KX8_least 76 rfl) ⟨_, rfl, rfl⟩ rfl
    · rw [if_neg c1] at h
      refine ax_icmp_ge_f (pc := 81) (tgt := 138) (ax_dd KX8_least 45 rfl) (by decide) c1 ?_
      refine ax_iload (pc := 84) (q := 3) (ax_dd KX8_least 46 rfl) rfl ?_
      by_cases c4 : x4 = 0
      · rw [if_pos c4] at h
        refine ax_if_eq_t (pc := 86) (tgt := 138) (ax_dd KX8_least 47 rfl) (by decide) c4 ?_
        refine ax_aload_n (pc := 138) (i := 0) (q := 0) (ax_dd KX8_least 72 rfl) rfl rfl ?_
        refine ax_getR (pc := 139) (k := 35) (q := 37) (ax_dd KX8_least 73 rfl) f_X8_15 (hs 35 _ rfl) rfl ?_
        refine ax_iload_n (pc := 142) (i := 2) (q := 1) (ax_dd KX8_least 74 rfl) rfl rfl ?_
        obtain ⟨j5, b6, h⟩ := ob_bind h
        refine ax_ild (pc := 143) (k := 37) (N := 36) (j := j5) (ax_dd KX8_least 75 rfl) (hs 37 _ rfl) b6 ?_
        obtain rfl := Option.some.inj h
        exact ax_ireti (pc := 144) (ax_dd KX8_least 76 rfl) ⟨_, rfl, rfl⟩ rfl
      · rw [if_neg c4] at h
        refine ax_if_eq_f (pc := 86) (tgt := 138) (ax_dd KX8_least 47 rfl) (by decide) c4 ?_
        refine ax_iconst (pc := 89) (v := 0) (ax_dd KX8_least 48 rfl) (by decide) ?_
        refine ax_istore (pc := 90) (lv' := [(4, .int 0), (0, .ref (G.1 + 35)), (2, .int x2), (3, .int x3), (5, .int x5)]) (ax_dd KX8_least 49 rfl) (by decide) rfl ?_
        refine ax_iconst (pc := 92) (v := 0) (ax_dd KX8_least 50 rfl) (by decide) ?_
        refine ax_istore (pc := 93) (lv' := [(6, .int 0), (4, .int 0), (0, .ref (G.1 + 35)), (2, .int x2), (3, .int x3), (5, .int x5)]) (ax_dd KX8_least 51 rfl) (by decide) rfl ?_
        refine ax_sub (lv' := [(0, .ref (G.1 + 35)), (2, .int x2), (3, .int x3), (4, .int 0), (5, .int x5), (6, .int 0)]) [2, 3, 4, 1, 5, 0] rfl ?_
        exact a_X8_least_95 hs ih fu _ _ _ _ h
def m_X8_least_3 (x1 : Int32) (x2 : Int32) (x3 : Int32) : Nat → Int32 → ax_M → Option (Int32 × ax_M)
  | 0, _, _ => none
  | n + 1, x4, μ =>
    if 36 ≤ x4 then
      (ix 36 x1).bind fun j2 =>
      if (μ 36 j2) = 0 then
        m_X8_least_77 x2 x3 fu 1 0 μ
      else
        if x3 = 1 then
          (ix 36 x1).bind fun j6 =>
          m_X8_least_77 x2 x3 fu 1 0 (ax_w μ 37 j6 0)
        else
          (m_X8_stepCost x1 x1 x3 μ).bind fun v8 =>
          (ix 36 x1).bind fun j10 =>
          m_X8_least_77 x2 x3 fu 1 0 (ax_w μ 37 j10 v8)
    else
      bind2 (m_X0_letsOn x4 μ) fun v12 μ14 =>
      (ix 36 x4).bind fun j15 =>
      (ix 36 x4).bind fun j17 =>
      m_X8_least_3 x1 x2 x3 n (x4 + 1) (ax_w (ax_w μ14 36 j15 (vp_nar .boolean v12)) 37 j17 (-1))
set_option maxRecDepth 100000 in
set_option maxHeartbeats 8000000 in
theorem a_X8_least_3 {G : ax_G} {l : Launch} {sh : List ax_E} {x1 : Int32} {x2 : Int32} {x3 : Int32} (hs : ∀ (k : Nat) (e : ax_E), SHc[k]? = some e → sh[k]? = some e) : ∀ (n : Nat) (x4 : Int32) (μ : ax_M) (v : Int32 × ax_M), m_X8_least_3 x1 x2 x3 n x4 μ = some v → ax_X G l RX8 cX8_least 7 (some .int) false 6 (some (.int v.1), sh, v.2) 3 [(0, .ref (G.1 + 35)), (1, .int x1), (2, .int x2), (3, .int x3), (4, .int x4)] [] sh μ := by
  intro n
  induction n with
  | zero =>
    intro x4 μ v h
    rw [m_X8_least_3] at h
    cases h
  | succ n ih =>
    intro x4 μ v h
    rw [m_X8_least_3] at h
    refine ax_iload (pc := 3) (q := 4) (ax_dd KX8_least 2 rfl) rfl ?_
    refine ax_bipush (pc := 5) (v := 36) (ax_dd KX8_least 3 rfl) (by decide) ?_
    by_cases c1 : 36 ≤ x4
    · rw [if_pos c1] at h
      refine ax_icmp_ge_t (pc := 7) (tgt := 40) (ax_dd KX8_least 4 rfl) (by decide) c1 ?_
      refine ax_aload_n (pc := 40) (i := 0) (q := 0) (ax_dd KX8_least 20 rfl) rfl rfl ?_
      refine ax_getR (pc := 41) (k := 35) (q := 36) (ax_dd KX8_least 21 rfl) f_X8_9 (hs 35 _ rfl) rfl ?_
      refine ax_iload_n (pc := 44) (i := 1) (q := 1) (ax_dd KX8_least 22 rfl) rfl rfl ?_
      obtain ⟨j2, b3, h⟩ := ob_bind h
      refine ax_zld (pc := 45) (k := 36) (N := 36) (j := j2) (ax_dd KX8_least 23 rfl) (hs 36 _ rfl) b3 ?_
      by_cases c4 : (μ 36 j2) = 0
      · rw [if_pos c4] at h
        refine ax_if_eq_t (pc := 46) (tgt := 71) (ax_dd KX8_least 24 rfl) (by decide) c4 ?_
        refine ax_iconst (pc := 71) (v := 1) (ax_dd KX8_least 39 rfl) (by decide) ?_
        refine ax_istore (pc := 72) (lv' := [(4, .int 1), (0, .ref (G.1 + 35)), (1, .int x1), (2, .int x2), (3, .int x3)]) (ax_dd KX8_least 40 rfl) (by decide) rfl ?_
        refine ax_iconst (pc := 74) (v := 0) (ax_dd KX8_least 41 rfl) (by decide) ?_
        refine ax_istore (pc := 75) (lv' := [(5, .int 0), (4, .int 1), (0, .ref (G.1 + 35)), (1, .int x1), (2, .int x2), (3, .int x3)]) (ax_dd KX8_least 42 rfl) (by decide) rfl ?_
        refine ax_sub (lv' := [(0, .ref (G.1 + 35)), (2, .int x2), (3, .int x3), (4, .int 1), (5, .int 0)]) [2, 4, 5, 1, 0] rfl ?_
        exact a_X8_least_77 hs fu _ _ _ _ h
      · rw [if_neg c4] at h
        refine ax_if_eq_f (pc := 46) (tgt := 71) (ax_dd KX8_least 24 rfl) (by decide) c4 ?_
        refine ax_aload_n (pc := 49) (i := 0) (q := 0) (ax_dd KX8_least 25 rfl) rfl rfl ?_
        refine ax_getR (pc := 50) (k := 35) (q := 37) (ax_dd KX8_least 26 rfl) f_X8_15 (hs 35 _ rfl) rfl ?_
        refine ax_iload_n (pc := 53) (i := 1) (q := 1) (ax_dd KX8_least 27 rfl) rfl rfl ?_
        refine ax_iload_n (pc := 54) (i := 3) (q := 3) (ax_dd KX8_least 28 rfl) rfl rfl ?_
        refine ax_iconst (pc := 55) (v := 1) (ax_dd KX8_least 29 rfl) (by decide) ?_
        by_cases c5 : x3 = 1
        · rw [if_pos c5] at h
          refine ax_icmp_ne_f (pc := 56) (tgt := 63) (ax_dd KX8_least 30 rfl) (by decide) (fun z => z c5) ?_
          refine ax_iconst (pc := 59) (v := 0) (ax_dd KX8_least 31 rfl) (by decide) ?_
          refine ax_goto (pc := 60) (tgt := 70) (ax_dd KX8_least 32 rfl) (by decide) ?_
          obtain ⟨j6, b7, h⟩ := ob_bind h
          refine ax_ist (pc := 70) (k := 37) (N := 36) (j := j6) (ax_dd KX8_least 38 rfl) (hs 37 _ rfl) b7 ?_
          refine ax_iconst (pc := 71) (v := 1) (ax_dd KX8_least 39 rfl) (by decide) ?_
          refine ax_istore (pc := 72) (lv' := [(4, .int 1), (0, .ref (G.1 + 35)), (1, .int x1), (2, .int x2), (3, .int x3)]) (ax_dd KX8_least 40 rfl) (by decide) rfl ?_
          refine ax_iconst (pc := 74) (v := 0) (ax_dd KX8_least 41 rfl) (by decide) ?_
          refine ax_istore (pc := 75) (lv' := [(5, .int 0), (4, .int 1), (0, .ref (G.1 + 35)), (1, .int x1), (2, .int x2), (3, .int x3)]) (ax_dd KX8_least 42 rfl) (by decide) rfl ?_
          refine ax_sub (lv' := [(0, .ref (G.1 + 35)), (2, .int x2), (3, .int x3), (4, .int 1), (5, .int 0)]) [2, 4, 5, 1, 0] rfl ?_
          exact a_X8_least_77 hs fu _ _ _ _ h
        · rw [if_neg c5] at h
          refine ax_icmp_ne_t (pc := 56) (tgt := 63) (ax_dd KX8_least 30 rfl) (by decide) c5 ?_
          refine ax_aload_n (pc := 63) (i := 0) (q := 0) (ax_dd KX8_least 33 rfl) rfl rfl ?_
          refine ax_iload_n (pc := 64) (i := 1) (q := 1) (ax_dd KX8_least 34 rfl) rfl rfl ?_
          refine ax_iload_n (pc := 65) (i := 1) (q := 1) (ax_dd KX8_least 35 rfl) rfl rfl ?_
          refine ax_iload_n (pc := 66) (i := 3) (q := 3) (ax_dd KX8_least 36 rfl) rfl rfl ?_
          obtain ⟨v8, b9, h⟩ := ob_bind h
          refine ax_kV (pc := 67) (ci := 8) (k := 35) (As := [.int x1, .int x1, .int x3]) (rest := [.int x1, .ref (G.1 + 37)]) (st1 := [.int v8, .int x1, .ref (G.1 + 37)]) (μ1 := μ) (ax_dd KX8_least 37 rfl) (c_X8_stepCost hs b9) kV_X8_29 e_X8_stepCost (hs 35 _ rfl) cl_X8 (by decide) rfl rfl (by decide) (by decide) (Nat.le_of_ble_eq_true rfl) rfl ?_
          obtain ⟨j10, b11, h⟩ := ob_bind h
          refine ax_ist (pc := 70) (k := 37) (N := 36) (j := j10) (ax_dd KX8_least 38 rfl) (hs 37 _ rfl) b11 ?_
          refine ax_iconst (pc := 71) (v := 1) (ax_dd KX8_least 39 rfl) (by decide) ?_
          refine ax_istore (pc := 72) (lv' := [(4, .int 1), (0, .ref (G.1 + 35)), (1, .int x1), (2, .int x2), (3, .int x3)]) (ax_dd KX8_least 40 rfl) (by decide) rfl ?_
          refine ax_iconst (pc := 74) (v := 0) (ax_dd KX8_least 41 rfl) (by decide) ?_
          refine ax_istore (pc := 75) (lv' := [(5, .int 0), (4, .int 1), (0, .ref (G.1 + 35)), (1, .int x1), (2, .int x2), (3, .int x3)]) (ax_dd KX8_least 42 rfl) (by decide) rfl ?_
          refine ax_sub (lv' := [(0, .ref (G.1 + 35)), (2, .int x2), (3, .int x3), (4, .int 1), (5, .int 0)]) [2, 4, 5, 1, 0] rfl ?_
          exact a_X8_least_77 hs fu _ _ _ _ h
    · rw [if_neg c1] at h
      refine ax_icmp_ge_f (pc := 7) (tgt := 40) (ax_dd KX8_least 4 rfl) (by decide) c1 ?_
      refine ax_aload_n (pc := 10) (i := 0) (q := 0) (ax_dd KX8_least 5 rfl) rfl rfl ?_
      refine ax_getR (pc := 11) (k := 35) (q := 36) (ax_dd KX8_least 6 rfl) f_X8_9 (hs 35 _ rfl) rfl ?_
      refine ax_iload (pc := 14) (q := 4) (ax_dd KX8_least 7 rfl) rfl ?_
      refine ax_aload_n (pc := 16) (i := 0) (q := 0) (ax_dd KX8_least 8 rfl) rfl rfl ?_
      refine ax_getR (pc := 17) (k := 35) (q := 25) (ax_dd KX8_least 9 rfl) f_X8_19 (hs 35 _ rfl) rfl ?_
      refine ax_iload (pc := 20) (q := 4) (ax_dd KX8_least 10 rfl) rfl ?_
      obtain ⟨v12, μ14, b13, h⟩ := ob_bind2 h
      refine ax_kV (pc := 22) (ci := 0) (k := 25) (As := [.int x4]) (rest := [.int x4, .ref (G.1 + 36)]) (st1 := [.int v12, .int x4, .ref (G.1 + 36)]) (μ1 := μ14) (ax_dd KX8_least 11 rfl) (c_X0_letsOn hs b13) kV_X8_23 e_X0_letsOn (hs 25 _ rfl) cl_X0 (by decide) rfl rfl (by decide) (by decide) (Nat.le_of_ble_eq_true rfl) rfl ?_
      obtain ⟨j15, b16, h⟩ := ob_bind h
      refine ax_zst (pc := 25) (k := 36) (N := 36) (j := j15) (ax_dd KX8_least 12 rfl) (hs 36 _ rfl) b16 ?_
      refine ax_aload_n (pc := 26) (i := 0) (q := 0) (ax_dd KX8_least 13 rfl) rfl rfl ?_
      refine ax_getR (pc := 27) (k := 35) (q := 37) (ax_dd KX8_least 14 rfl) f_X8_15 (hs 35 _ rfl) rfl ?_
      refine ax_iload (pc := 30) (q := 4) (ax_dd KX8_least 15 rfl) rfl ?_
      refine ax_iconst (pc := 32) (v := (-1)) (ax_dd KX8_least 16 rfl) (by decide) ?_
      obtain ⟨j17, b18, h⟩ := ob_bind h
      refine ax_ist (pc := 33) (k := 37) (N := 36) (j := j17) (ax_dd KX8_least 17 rfl) (hs 37 _ rfl) b18 ?_
      refine ax_iinc (pc := 34) (q := 4) (v := (x4 + 1)) (lv' := [(4, .int (x4 + 1)), (0, .ref (G.1 + 35)), (1, .int x1), (2, .int x2), (3, .int x3)]) (ax_dd KX8_least 18 rfl) rfl rfl (by decide) rfl ?_
      refine ax_goto (pc := 37) (tgt := 3) (ax_dd KX8_least 19 rfl) (by decide) ?_
      refine ax_sub (lv' := [(0, .ref (G.1 + 35)), (1, .int x1), (2, .int x2), (3, .int x3), (4, .int (x4 + 1))]) [1, 2, 3, 4, 0] rfl ?_
      exact ih _ _ _ h
def m_X8_least (x1 : Int32) (x2 : Int32) (x3 : Int32) (μ : ax_M) : Option (Int32 × ax_M) :=
  m_X8_least_3 x1 x2 x3 fu 0 μ
set_option maxRecDepth 100000 in
set_option maxHeartbeats 8000000 in
theorem c_X8_least {G : ax_G} {l : Launch} {sh : List ax_E} {x1 : Int32} {x2 : Int32} {x3 : Int32} {μ : ax_M} (hs : ∀ (k : Nat) (e : ax_E), SHc[k]? = some e → sh[k]? = some e) {v : Int32 × ax_M} (h : m_X8_least x1 x2 x3 μ = some v) : ax_A G l yX8_least cX8_least 7 (some .int) 6 [.ref (G.1 + 35), .int x1, .int x2, .int x3] sh μ (some (.int v.1), sh, v.2) := by
  refine ax_A.of false (by decide +kernel) (fun h9 => by cases h9) (Nat.le_of_ble_eq_true rfl) (?_ : ax_X G l RX8 cX8_least 7 (some .int) false 6 (some (.int v.1), sh, v.2) 0 [(0, .ref (G.1 + 35)), (1, .int x1), (2, .int x2), (3, .int x3)] [] sh μ)
  unfold m_X8_least at h
  refine ax_iconst (pc := 0) (v := 0) (ax_dd KX8_least 0 rfl) (by decide) ?_
  refine ax_istore (pc := 1) (lv' := [(4, .int 0), (0, .ref (G.1 + 35)), (1, .int x1), (2, .int x2), (3, .int x3)]) (ax_dd KX8_least 1 rfl) (by decide) rfl ?_
  refine ax_sub (lv' := [(0, .ref (G.1 + 35)), (1, .int x1), (2, .int x2), (3, .int x3), (4, .int 0)]) [1, 2, 3, 4, 0] rfl ?_
  exact a_X8_least_3 hs fu _ _ _ h
def m_X9_readTape (μ : ax_M) : Option (Int32 × ax_M) :=
  bind2 (m_X3_fault μ) fun v1 μ3 =>
  if v1 = (-1) then
    bind2 (m_X7_add (ax_w μ3 18 1 0)) fun v5 μ7 =>
    some (v5, μ7)
  else
    some (((-100 : Int32) - v1), ax_w μ3 18 1 0)
set_option maxRecDepth 100000 in
set_option maxHeartbeats 8000000 in
theorem c_X9_readTape {G : ax_G} {l : Launch} {sh : List ax_E} {μ : ax_M} (hs : ∀ (k : Nat) (e : ax_E), SHc[k]? = some e → sh[k]? = some e) {v : Int32 × ax_M} (h : m_X9_readTape μ = some v) : ax_A G l yX9_readTape cX9_readTape 2 (some .int) 122 [.ref (G.1 + 0)] sh μ (some (.int v.1), sh, v.2) := by
  refine ax_A.of false (by decide +kernel) (fun h9 => by cases h9) (Nat.le_of_ble_eq_true rfl) (?_ : ax_X G l RX9 cX9_readTape 2 (some .int) false 122 (some (.int v.1), sh, v.2) 0 [(0, .ref (G.1 + 0))] [] sh μ)
  unfold m_X9_readTape at h
  refine ax_aload_n (pc := 0) (i := 0) (q := 0) (ax_dd KX9_readTape 0 rfl) rfl rfl ?_
  refine ax_getR (pc := 1) (k := 0) (q := 22) (ax_dd KX9_readTape 1 rfl) f_X9_28 (hs 0 _ rfl) rfl ?_
  obtain ⟨v1, μ3, b2, h⟩ := ob_bind2 h
  refine ax_kV (pc := 4) (ci := 3) (k := 22) (As := []) (rest := []) (st1 := [.int v1]) (μ1 := μ3) (ax_dd KX9_readTape 2 rfl) (c_X3_fault hs b2) kV_X9_310 e_X3_fault (hs 22 _ rfl) cl_X3 (by decide) rfl rfl (by decide) (by decide) (Nat.le_of_ble_eq_true rfl) rfl ?_
  refine ax_istore_n (pc := 7) (i := 1) (lv' := [(1, .int v1), (0, .ref (G.1 + 0))]) (ax_dd KX9_readTape 3 rfl) rfl (by decide) rfl ?_
  refine ax_aload_n (pc := 8) (i := 0) (q := 1) (ax_dd KX9_readTape 4 rfl) rfl rfl ?_
  refine ax_getR (pc := 9) (k := 0) (q := 18) (ax_dd KX9_readTape 5 rfl) f_X9_19 (hs 0 _ rfl) rfl ?_
  refine ax_iconst (pc := 12) (v := 0) (ax_dd KX9_readTape 6 rfl) (by decide) ?_
  refine ax_putI (pc := 13) (k := 18) (ax_dd KX9_readTape 7 rfl) f_X9_110 ft_X6 (hs 18 _ rfl) rfl (fun _ h9 => by cases h9; rfl) rfl rfl ?_
  refine ax_iload_n (pc := 16) (i := 1) (q := 0) (ax_dd KX9_readTape 8 rfl) rfl rfl ?_
  refine ax_iconst (pc := 17) (v := (-1)) (ax_dd KX9_readTape 9 rfl) (by decide) ?_
  by_cases c4 : v1 = (-1)
  · rw [if_pos c4] at h
    refine ax_icmp_ne_f (pc := 18) (tgt := 45) (ax_dd KX9_readTape 10 rfl) (by decide) (fun z => z c4) ?_
    refine ax_aload_n (pc := 21) (i := 0) (q := 1) (ax_dd KX9_readTape 11 rfl) rfl rfl ?_
    refine ax_getR (pc := 22) (k := 0) (q := 1) (ax_dd KX9_readTape 12 rfl) f_X9_10 (hs 0 _ rfl) rfl ?_
    refine ax_aload_n (pc := 25) (i := 0) (q := 1) (ax_dd KX9_readTape 13 rfl) rfl rfl ?_
    refine ax_getR (pc := 26) (k := 0) (q := 22) (ax_dd KX9_readTape 14 rfl) f_X9_28 (hs 0 _ rfl) rfl ?_
    refine ax_getR (pc := 29) (k := 22) (q := 23) (ax_dd KX9_readTape 15 rfl) f_X9_313 (hs 22 _ rfl) rfl ?_
    refine ax_aload_n (pc := 32) (i := 0) (q := 1) (ax_dd KX9_readTape 16 rfl) rfl rfl ?_
    refine ax_getR (pc := 33) (k := 0) (q := 22) (ax_dd KX9_readTape 17 rfl) f_X9_28 (hs 0 _ rfl) rfl ?_
    refine ax_getR (pc := 36) (k := 22) (q := 24) (ax_dd KX9_readTape 18 rfl) f_X9_316 (hs 22 _ rfl) rfl ?_
    obtain ⟨v5, μ7, b6, h⟩ := ob_bind2 h
    refine ax_kV (pc := 39) (ci := 7) (k := 1) (As := [.ref (G.1 + 23), .ref (G.1 + 24)]) (rest := []) (st1 := [.int v5]) (μ1 := μ7) (ax_dd KX9_readTape 19 rfl) (c_X7_add hs b6) kV_X9_319 e_X7_add (hs 1 _ rfl) cl_X7 (by decide) rfl rfl (by decide) (by decide) (Nat.le_of_ble_eq_true rfl) rfl ?_
    refine ax_goto (pc := 42) (tgt := 49) (ax_dd KX9_readTape 20 rfl) (by decide) ?_
    obtain rfl := Option.some.inj h
    exact ax_ireti (pc := 49) (ax_dd KX9_readTape 24 rfl) ⟨_, rfl, rfl⟩ rfl
  · rw [if_neg c4] at h
    refine ax_icmp_ne_t (pc := 18) (tgt := 45) (ax_dd KX9_readTape 10 rfl) (by decide) c4 ?_
    refine ax_bipush (pc := 45) (v := (-100)) (ax_dd KX9_readTape 21 rfl) (by decide) ?_
    refine ax_iload_n (pc := 47) (i := 1) (q := 0) (ax_dd KX9_readTape 22 rfl) rfl rfl ?_
    refine ax_isub (pc := 48) (ax_dd KX9_readTape 23 rfl) ?_
    obtain rfl := Option.some.inj h
    exact ax_ireti (pc := 49) (ax_dd KX9_readTape 24 rfl) ⟨_, rfl, rfl⟩ rfl
def m_X9_count (x1 : Int32) (μ : ax_M) : Option (Int32) :=
  if x1 = 0 then
    some (μ 25 1)
  else
    if x1 = 1 then
      some (μ 25 2)
    else
      if x1 = 2 then
        some (μ 1 0)
      else
        if x1 = 3 then
          some (μ 25 3)
        else
          if x1 = 4 then
            some (μ 18 1)
          else
            some (-2)
set_option maxRecDepth 100000 in
set_option maxHeartbeats 8000000 in
theorem c_X9_count {G : ax_G} {l : Launch} {sh : List ax_E} {x1 : Int32} {μ : ax_M} (hs : ∀ (k : Nat) (e : ax_E), SHc[k]? = some e → sh[k]? = some e) {v : Int32} (h : m_X9_count x1 μ = some v) : ax_A G l yX9_count cX9_count 2 (some .int) 2 [.ref (G.1 + 0), .int x1] sh μ (some (.int v), sh, μ) := by
  refine ax_A.of false (by decide +kernel) (fun h9 => by cases h9) (Nat.le_of_ble_eq_true rfl) (?_ : ax_X G l RX9 cX9_count 2 (some .int) false 2 (some (.int v), sh, μ) 0 [(0, .ref (G.1 + 0)), (1, .int x1)] [] sh μ)
  unfold m_X9_count at h
  refine ax_iload_n (pc := 0) (i := 1) (q := 1) (ax_dd KX9_count 0 rfl) rfl rfl ?_
  by_cases c1 : x1 = 0
  · rw [if_pos c1] at h
    refine ax_tab (pc := 1) (off := 35) (tgt := 36) (ax_dd KX9_count 1 rfl) (by rw [c1]; decide) (by rw [c1]; decide) (by rw [c1]; rfl) (by decide) ?_
    refine ax_aload_n (pc := 36) (i := 0) (q := 0) (ax_dd KX9_count 2 rfl) rfl rfl ?_
    refine ax_getR (pc := 37) (k := 0) (q := 25) (ax_dd KX9_count 3 rfl) f_X9_37 (hs 0 _ rfl) rfl ?_
    refine ax_getI (pc := 40) (k := 25) (ax_dd KX9_count 4 rfl) f_X9_97 (hs 25 _ rfl) rfl ?_
    obtain rfl := Option.some.inj h
    exact ax_ireti (pc := 43) (ax_dd KX9_count 5 rfl) ⟨_, rfl, rfl⟩ rfl
  · rw [if_neg c1] at h
    by_cases c2 : x1 = 1
    · rw [if_pos c2] at h
      refine ax_tab (pc := 1) (off := 43) (tgt := 44) (ax_dd KX9_count 1 rfl) (by rw [c2]; decide) (by rw [c2]; decide) (by rw [c2]; rfl) (by decide) ?_
      refine ax_aload_n (pc := 44) (i := 0) (q := 0) (ax_dd KX9_count 6 rfl) rfl rfl ?_
      refine ax_getR (pc := 45) (k := 0) (q := 25) (ax_dd KX9_count 7 rfl) f_X9_37 (hs 0 _ rfl) rfl ?_
      refine ax_getI (pc := 48) (k := 25) (ax_dd KX9_count 8 rfl) f_X9_101 (hs 25 _ rfl) rfl ?_
      obtain rfl := Option.some.inj h
      exact ax_ireti (pc := 51) (ax_dd KX9_count 9 rfl) ⟨_, rfl, rfl⟩ rfl
    · rw [if_neg c2] at h
      by_cases c3 : x1 = 2
      · rw [if_pos c3] at h
        refine ax_tab (pc := 1) (off := 51) (tgt := 52) (ax_dd KX9_count 1 rfl) (by rw [c3]; decide) (by rw [c3]; decide) (by rw [c3]; rfl) (by decide) ?_
        refine ax_aload_n (pc := 52) (i := 0) (q := 0) (ax_dd KX9_count 10 rfl) rfl rfl ?_
        refine ax_getR (pc := 53) (k := 0) (q := 1) (ax_dd KX9_count 11 rfl) f_X9_10 (hs 0 _ rfl) rfl ?_
        refine ax_getI (pc := 56) (k := 1) (ax_dd KX9_count 12 rfl) f_X9_104 (hs 1 _ rfl) rfl ?_
        obtain rfl := Option.some.inj h
        exact ax_ireti (pc := 59) (ax_dd KX9_count 13 rfl) ⟨_, rfl, rfl⟩ rfl
      · rw [if_neg c3] at h
        by_cases c4 : x1 = 3
        · rw [if_pos c4] at h
          refine ax_tab (pc := 1) (off := 59) (tgt := 60) (ax_dd KX9_count 1 rfl) (by rw [c4]; decide) (by rw [c4]; decide) (by rw [c4]; rfl) (by decide) ?_
          refine ax_aload_n (pc := 60) (i := 0) (q := 0) (ax_dd KX9_count 14 rfl) rfl rfl ?_
          refine ax_getR (pc := 61) (k := 0) (q := 25) (ax_dd KX9_count 15 rfl) f_X9_37 (hs 0 _ rfl) rfl ?_
          refine ax_getI (pc := 64) (k := 25) (ax_dd KX9_count 16 rfl) f_X9_107 (hs 25 _ rfl) rfl ?_
          obtain rfl := Option.some.inj h
          exact ax_ireti (pc := 67) (ax_dd KX9_count 17 rfl) ⟨_, rfl, rfl⟩ rfl
        · rw [if_neg c4] at h
          by_cases c5 : x1 = 4
          · rw [if_pos c5] at h
            refine ax_tab (pc := 1) (off := 67) (tgt := 68) (ax_dd KX9_count 1 rfl) (by rw [c5]; decide) (by rw [c5]; decide) (by rw [c5]; rfl) (by decide) ?_
            refine ax_aload_n (pc := 68) (i := 0) (q := 0) (ax_dd KX9_count 18 rfl) rfl rfl ?_
            refine ax_getR (pc := 69) (k := 0) (q := 18) (ax_dd KX9_count 19 rfl) f_X9_19 (hs 0 _ rfl) rfl ?_
            refine ax_getI (pc := 72) (k := 18) (ax_dd KX9_count 20 rfl) f_X9_110 (hs 18 _ rfl) rfl ?_
            obtain rfl := Option.some.inj h
            exact ax_ireti (pc := 75) (ax_dd KX9_count 21 rfl) ⟨_, rfl, rfl⟩ rfl
          · rw [if_neg c5] at h
            refine ax_tabD (pc := 1) (tgt := 76) (ax_dd KX9_count 1 rfl) (by have e0 := ax_ne c1 (a := 0) rfl; have e1 := ax_ne c2 (a := 1) rfl; have e2 := ax_ne c3 (a := 2) rfl; have e3 := ax_ne c4 (a := 3) rfl; have e4 := ax_ne c5 (a := 4) rfl; omega) (by decide) ?_
            refine ax_bipush (pc := 76) (v := (-2)) (ax_dd KX9_count 22 rfl) (by decide) ?_
            obtain rfl := Option.some.inj h
            exact ax_ireti (pc := 78) (ax_dd KX9_count 23 rfl) ⟨_, rfl, rfl⟩ rfl
def m_X9_strikes (x1 : Int32) (μ : ax_M) : Option (Int32 × ax_M) :=
  if x1 < 0 then
    some ((-2), μ)
  else
    if x1 < 24 then
      some ((μ 25 2), ax_w μ 25 2 x1)
    else
      some ((-2), μ)
set_option maxRecDepth 100000 in
set_option maxHeartbeats 8000000 in
theorem c_X9_strikes {G : ax_G} {l : Launch} {sh : List ax_E} {x1 : Int32} {μ : ax_M} (hs : ∀ (k : Nat) (e : ax_E), SHc[k]? = some e → sh[k]? = some e) {v : Int32 × ax_M} (h : m_X9_strikes x1 μ = some v) : ax_A G l yX9_strikes cX9_strikes 3 (some .int) 2 [.ref (G.1 + 0), .int x1] sh μ (some (.int v.1), sh, v.2) := by
  refine ax_A.of false (by decide +kernel) (fun h9 => by cases h9) (Nat.le_of_ble_eq_true rfl) (?_ : ax_X G l RX9 cX9_strikes 3 (some .int) false 2 (some (.int v.1), sh, v.2) 0 [(0, .ref (G.1 + 0)), (1, .int x1)] [] sh μ)
  unfold m_X9_strikes at h
  refine ax_iload_n (pc := 0) (i := 1) (q := 1) (ax_dd KX9_strikes 0 rfl) rfl rfl ?_
  by_cases c1 : x1 < 0
  · rw [if_pos c1] at h
    refine ax_if_lt_t (pc := 1) (tgt := 10) (ax_dd KX9_strikes 1 rfl) (by decide) c1 ?_
    refine ax_bipush (pc := 10) (v := (-2)) (ax_dd KX9_strikes 5 rfl) (by decide) ?_
    obtain rfl := Option.some.inj h
    exact ax_ireti (pc := 12) (ax_dd KX9_strikes 6 rfl) ⟨_, rfl, rfl⟩ rfl
  · rw [if_neg c1] at h
    refine ax_if_lt_f (pc := 1) (tgt := 10) (ax_dd KX9_strikes 1 rfl) (by decide) c1 ?_
    refine ax_iload_n (pc := 4) (i := 1) (q := 1) (ax_dd KX9_strikes 2 rfl) rfl rfl ?_
    refine ax_bipush (pc := 5) (v := 24) (ax_dd KX9_strikes 3 rfl) (by decide) ?_
    by_cases c2 : x1 < 24
    · rw [if_pos c2] at h
      refine ax_icmp_lt_t (pc := 7) (tgt := 13) (ax_dd KX9_strikes 4 rfl) (by decide) c2 ?_
      refine ax_aload_n (pc := 13) (i := 0) (q := 0) (ax_dd KX9_strikes 7 rfl) rfl rfl ?_
      refine ax_getR (pc := 14) (k := 0) (q := 25) (ax_dd KX9_strikes 8 rfl) f_X9_37 (hs 0 _ rfl) rfl ?_
      refine ax_getI (pc := 17) (k := 25) (ax_dd KX9_strikes 9 rfl) f_X9_101 (hs 25 _ rfl) rfl ?_
      refine ax_istore_n (pc := 20) (i := 2) (lv' := [(2, .int (μ 25 2)), (0, .ref (G.1 + 0)), (1, .int x1)]) (ax_dd KX9_strikes 10 rfl) rfl (by decide) rfl ?_
      refine ax_aload_n (pc := 21) (i := 0) (q := 1) (ax_dd KX9_strikes 11 rfl) rfl rfl ?_
      refine ax_getR (pc := 22) (k := 0) (q := 25) (ax_dd KX9_strikes 12 rfl) f_X9_37 (hs 0 _ rfl) rfl ?_
      refine ax_iload_n (pc := 25) (i := 1) (q := 2) (ax_dd KX9_strikes 13 rfl) rfl rfl ?_
      refine ax_putI (pc := 26) (k := 25) (ax_dd KX9_strikes 14 rfl) f_X9_101 ft_X0 (hs 25 _ rfl) rfl (fun _ h9 => by cases h9; rfl) rfl rfl ?_
      refine ax_iload_n (pc := 29) (i := 2) (q := 0) (ax_dd KX9_strikes 15 rfl) rfl rfl ?_
      obtain rfl := Option.some.inj h
      exact ax_ireti (pc := 30) (ax_dd KX9_strikes 16 rfl) ⟨_, rfl, rfl⟩ rfl
    · rw [if_neg c2] at h
      refine ax_icmp_lt_f (pc := 7) (tgt := 13) (ax_dd KX9_strikes 4 rfl) (by decide) c2 ?_
      refine ax_bipush (pc := 10) (v := (-2)) (ax_dd KX9_strikes 5 rfl) (by decide) ?_
      obtain rfl := Option.some.inj h
      exact ax_ireti (pc := 12) (ax_dd KX9_strikes 6 rfl) ⟨_, rfl, rfl⟩ rfl
def m_X9_isByte (x0 : Int32) (μ : ax_M) : Option (Int32) :=
  if x0 < 0 then
    some 0
  else
    if 255 < x0 then
      some 0
    else
      some 1
set_option maxRecDepth 100000 in
set_option maxHeartbeats 8000000 in
theorem c_X9_isByte {G : ax_G} {l : Launch} {sh : List ax_E} {x0 : Int32} {μ : ax_M} (hs : ∀ (k : Nat) (e : ax_E), SHc[k]? = some e → sh[k]? = some e) {v : Int32} (h : m_X9_isByte x0 μ = some v) : ax_A G l yX9_isByte cX9_isByte 1 (some .boolean) 2 [.int x0] sh μ (some (.int v), sh, μ) := by
  refine ax_A.of false (by decide +kernel) (fun h9 => by cases h9) (Nat.le_of_ble_eq_true rfl) (?_ : ax_X G l RX9 cX9_isByte 1 (some .boolean) false 2 (some (.int v), sh, μ) 0 [(0, .int x0)] [] sh μ)
  unfold m_X9_isByte at h
  refine ax_iload_n (pc := 0) (i := 0) (q := 0) (ax_dd KX9_isByte 0 rfl) rfl rfl ?_
  by_cases c1 : x0 < 0
  · rw [if_pos c1] at h
    refine ax_if_lt_t (pc := 1) (tgt := 15) (ax_dd KX9_isByte 1 rfl) (by decide) c1 ?_
    refine ax_iconst (pc := 15) (v := 0) (ax_dd KX9_isByte 7 rfl) (by decide) ?_
    obtain rfl := Option.some.inj h
    exact ax_ireti (pc := 16) (ax_dd KX9_isByte 8 rfl) ⟨_, rfl, rfl⟩ rfl
  · rw [if_neg c1] at h
    refine ax_if_lt_f (pc := 1) (tgt := 15) (ax_dd KX9_isByte 1 rfl) (by decide) c1 ?_
    refine ax_iload_n (pc := 4) (i := 0) (q := 0) (ax_dd KX9_isByte 2 rfl) rfl rfl ?_
    refine ax_sipush (pc := 5) (v := 255) (ax_dd KX9_isByte 3 rfl) (by decide) ?_
    by_cases c2 : 255 < x0
    · rw [if_pos c2] at h
      refine ax_icmp_gt_t (pc := 8) (tgt := 15) (ax_dd KX9_isByte 4 rfl) (by decide) c2 ?_
      refine ax_iconst (pc := 15) (v := 0) (ax_dd KX9_isByte 7 rfl) (by decide) ?_
      obtain rfl := Option.some.inj h
      exact ax_ireti (pc := 16) (ax_dd KX9_isByte 8 rfl) ⟨_, rfl, rfl⟩ rfl
    · rw [if_neg c2] at h
      refine ax_icmp_gt_f (pc := 8) (tgt := 15) (ax_dd KX9_isByte 4 rfl) (by decide) c2 ?_
      refine ax_iconst (pc := 11) (v := 1) (ax_dd KX9_isByte 5 rfl) (by decide) ?_
      refine ax_goto (pc := 12) (tgt := 16) (ax_dd KX9_isByte 6 rfl) (by decide) ?_
      obtain rfl := Option.some.inj h
      exact ax_ireti (pc := 16) (ax_dd KX9_isByte 8 rfl) ⟨_, rfl, rfl⟩ rfl
def m_X9_feed_118 (x1 : Int32) (x6 : Int32) (μ : ax_M) : Option (Int32 × ax_M) :=
  if x1 ≤ 4 then
    some ((μ 18 1), μ)
  else
    (m_X6_add x6 μ).bind fun μ4 =>
    some ((μ4 18 1), μ4)
set_option maxRecDepth 100000 in
set_option maxHeartbeats 8000000 in
theorem a_X9_feed_118 {G : ax_G} {l : Launch} {sh : List ax_E} {x1 : Int32} {x6 : Int32} {μ : ax_M} (hs : ∀ (k : Nat) (e : ax_E), SHc[k]? = some e → sh[k]? = some e) {v : Int32 × ax_M} (h : m_X9_feed_118 x1 x6 μ = some v) : ax_X G l RX9 cX9_feed 7 (some .int) false 3 (some (.int v.1), sh, v.2) 118 [(0, .ref (G.1 + 0)), (1, .int x1), (6, .int x6)] [] sh μ := by
  unfold m_X9_feed_118 at h
  refine ax_iload_n (pc := 118) (i := 1) (q := 1) (ax_dd KX9_feed 57 rfl) rfl rfl ?_
  refine ax_iconst (pc := 119) (v := 4) (ax_dd KX9_feed 58 rfl) (by decide) ?_
  by_cases c1 : x1 ≤ 4
  · rw [if_pos c1] at h
    refine ax_icmp_le_t (pc := 120) (tgt := 132) (ax_dd KX9_feed 59 rfl) (by decide) c1 ?_
    refine ax_aload_n (pc := 132) (i := 0) (q := 0) (ax_dd KX9_feed 64 rfl) rfl rfl ?_
    refine ax_getR (pc := 133) (k := 0) (q := 18) (ax_dd KX9_feed 65 rfl) f_X9_19 (hs 0 _ rfl) rfl ?_
    refine ax_getI (pc := 136) (k := 18) (ax_dd KX9_feed 66 rfl) f_X9_110 (hs 18 _ rfl) rfl ?_
    obtain rfl := Option.some.inj h
    exact ax_ireti (pc := 139) (ax_dd KX9_feed 67 rfl) ⟨_, rfl, rfl⟩ rfl
  · rw [if_neg c1] at h
    refine ax_icmp_le_f (pc := 120) (tgt := 132) (ax_dd KX9_feed 59 rfl) (by decide) c1 ?_
    refine ax_aload_n (pc := 123) (i := 0) (q := 0) (ax_dd KX9_feed 60 rfl) rfl rfl ?_
    refine ax_getR (pc := 124) (k := 0) (q := 18) (ax_dd KX9_feed 61 rfl) f_X9_19 (hs 0 _ rfl) rfl ?_
    refine ax_iload (pc := 127) (q := 2) (ax_dd KX9_feed 62 rfl) rfl ?_
    obtain ⟨μ4, b3, h⟩ := ob_bind h
    refine ax_kV (pc := 129) (ci := 6) (k := 18) (As := [.int x6]) (rest := []) (st1 := []) (μ1 := μ4) (ax_dd KX9_feed 63 rfl) (c_X6_add hs b3) kV_X9_90 e_X6_add (hs 18 _ rfl) cl_X6 (by decide) rfl rfl (by decide) (by decide) (Nat.le_of_ble_eq_true rfl) rfl ?_
    refine ax_aload_n (pc := 132) (i := 0) (q := 0) (ax_dd KX9_feed 64 rfl) rfl rfl ?_
    refine ax_getR (pc := 133) (k := 0) (q := 18) (ax_dd KX9_feed 65 rfl) f_X9_19 (hs 0 _ rfl) rfl ?_
    refine ax_getI (pc := 136) (k := 18) (ax_dd KX9_feed 66 rfl) f_X9_110 (hs 18 _ rfl) rfl ?_
    obtain rfl := Option.some.inj h
    exact ax_ireti (pc := 139) (ax_dd KX9_feed 67 rfl) ⟨_, rfl, rfl⟩ rfl
def m_X9_feed_104 (x1 : Int32) (x5 : Int32) (x6 : Int32) (μ : ax_M) : Option (Int32 × ax_M) :=
  if x1 ≤ 3 then
    m_X9_feed_118 x1 x6 μ
  else
    (m_X6_add x5 μ).bind fun μ4 =>
    m_X9_feed_118 x1 x6 μ4
set_option maxRecDepth 100000 in
set_option maxHeartbeats 8000000 in
theorem a_X9_feed_104 {G : ax_G} {l : Launch} {sh : List ax_E} {x1 : Int32} {x5 : Int32} {x6 : Int32} {μ : ax_M} (hs : ∀ (k : Nat) (e : ax_E), SHc[k]? = some e → sh[k]? = some e) {v : Int32 × ax_M} (h : m_X9_feed_104 x1 x5 x6 μ = some v) : ax_X G l RX9 cX9_feed 7 (some .int) false 3 (some (.int v.1), sh, v.2) 104 [(0, .ref (G.1 + 0)), (1, .int x1), (5, .int x5), (6, .int x6)] [] sh μ := by
  unfold m_X9_feed_104 at h
  refine ax_iload_n (pc := 104) (i := 1) (q := 1) (ax_dd KX9_feed 50 rfl) rfl rfl ?_
  refine ax_iconst (pc := 105) (v := 3) (ax_dd KX9_feed 51 rfl) (by decide) ?_
  by_cases c1 : x1 ≤ 3
  · rw [if_pos c1] at h
    refine ax_icmp_le_t (pc := 106) (tgt := 118) (ax_dd KX9_feed 52 rfl) (by decide) c1 ?_
    refine ax_sub (lv' := [(0, .ref (G.1 + 0)), (1, .int x1), (6, .int x6)]) [0, 1, 3] rfl ?_
    exact a_X9_feed_118 hs h
  · rw [if_neg c1] at h
    refine ax_icmp_le_f (pc := 106) (tgt := 118) (ax_dd KX9_feed 52 rfl) (by decide) c1 ?_
    refine ax_aload_n (pc := 109) (i := 0) (q := 0) (ax_dd KX9_feed 53 rfl) rfl rfl ?_
    refine ax_getR (pc := 110) (k := 0) (q := 18) (ax_dd KX9_feed 54 rfl) f_X9_19 (hs 0 _ rfl) rfl ?_
    refine ax_iload (pc := 113) (q := 2) (ax_dd KX9_feed 55 rfl) rfl ?_
    obtain ⟨μ4, b3, h⟩ := ob_bind h
    refine ax_kV (pc := 115) (ci := 6) (k := 18) (As := [.int x5]) (rest := []) (st1 := []) (μ1 := μ4) (ax_dd KX9_feed 56 rfl) (c_X6_add hs b3) kV_X9_90 e_X6_add (hs 18 _ rfl) cl_X6 (by decide) rfl rfl (by decide) (by decide) (Nat.le_of_ble_eq_true rfl) rfl ?_
    refine ax_sub (lv' := [(0, .ref (G.1 + 0)), (1, .int x1), (6, .int x6)]) [0, 1, 3] rfl ?_
    exact a_X9_feed_118 hs h
def m_X9_feed_90 (x1 : Int32) (x4 : Int32) (x5 : Int32) (x6 : Int32) (μ : ax_M) : Option (Int32 × ax_M) :=
  if x1 ≤ 2 then
    m_X9_feed_104 x1 x5 x6 μ
  else
    (m_X6_add x4 μ).bind fun μ4 =>
    m_X9_feed_104 x1 x5 x6 μ4
set_option maxRecDepth 100000 in
set_option maxHeartbeats 8000000 in
theorem a_X9_feed_90 {G : ax_G} {l : Launch} {sh : List ax_E} {x1 : Int32} {x4 : Int32} {x5 : Int32} {x6 : Int32} {μ : ax_M} (hs : ∀ (k : Nat) (e : ax_E), SHc[k]? = some e → sh[k]? = some e) {v : Int32 × ax_M} (h : m_X9_feed_90 x1 x4 x5 x6 μ = some v) : ax_X G l RX9 cX9_feed 7 (some .int) false 3 (some (.int v.1), sh, v.2) 90 [(0, .ref (G.1 + 0)), (1, .int x1), (4, .int x4), (5, .int x5), (6, .int x6)] [] sh μ := by
  unfold m_X9_feed_90 at h
  refine ax_iload_n (pc := 90) (i := 1) (q := 1) (ax_dd KX9_feed 43 rfl) rfl rfl ?_
  refine ax_iconst (pc := 91) (v := 2) (ax_dd KX9_feed 44 rfl) (by decide) ?_
  by_cases c1 : x1 ≤ 2
  · rw [if_pos c1] at h
    refine ax_icmp_le_t (pc := 92) (tgt := 104) (ax_dd KX9_feed 45 rfl) (by decide) c1 ?_
    refine ax_sub (lv' := [(0, .ref (G.1 + 0)), (1, .int x1), (5, .int x5), (6, .int x6)]) [0, 1, 3, 4] rfl ?_
    exact a_X9_feed_104 hs h
  · rw [if_neg c1] at h
    refine ax_icmp_le_f (pc := 92) (tgt := 104) (ax_dd KX9_feed 45 rfl) (by decide) c1 ?_
    refine ax_aload_n (pc := 95) (i := 0) (q := 0) (ax_dd KX9_feed 46 rfl) rfl rfl ?_
    refine ax_getR (pc := 96) (k := 0) (q := 18) (ax_dd KX9_feed 47 rfl) f_X9_19 (hs 0 _ rfl) rfl ?_
    refine ax_iload (pc := 99) (q := 2) (ax_dd KX9_feed 48 rfl) rfl ?_
    obtain ⟨μ4, b3, h⟩ := ob_bind h
    refine ax_kV (pc := 101) (ci := 6) (k := 18) (As := [.int x4]) (rest := []) (st1 := []) (μ1 := μ4) (ax_dd KX9_feed 49 rfl) (c_X6_add hs b3) kV_X9_90 e_X6_add (hs 18 _ rfl) cl_X6 (by decide) rfl rfl (by decide) (by decide) (Nat.le_of_ble_eq_true rfl) rfl ?_
    refine ax_sub (lv' := [(0, .ref (G.1 + 0)), (1, .int x1), (5, .int x5), (6, .int x6)]) [0, 1, 3, 4] rfl ?_
    exact a_X9_feed_104 hs h
def m_X9_feed (x1 : Int32) (x2 : Int32) (x3 : Int32) (x4 : Int32) (x5 : Int32) (x6 : Int32) (μ : ax_M) : Option (Int32 × ax_M) :=
  if x1 < 1 then
    some ((-2), μ)
  else
    if 5 < x1 then
      some ((-2), μ)
    else
      (m_X9_isByte x2 μ).bind fun v3 =>
      if v3 = 0 then
        some ((-2), μ)
      else
        (m_X9_isByte x3 μ).bind fun v6 =>
        if v6 = 0 then
          some ((-2), μ)
        else
          (m_X9_isByte x4 μ).bind fun v9 =>
          if v9 = 0 then
            some ((-2), μ)
          else
            (m_X9_isByte x5 μ).bind fun v12 =>
            if v12 = 0 then
              some ((-2), μ)
            else
              (m_X9_isByte x6 μ).bind fun v15 =>
              if v15 = 0 then
                some ((-2), μ)
              else
                if x1 ≤ ((160 : Int32) - (μ 18 1)) then
                  (m_X6_add x2 μ).bind fun μ21 =>
                  if x1 ≤ 1 then
                    m_X9_feed_90 x1 x4 x5 x6 μ21
                  else
                    (m_X6_add x3 μ21).bind fun μ25 =>
                    m_X9_feed_90 x1 x4 x5 x6 μ25
                else
                  some ((-4), μ)
set_option maxRecDepth 100000 in
set_option maxHeartbeats 8000000 in
theorem c_X9_feed {G : ax_G} {l : Launch} {sh : List ax_E} {x1 : Int32} {x2 : Int32} {x3 : Int32} {x4 : Int32} {x5 : Int32} {x6 : Int32} {μ : ax_M} (hs : ∀ (k : Nat) (e : ax_E), SHc[k]? = some e → sh[k]? = some e) {v : Int32 × ax_M} (h : m_X9_feed x1 x2 x3 x4 x5 x6 μ = some v) : ax_A G l yX9_feed cX9_feed 7 (some .int) 3 [.ref (G.1 + 0), .int x1, .int x2, .int x3, .int x4, .int x5, .int x6] sh μ (some (.int v.1), sh, v.2) := by
  refine ax_A.of false (by decide +kernel) (fun h9 => by cases h9) (Nat.le_of_ble_eq_true rfl) (?_ : ax_X G l RX9 cX9_feed 7 (some .int) false 3 (some (.int v.1), sh, v.2) 0 [(0, .ref (G.1 + 0)), (1, .int x1), (2, .int x2), (3, .int x3), (4, .int x4), (5, .int x5), (6, .int x6)] [] sh μ)
  unfold m_X9_feed at h
  refine ax_iload_n (pc := 0) (i := 1) (q := 1) (ax_dd KX9_feed 0 rfl) rfl rfl ?_
  refine ax_iconst (pc := 1) (v := 1) (ax_dd KX9_feed 1 rfl) (by decide) ?_
  by_cases c1 : x1 < 1
  · rw [if_pos c1] at h
    refine ax_icmp_lt_t (pc := 2) (tgt := 48) (ax_dd KX9_feed 2 rfl) (by decide) c1 ?_
    refine ax_bipush (pc := 48) (v := (-2)) (ax_dd KX9_feed 21 rfl) (by decide) ?_
    obtain rfl := Option.some.inj h
    exact ax_ireti (pc := 50) (ax_dd KX9_feed 22 rfl) ⟨_, rfl, rfl⟩ rfl
  · rw [if_neg c1] at h
    refine ax_icmp_lt_f (pc := 2) (tgt := 48) (ax_dd KX9_feed 2 rfl) (by decide) c1 ?_
    refine ax_iload_n (pc := 5) (i := 1) (q := 1) (ax_dd KX9_feed 3 rfl) rfl rfl ?_
    refine ax_iconst (pc := 6) (v := 5) (ax_dd KX9_feed 4 rfl) (by decide) ?_
    by_cases c2 : 5 < x1
    · rw [if_pos c2] at h
      refine ax_icmp_gt_t (pc := 7) (tgt := 48) (ax_dd KX9_feed 5 rfl) (by decide) c2 ?_
      refine ax_bipush (pc := 48) (v := (-2)) (ax_dd KX9_feed 21 rfl) (by decide) ?_
      obtain rfl := Option.some.inj h
      exact ax_ireti (pc := 50) (ax_dd KX9_feed 22 rfl) ⟨_, rfl, rfl⟩ rfl
    · rw [if_neg c2] at h
      refine ax_icmp_gt_f (pc := 7) (tgt := 48) (ax_dd KX9_feed 5 rfl) (by decide) c2 ?_
      refine ax_iload_n (pc := 10) (i := 2) (q := 2) (ax_dd KX9_feed 6 rfl) rfl rfl ?_
      obtain ⟨v3, b4, h⟩ := ob_bind h
      refine ax_kS (pc := 11) (As := [.int x2]) (rest := []) (st1 := [.int v3]) (μ1 := μ) (ax_dd KX9_feed 7 rfl) (c_X9_isByte hs b4) kS_X9_113 e_X9_isByte rfl rfl (by decide) (by decide) (Nat.le_of_ble_eq_true rfl) rfl ?_
      by_cases c5 : v3 = 0
      · rw [if_pos c5] at h
        refine ax_if_eq_t (pc := 14) (tgt := 48) (ax_dd KX9_feed 8 rfl) (by decide) c5 ?_
        refine ax_bipush (pc := 48) (v := (-2)) (ax_dd KX9_feed 21 rfl) (by decide) ?_
        obtain rfl := Option.some.inj h
        exact ax_ireti (pc := 50) (ax_dd KX9_feed 22 rfl) ⟨_, rfl, rfl⟩ rfl
      · rw [if_neg c5] at h
        refine ax_if_eq_f (pc := 14) (tgt := 48) (ax_dd KX9_feed 8 rfl) (by decide) c5 ?_
        refine ax_iload_n (pc := 17) (i := 3) (q := 3) (ax_dd KX9_feed 9 rfl) rfl rfl ?_
        obtain ⟨v6, b7, h⟩ := ob_bind h
        refine ax_kS (pc := 18) (As := [.int x3]) (rest := []) (st1 := [.int v6]) (μ1 := μ) (ax_dd KX9_feed 10 rfl) (c_X9_isByte hs b7) kS_X9_113 e_X9_isByte rfl rfl (by decide) (by decide) (Nat.le_of_ble_eq_true rfl) rfl ?_
        by_cases c8 : v6 = 0
        · rw [if_pos c8] at h
          refine ax_if_eq_t (pc := 21) (tgt := 48) (ax_dd KX9_feed 11 rfl) (by decide) c8 ?_
          refine ax_bipush (pc := 48) (v := (-2)) (ax_dd KX9_feed 21 rfl) (by decide) ?_
          obtain rfl := Option.some.inj h
          exact ax_ireti (pc := 50) (ax_dd KX9_feed 22 rfl) ⟨_, rfl, rfl⟩ rfl
        · rw [if_neg c8] at h
          refine ax_if_eq_f (pc := 21) (tgt := 48) (ax_dd KX9_feed 11 rfl) (by decide) c8 ?_
          refine ax_iload (pc := 24) (q := 4) (ax_dd KX9_feed 12 rfl) rfl ?_
          obtain ⟨v9, b10, h⟩ := ob_bind h
          refine ax_kS (pc := 26) (As := [.int x4]) (rest := []) (st1 := [.int v9]) (μ1 := μ) (ax_dd KX9_feed 13 rfl) (c_X9_isByte hs b10) kS_X9_113 e_X9_isByte rfl rfl (by decide) (by decide) (Nat.le_of_ble_eq_true rfl) rfl ?_
          by_cases c11 : v9 = 0
          · rw [if_pos c11] at h
            refine ax_if_eq_t (pc := 29) (tgt := 48) (ax_dd KX9_feed 14 rfl) (by decide) c11 ?_
            refine ax_bipush (pc := 48) (v := (-2)) (ax_dd KX9_feed 21 rfl) (by decide) ?_
            obtain rfl := Option.some.inj h
            exact ax_ireti (pc := 50) (ax_dd KX9_feed 22 rfl) ⟨_, rfl, rfl⟩ rfl
          · rw [if_neg c11] at h
            refine ax_if_eq_f (pc := 29) (tgt := 48) (ax_dd KX9_feed 14 rfl) (by decide) c11 ?_
            refine ax_iload (pc := 32) (q := 5) (ax_dd KX9_feed 15 rfl) rfl ?_
            obtain ⟨v12, b13, h⟩ := ob_bind h
            refine ax_kS (pc := 34) (As := [.int x5]) (rest := []) (st1 := [.int v12]) (μ1 := μ) (ax_dd KX9_feed 16 rfl) (c_X9_isByte hs b13) kS_X9_113 e_X9_isByte rfl rfl (by decide) (by decide) (Nat.le_of_ble_eq_true rfl) rfl ?_
            by_cases c14 : v12 = 0
            · rw [if_pos c14] at h
              refine ax_if_eq_t (pc := 37) (tgt := 48) (ax_dd KX9_feed 17 rfl) (by decide) c14 ?_
              refine ax_bipush (pc := 48) (v := (-2)) (ax_dd KX9_feed 21 rfl) (by decide) ?_
              obtain rfl := Option.some.inj h
              exact ax_ireti (pc := 50) (ax_dd KX9_feed 22 rfl) ⟨_, rfl, rfl⟩ rfl
            · rw [if_neg c14] at h
              refine ax_if_eq_f (pc := 37) (tgt := 48) (ax_dd KX9_feed 17 rfl) (by decide) c14 ?_
              refine ax_iload (pc := 40) (q := 6) (ax_dd KX9_feed 18 rfl) rfl ?_
              obtain ⟨v15, b16, h⟩ := ob_bind h
              refine ax_kS (pc := 42) (As := [.int x6]) (rest := []) (st1 := [.int v15]) (μ1 := μ) (ax_dd KX9_feed 19 rfl) (c_X9_isByte hs b16) kS_X9_113 e_X9_isByte rfl rfl (by decide) (by decide) (Nat.le_of_ble_eq_true rfl) rfl ?_
              by_cases c17 : v15 = 0
              · rw [if_pos c17] at h
                refine ax_if_ne_f (pc := 45) (tgt := 51) (ax_dd KX9_feed 20 rfl) (by decide) (fun z => z c17) ?_
                refine ax_bipush (pc := 48) (v := (-2)) (ax_dd KX9_feed 21 rfl) (by decide) ?_
                obtain rfl := Option.some.inj h
                exact ax_ireti (pc := 50) (ax_dd KX9_feed 22 rfl) ⟨_, rfl, rfl⟩ rfl
              · rw [if_neg c17] at h
                refine ax_if_ne_t (pc := 45) (tgt := 51) (ax_dd KX9_feed 20 rfl) (by decide) c17 ?_
                refine ax_iload_n (pc := 51) (i := 1) (q := 1) (ax_dd KX9_feed 23 rfl) rfl rfl ?_
                refine ax_sipush (pc := 52) (v := 160) (ax_dd KX9_feed 24 rfl) (by decide) ?_
                refine ax_aload_n (pc := 55) (i := 0) (q := 0) (ax_dd KX9_feed 25 rfl) rfl rfl ?_
                refine ax_getR (pc := 56) (k := 0) (q := 18) (ax_dd KX9_feed 26 rfl) f_X9_19 (hs 0 _ rfl) rfl ?_
                refine ax_getI (pc := 59) (k := 18) (ax_dd KX9_feed 27 rfl) f_X9_110 (hs 18 _ rfl) rfl ?_
                refine ax_isub (pc := 62) (ax_dd KX9_feed 28 rfl) ?_
                by_cases c18 : x1 ≤ ((160 : Int32) - (μ 18 1))
                · rw [if_pos c18] at h
                  refine ax_icmp_le_t (pc := 63) (tgt := 69) (ax_dd KX9_feed 29 rfl) (by decide) c18 ?_
                  refine ax_aload_n (pc := 69) (i := 0) (q := 0) (ax_dd KX9_feed 32 rfl) rfl rfl ?_
                  refine ax_getR (pc := 70) (k := 0) (q := 18) (ax_dd KX9_feed 33 rfl) f_X9_19 (hs 0 _ rfl) rfl ?_
                  refine ax_iload_n (pc := 73) (i := 2) (q := 2) (ax_dd KX9_feed 34 rfl) rfl rfl ?_
                  obtain ⟨μ21, b20, h⟩ := ob_bind h
                  refine ax_kV (pc := 74) (ci := 6) (k := 18) (As := [.int x2]) (rest := []) (st1 := []) (μ1 := μ21) (ax_dd KX9_feed 35 rfl) (c_X6_add hs b20) kV_X9_90 e_X6_add (hs 18 _ rfl) cl_X6 (by decide) rfl rfl (by decide) (by decide) (Nat.le_of_ble_eq_true rfl) rfl ?_
                  refine ax_iload_n (pc := 77) (i := 1) (q := 1) (ax_dd KX9_feed 36 rfl) rfl rfl ?_
                  refine ax_iconst (pc := 78) (v := 1) (ax_dd KX9_feed 37 rfl) (by decide) ?_
                  by_cases c22 : x1 ≤ 1
                  · rw [if_pos c22] at h
                    refine ax_icmp_le_t (pc := 79) (tgt := 90) (ax_dd KX9_feed 38 rfl) (by decide) c22 ?_
                    refine ax_sub (lv' := [(0, .ref (G.1 + 0)), (1, .int x1), (4, .int x4), (5, .int x5), (6, .int x6)]) [0, 1, 4, 5, 6] rfl ?_
                    exact a_X9_feed_90 hs h
                  · rw [if_neg c22] at h
                    refine ax_icmp_le_f (pc := 79) (tgt := 90) (ax_dd KX9_feed 38 rfl) (by decide) c22 ?_
                    refine ax_aload_n (pc := 82) (i := 0) (q := 0) (ax_dd KX9_feed 39 rfl) rfl rfl ?_
                    refine ax_getR (pc := 83) (k := 0) (q := 18) (ax_dd KX9_feed 40 rfl) f_X9_19 (hs 0 _ rfl) rfl ?_
                    refine ax_iload_n (pc := 86) (i := 3) (q := 3) (ax_dd KX9_feed 41 rfl) rfl rfl ?_
                    obtain ⟨μ25, b24, h⟩ := ob_bind h
                    refine ax_kV (pc := 87) (ci := 6) (k := 18) (As := [.int x3]) (rest := []) (st1 := []) (μ1 := μ25) (ax_dd KX9_feed 42 rfl) (c_X6_add hs b24) kV_X9_90 e_X6_add (hs 18 _ rfl) cl_X6 (by decide) rfl rfl (by decide) (by decide) (Nat.le_of_ble_eq_true rfl) rfl ?_
                    refine ax_sub (lv' := [(0, .ref (G.1 + 0)), (1, .int x1), (4, .int x4), (5, .int x5), (6, .int x6)]) [0, 1, 4, 5, 6] rfl ?_
                    exact a_X9_feed_90 hs h
                · rw [if_neg c18] at h
                  refine ax_icmp_le_f (pc := 63) (tgt := 69) (ax_dd KX9_feed 29 rfl) (by decide) c18 ?_
                  refine ax_bipush (pc := 66) (v := (-4)) (ax_dd KX9_feed 30 rfl) (by decide) ?_
                  obtain rfl := Option.some.inj h
                  exact ax_ireti (pc := 68) (ax_dd KX9_feed 31 rfl) ⟨_, rfl, rfl⟩ rfl
