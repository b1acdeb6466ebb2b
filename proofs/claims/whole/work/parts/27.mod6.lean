def m_X10_visit (x1 : Int32) (μ : ax_M) : Option (Int32 × ax_M) :=
  (m_X10_walkWrong x1 μ).bind fun v1 =>
  if v1 = 0 then
    (m_X10_goesOver x1 μ).bind fun μ6 =>
    if (μ6 51 30) = (-1) then
      m_X10_visit_30 fu 0 μ6
    else
      some ((-3), μ6)
  else
    some (v1, μ)
set_option maxRecDepth 100000 in
set_option maxHeartbeats 8000000 in
theorem c_X10_visit {G : ax_G} {l : Launch} {sh : List ax_E} {x1 : Int32} {μ : ax_M} (hs : ∀ (k : Nat) (e : ax_E), SHF[k]? = some e → sh[k]? = some e) {v : Int32 × ax_M} (h : m_X10_visit x1 μ = some v) : ax_A G l yX10_visit cX10_visit 4 (some .int) 8 [.ref (G.1 + 51), .int x1] sh μ (some (.int v.1), sh, v.2) := by
  refine ax_A.of false (by decide +kernel) (fun h9 => by cases h9) (Nat.le_of_ble_eq_true rfl) (?_ : ax_X G l RX10 cX10_visit 4 (some .int) false 8 (some (.int v.1), sh, v.2) 0 [(0, .ref (G.1 + 51)), (1, .int x1)] [] sh μ)
  unfold m_X10_visit at h
  refine ax_aload_n (pc := 0) (i := 0) (q := 0) (ax_dd KX10_visit 0 rfl) rfl rfl ?_
  refine ax_iload_n (pc := 1) (i := 1) (q := 1) (ax_dd KX10_visit 1 rfl) rfl rfl ?_
  obtain ⟨v1, b2, h⟩ := ob_bind h
  refine ax_kV (pc := 2) (ci := 10) (k := 51) (As := [.int x1]) (rest := []) (st1 := [.int v1]) (μ1 := μ) (ax_dd KX10_visit 2 rfl) (c_X10_walkWrong hs b2) kV_X10_230 e_X10_walkWrong (hs 51 _ rfl) cl_X10 (by decide) rfl rfl (by decide) (by decide) (Nat.le_of_ble_eq_true rfl) rfl ?_
  refine ax_istore_n (pc := 5) (i := 2) (lv' := [(2, .int v1), (0, .ref (G.1 + 51)), (1, .int x1)]) (ax_dd KX10_visit 3 rfl) rfl (by decide) rfl ?_
  refine ax_iload_n (pc := 6) (i := 2) (q := 0) (ax_dd KX10_visit 4 rfl) rfl rfl ?_
  by_cases c3 : v1 = 0
  · rw [if_pos c3] at h
    refine ax_if_eq_t (pc := 7) (tgt := 12) (ax_dd KX10_visit 5 rfl) (by decide) c3 ?_
    refine ax_aload_n (pc := 12) (i := 0) (q := 1) (ax_dd KX10_visit 8 rfl) rfl rfl ?_
    refine ax_iload_n (pc := 13) (i := 1) (q := 2) (ax_dd KX10_visit 9 rfl) rfl rfl ?_
    obtain ⟨μ6, b5, h⟩ := ob_bind h
    refine ax_kV (pc := 14) (ci := 10) (k := 51) (As := [.int x1]) (rest := []) (st1 := []) (μ1 := μ6) (ax_dd KX10_visit 10 rfl) (c_X10_goesOver hs b5) kV_X10_233 e_X10_goesOver (hs 51 _ rfl) cl_X10 (by decide) rfl rfl (by decide) (by decide) (Nat.le_of_ble_eq_true rfl) rfl ?_
    refine ax_aload_n (pc := 17) (i := 0) (q := 1) (ax_dd KX10_visit 11 rfl) rfl rfl ?_
    refine ax_getI (pc := 18) (k := 51) (ax_dd KX10_visit 12 rfl) f_X10_218 (hs 51 _ rfl) rfl ?_
    refine ax_iconst (pc := 21) (v := (-1)) (ax_dd KX10_visit 13 rfl) (by decide) ?_
    by_cases c7 : (μ6 51 30) = (-1)
    · rw [if_pos c7] at h
      refine ax_icmp_eq_t (pc := 22) (tgt := 28) (ax_dd KX10_visit 14 rfl) (by decide) c7 ?_
      refine ax_iconst (pc := 28) (v := 0) (ax_dd KX10_visit 17 rfl) (by decide) ?_
      refine ax_istore_n (pc := 29) (i := 3) (lv' := [(3, .int 0), (2, .int v1), (0, .ref (G.1 + 51)), (1, .int x1)]) (ax_dd KX10_visit 18 rfl) rfl (by decide) rfl ?_
      refine ax_sub (lv' := [(0, .ref (G.1 + 51)), (3, .int 0)]) [2, 0] rfl ?_
      exact a_X10_visit_30 hs fu _ _ _ h
    · rw [if_neg c7] at h
      refine ax_icmp_eq_f (pc := 22) (tgt := 28) (ax_dd KX10_visit 14 rfl) (by decide) c7 ?_
      refine ax_bipush (pc := 25) (v := (-3)) (ax_dd KX10_visit 15 rfl) (by decide) ?_
      obtain rfl := Option.some.inj h
      exact ax_ireti (pc := 27) (ax_dd KX10_visit 16 rfl) ⟨_, rfl, rfl⟩ rfl
  · rw [if_neg c3] at h
    refine ax_if_eq_f (pc := 7) (tgt := 12) (ax_dd KX10_visit 5 rfl) (by decide) c3 ?_
    refine ax_iload_n (pc := 10) (i := 2) (q := 0) (ax_dd KX10_visit 6 rfl) rfl rfl ?_
    obtain rfl := Option.some.inj h
    exact ax_ireti (pc := 11) (ax_dd KX10_visit 7 rfl) ⟨_, rfl, rfl⟩ rfl
def m_X10_besideOf (x0 : Int32) (x1 : Int32) (μ : ax_M) : Option (Int32) :=
  if x1 = 0 then
    if 5 ≤ (rmI x0 6) then
      some (-1)
    else
      some (x0 + 1)
  else
    if x1 = 1 then
      if (rmI x0 6) ≤ 0 then
        some (-1)
      else
        some (x0 - 1)
    else
      if x1 = 2 then
        if 30 ≤ x0 then
          some (-1)
        else
          some (x0 + 6)
      else
        if x0 ≤ 5 then
          some (-1)
        else
          some (x0 - 6)
set_option maxRecDepth 100000 in
set_option maxHeartbeats 8000000 in
theorem c_X10_besideOf {G : ax_G} {l : Launch} {sh : List ax_E} {x0 : Int32} {x1 : Int32} {μ : ax_M} (hs : ∀ (k : Nat) (e : ax_E), SHF[k]? = some e → sh[k]? = some e) {v : Int32} (h : m_X10_besideOf x0 x1 μ = some v) : ax_A G l yX10_besideOf cX10_besideOf 2 (some .int) 2 [.int x0, .int x1] sh μ (some (.int v), sh, μ) := by
  refine ax_A.of false (by decide +kernel) (fun h9 => by cases h9) (Nat.le_of_ble_eq_true rfl) (?_ : ax_X G l RX10 cX10_besideOf 2 (some .int) false 2 (some (.int v), sh, μ) 0 [(0, .int x0), (1, .int x1)] [] sh μ)
  unfold m_X10_besideOf at h
  refine ax_iload_n (pc := 0) (i := 1) (q := 1) (ax_dd KX10_besideOf 0 rfl) rfl rfl ?_
  by_cases c1 : x1 = 0
  · rw [if_pos c1] at h
    refine ax_tab (pc := 1) (off := 27) (tgt := 28) (ax_dd KX10_besideOf 1 rfl) (by rw [c1]; decide) (by rw [c1]; decide) (by rw [c1]; rfl) (by decide) ?_
    refine ax_iload_n (pc := 28) (i := 0) (q := 0) (ax_dd KX10_besideOf 2 rfl) rfl rfl ?_
    refine ax_bipush (pc := 29) (v := 6) (ax_dd KX10_besideOf 3 rfl) (by decide) ?_
    refine ax_irem (pc := 31) (ax_dd KX10_besideOf 4 rfl) (by decide) ?_
    refine ax_iconst (pc := 32) (v := 5) (ax_dd KX10_besideOf 5 rfl) (by decide) ?_
    by_cases c2 : 5 ≤ (rmI x0 6)
    · rw [if_pos c2] at h
      refine ax_icmp_ge_t (pc := 33) (tgt := 42) (ax_dd KX10_besideOf 6 rfl) (by decide) c2 ?_
      refine ax_iconst (pc := 42) (v := (-1)) (ax_dd KX10_besideOf 11 rfl) (by decide) ?_
      obtain rfl := Option.some.inj h
      exact ax_ireti (pc := 43) (ax_dd KX10_besideOf 12 rfl) ⟨_, rfl, rfl⟩ rfl
    · rw [if_neg c2] at h
      refine ax_icmp_ge_f (pc := 33) (tgt := 42) (ax_dd KX10_besideOf 6 rfl) (by decide) c2 ?_
      refine ax_iload_n (pc := 36) (i := 0) (q := 0) (ax_dd KX10_besideOf 7 rfl) rfl rfl ?_
      refine ax_iconst (pc := 37) (v := 1) (ax_dd KX10_besideOf 8 rfl) (by decide) ?_
      refine ax_iadd (pc := 38) (ax_dd KX10_besideOf 9 rfl) ?_
      refine ax_goto (pc := 39) (tgt := 43) (ax_dd KX10_besideOf 10 rfl) (by decide) ?_
      obtain rfl := Option.some.inj h
      exact ax_ireti (pc := 43) (ax_dd KX10_besideOf 12 rfl) ⟨_, rfl, rfl⟩ rfl
  · rw [if_neg c1] at h
    by_cases c3 : x1 = 1
    · rw [if_pos c3] at h
      refine ax_tab (pc := 1) (off := 43) (tgt := 44) (ax_dd KX10_besideOf 1 rfl) (by rw [c3]; decide) (by rw [c3]; decide) (by rw [c3]; rfl) (by decide) ?_
      refine ax_iload_n (pc := 44) (i := 0) (q := 0) (ax_dd KX10_besideOf 13 rfl) rfl rfl ?_
      refine ax_bipush (pc := 45) (v := 6) (ax_dd KX10_besideOf 14 rfl) (by decide) ?_
      refine ax_irem (pc := 47) (ax_dd KX10_besideOf 15 rfl) (by decide) ?_
      by_cases c4 : (rmI x0 6) ≤ 0
      · rw [if_pos c4] at h
        refine ax_if_le_t (pc := 48) (tgt := 57) (ax_dd KX10_besideOf 16 rfl) (by decide) c4 ?_
        refine ax_iconst (pc := 57) (v := (-1)) (ax_dd KX10_besideOf 21 rfl) (by decide) ?_
        obtain rfl := Option.some.inj h
        exact ax_ireti (pc := 58) (ax_dd KX10_besideOf 22 rfl) ⟨_, rfl, rfl⟩ rfl
      · rw [if_neg c4] at h
        refine ax_if_le_f (pc := 48) (tgt := 57) (ax_dd KX10_besideOf 16 rfl) (by decide) c4 ?_
        refine ax_iload_n (pc := 51) (i := 0) (q := 0) (ax_dd KX10_besideOf 17 rfl) rfl rfl ?_
        refine ax_iconst (pc := 52) (v := 1) (ax_dd KX10_besideOf 18 rfl) (by decide) ?_
        refine ax_isub (pc := 53) (ax_dd KX10_besideOf 19 rfl) ?_
        refine ax_goto (pc := 54) (tgt := 58) (ax_dd KX10_besideOf 20 rfl) (by decide) ?_
        obtain rfl := Option.some.inj h
        exact ax_ireti (pc := 58) (ax_dd KX10_besideOf 22 rfl) ⟨_, rfl, rfl⟩ rfl
    · rw [if_neg c3] at h
      by_cases c5 : x1 = 2
      · rw [if_pos c5] at h
        refine ax_tab (pc := 1) (off := 58) (tgt := 59) (ax_dd KX10_besideOf 1 rfl) (by rw [c5]; decide) (by rw [c5]; decide) (by rw [c5]; rfl) (by decide) ?_
        refine ax_iload_n (pc := 59) (i := 0) (q := 0) (ax_dd KX10_besideOf 23 rfl) rfl rfl ?_
        refine ax_bipush (pc := 60) (v := 30) (ax_dd KX10_besideOf 24 rfl) (by decide) ?_
        by_cases c6 : 30 ≤ x0
        · rw [if_pos c6] at h
          refine ax_icmp_ge_t (pc := 62) (tgt := 72) (ax_dd KX10_besideOf 25 rfl) (by decide) c6 ?_
          refine ax_iconst (pc := 72) (v := (-1)) (ax_dd KX10_besideOf 30 rfl) (by decide) ?_
          obtain rfl := Option.some.inj h
          exact ax_ireti (pc := 73) (ax_dd KX10_besideOf 31 rfl) ⟨_, rfl, rfl⟩ rfl
        · rw [if_neg c6] at h
          refine ax_icmp_ge_f (pc := 62) (tgt := 72) (ax_dd KX10_besideOf 25 rfl) (by decide) c6 ?_
          refine ax_iload_n (pc := 65) (i := 0) (q := 0) (ax_dd KX10_besideOf 26 rfl) rfl rfl ?_
          refine ax_bipush (pc := 66) (v := 6) (ax_dd KX10_besideOf 27 rfl) (by decide) ?_
          refine ax_iadd (pc := 68) (ax_dd KX10_besideOf 28 rfl) ?_
          refine ax_goto (pc := 69) (tgt := 73) (ax_dd KX10_besideOf 29 rfl) (by decide) ?_
          obtain rfl := Option.some.inj h
          exact ax_ireti (pc := 73) (ax_dd KX10_besideOf 31 rfl) ⟨_, rfl, rfl⟩ rfl
      · rw [if_neg c5] at h
        refine ax_tabD (pc := 1) (tgt := 74) (ax_dd KX10_besideOf 1 rfl) (by have e0 := ax_ne c1 (a := 0) rfl; have e1 := ax_ne c3 (a := 1) rfl; have e2 := ax_ne c5 (a := 2) rfl; omega) (by decide) ?_
        refine ax_iload_n (pc := 74) (i := 0) (q := 0) (ax_dd KX10_besideOf 32 rfl) rfl rfl ?_
        refine ax_iconst (pc := 75) (v := 5) (ax_dd KX10_besideOf 33 rfl) (by decide) ?_
        by_cases c7 : x0 ≤ 5
        · rw [if_pos c7] at h
          refine ax_icmp_le_t (pc := 76) (tgt := 86) (ax_dd KX10_besideOf 34 rfl) (by decide) c7 ?_
          refine ax_iconst (pc := 86) (v := (-1)) (ax_dd KX10_besideOf 39 rfl) (by decide) ?_
          obtain rfl := Option.some.inj h
          exact ax_ireti (pc := 87) (ax_dd KX10_besideOf 40 rfl) ⟨_, rfl, rfl⟩ rfl
        · rw [if_neg c7] at h
          refine ax_icmp_le_f (pc := 76) (tgt := 86) (ax_dd KX10_besideOf 34 rfl) (by decide) c7 ?_
          refine ax_iload_n (pc := 79) (i := 0) (q := 0) (ax_dd KX10_besideOf 35 rfl) rfl rfl ?_
          refine ax_bipush (pc := 80) (v := 6) (ax_dd KX10_besideOf 36 rfl) (by decide) ?_
          refine ax_isub (pc := 82) (ax_dd KX10_besideOf 37 rfl) ?_
          refine ax_goto (pc := 83) (tgt := 87) (ax_dd KX10_besideOf 38 rfl) (by decide) ?_
          obtain rfl := Option.some.inj h
          exact ax_ireti (pc := 87) (ax_dd KX10_besideOf 40 rfl) ⟨_, rfl, rfl⟩ rfl
def m_X10_ball_99 (x2 : Int32) (x3 : Int32) (x4 : Int32) (x6 : Int32) (x7 : Int32) (x8 : Int32) (s0 : Int32) (s1 : Int32) (k48 : Int32 → Int32 → Int32 → Int32 → ax_M → Option (Int32 × ax_M)) (μ : ax_M) : Option (Int32 × ax_M) :=
  if x8 = (-1) then
    k48 x4 (s0 ||| s1) x6 x8 μ
  else
    (ix 36 x7).bind fun j2 =>
    (m_X10_within x8 0 35 μ).bind fun v4 =>
    (ix 36 v4).bind fun j6 =>
    if (μ 68 j2) = (μ 68 j6) then
      k48 x4 (s0 ||| s1) (x6 + 0) x8 μ
    else
      k48 x4 (s0 ||| s1) (x6 + 1) x8 μ
set_option maxRecDepth 100000 in
set_option maxHeartbeats 8000000 in
theorem a_X10_ball_99 {G : ax_G} {l : Launch} {sh : List ax_E} {x2 : Int32} {x3 : Int32} {x4 : Int32} {x6 : Int32} {x7 : Int32} {x8 : Int32} {s0 : Int32} {s1 : Int32} {k48 : Int32 → Int32 → Int32 → Int32 → ax_M → Option (Int32 × ax_M)} {μ : ax_M} (hs : ∀ (k : Nat) (e : ax_E), SHF[k]? = some e → sh[k]? = some e) (hk48 : ∀ (x4 : Int32) (x5 : Int32) (x6 : Int32) (x7 : Int32) (μ : ax_M) (v : Int32 × ax_M), k48 x4 x5 x6 x7 μ = some v → ax_X G l RX10 cX10_ball 9 (some .int) false 7 (some (.int v.1), sh, v.2) 48 [(0, .ref (G.1 + 51)), (2, .int x2), (3, .int x3), (4, .int x4), (5, .int x5), (6, .int x6), (7, .int x7)] [] sh μ) {v : Int32 × ax_M} (h : m_X10_ball_99 x2 x3 x4 x6 x7 x8 s0 s1 k48 μ = some v) : ax_X G l RX10 cX10_ball 9 (some .int) false 7 (some (.int v.1), sh, v.2) 99 [(0, .ref (G.1 + 51)), (2, .int x2), (3, .int x3), (4, .int x4), (6, .int x6), (7, .int x7), (8, .int x8)] [.int s1, .int s0] sh μ := by
  unfold m_X10_ball_99 at h
  refine ax_ior (pc := 99) (ax_dd KX10_ball 56 rfl) ?_
  refine ax_istore (pc := 100) (lv' := [(5, .int (s0 ||| s1)), (0, .ref (G.1 + 51)), (2, .int x2), (3, .int x3), (4, .int x4), (6, .int x6), (7, .int x7), (8, .int x8)]) (ax_dd KX10_ball 57 rfl) (by decide) rfl ?_
  refine ax_iload (pc := 102) (q := 7) (ax_dd KX10_ball 58 rfl) rfl ?_
  refine ax_iconst (pc := 104) (v := (-1)) (ax_dd KX10_ball 59 rfl) (by decide) ?_
  by_cases c1 : x8 = (-1)
  · rw [if_pos c1] at h
    refine ax_icmp_eq_t (pc := 105) (tgt := 141) (ax_dd KX10_ball 60 rfl) (by decide) c1 ?_
    refine ax_iload (pc := 141) (q := 7) (ax_dd KX10_ball 79 rfl) rfl ?_
    refine ax_istore (pc := 143) (lv' := [(7, .int x8), (5, .int (s0 ||| s1)), (0, .ref (G.1 + 51)), (2, .int x2), (3, .int x3), (4, .int x4), (6, .int x6), (8, .int x8)]) (ax_dd KX10_ball 80 rfl) (by decide) rfl ?_
    refine ax_goto (pc := 145) (tgt := 48) (ax_dd KX10_ball 81 rfl) (by decide) ?_
    refine ax_sub (lv' := [(0, .ref (G.1 + 51)), (2, .int x2), (3, .int x3), (4, .int x4), (5, .int (s0 ||| s1)), (6, .int x6), (7, .int x8)]) [2, 3, 4, 5, 1, 6, 0] rfl ?_
    exact hk48 _ _ _ _ _ _ h
  · rw [if_neg c1] at h
    refine ax_icmp_eq_f (pc := 105) (tgt := 141) (ax_dd KX10_ball 60 rfl) (by decide) c1 ?_
    refine ax_iload (pc := 108) (q := 5) (ax_dd KX10_ball 61 rfl) rfl ?_
    refine ax_aload_n (pc := 110) (i := 0) (q := 1) (ax_dd KX10_ball 62 rfl) rfl rfl ?_
    refine ax_getR (pc := 111) (k := 51) (q := 68) (ax_dd KX10_ball 63 rfl) f_X10_62 (hs 51 _ rfl) rfl ?_
    refine ax_iload (pc := 114) (q := 6) (ax_dd KX10_ball 64 rfl) rfl ?_
    obtain ⟨j2, b3, h⟩ := ob_bind h
    refine ax_ild (pc := 116) (k := 68) (N := 36) (j := j2) (ax_dd KX10_ball 65 rfl) (hs 68 _ rfl) b3 ?_
    refine ax_aload_n (pc := 117) (i := 0) (q := 1) (ax_dd KX10_ball 66 rfl) rfl rfl ?_
    refine ax_getR (pc := 118) (k := 51) (q := 68) (ax_dd KX10_ball 67 rfl) f_X10_62 (hs 51 _ rfl) rfl ?_
    refine ax_iload (pc := 121) (q := 7) (ax_dd KX10_ball 68 rfl) rfl ?_
    refine ax_iconst (pc := 123) (v := 0) (ax_dd KX10_ball 69 rfl) (by decide) ?_
    refine ax_bipush (pc := 124) (v := 35) (ax_dd KX10_ball 70 rfl) (by decide) ?_
    obtain ⟨v4, b5, h⟩ := ob_bind h
    refine ax_kS (pc := 126) (As := [.int x8, .int 0, .int 35]) (rest := [.ref (G.1 + 68), .int (μ 68 j2), .int x6]) (st1 := [.int v4, .ref (G.1 + 68), .int (μ 68 j2), .int x6]) (μ1 := μ) (ax_dd KX10_ball 71 rfl) (c_X10_within hs b5) kS_X10_164 e_X10_within rfl rfl (by decide) (by decide) (Nat.le_of_ble_eq_true rfl) rfl ?_
    obtain ⟨j6, b7, h⟩ := ob_bind h
    refine ax_ild (pc := 129) (k := 68) (N := 36) (j := j6) (ax_dd KX10_ball 72 rfl) (hs 68 _ rfl) b7 ?_
    by_cases c8 : (μ 68 j2) = (μ 68 j6)
    · rw [if_pos c8] at h
      refine ax_icmp_eq_t (pc := 130) (tgt := 137) (ax_dd KX10_ball 73 rfl) (by decide) c8 ?_
      refine ax_iconst (pc := 137) (v := 0) (ax_dd KX10_ball 76 rfl) (by decide) ?_
      refine ax_iadd (pc := 138) (ax_dd KX10_ball 77 rfl) ?_
      refine ax_istore (pc := 139) (lv' := [(6, .int (x6 + 0)), (5, .int (s0 ||| s1)), (0, .ref (G.1 + 51)), (2, .int x2), (3, .int x3), (4, .int x4), (7, .int x7), (8, .int x8)]) (ax_dd KX10_ball 78 rfl) (by decide) rfl ?_
      refine ax_iload (pc := 141) (q := 7) (ax_dd KX10_ball 79 rfl) rfl ?_
      refine ax_istore (pc := 143) (lv' := [(7, .int x8), (6, .int (x6 + 0)), (5, .int (s0 ||| s1)), (0, .ref (G.1 + 51)), (2, .int x2), (3, .int x3), (4, .int x4), (8, .int x8)]) (ax_dd KX10_ball 80 rfl) (by decide) rfl ?_
      refine ax_goto (pc := 145) (tgt := 48) (ax_dd KX10_ball 81 rfl) (by decide) ?_
      refine ax_sub (lv' := [(0, .ref (G.1 + 51)), (2, .int x2), (3, .int x3), (4, .int x4), (5, .int (s0 ||| s1)), (6, .int (x6 + 0)), (7, .int x8)]) [3, 4, 5, 6, 2, 1, 0] rfl ?_
      exact hk48 _ _ _ _ _ _ h
    · rw [if_neg c8] at h
      refine ax_icmp_eq_f (pc := 130) (tgt := 137) (ax_dd KX10_ball 73 rfl) (by decide) c8 ?_
      refine ax_iconst (pc := 133) (v := 1) (ax_dd KX10_ball 74 rfl) (by decide) ?_
      refine ax_goto (pc := 134) (tgt := 138) (ax_dd KX10_ball 75 rfl) (by decide) ?_
      refine ax_iadd (pc := 138) (ax_dd KX10_ball 77 rfl) ?_
      refine ax_istore (pc := 139) (lv' := [(6, .int (x6 + 1)), (5, .int (s0 ||| s1)), (0, .ref (G.1 + 51)), (2, .int x2), (3, .int x3), (4, .int x4), (7, .int x7), (8, .int x8)]) (ax_dd KX10_ball 78 rfl) (by decide) rfl ?_
      refine ax_iload (pc := 141) (q := 7) (ax_dd KX10_ball 79 rfl) rfl ?_
      refine ax_istore (pc := 143) (lv' := [(7, .int x8), (6, .int (x6 + 1)), (5, .int (s0 ||| s1)), (0, .ref (G.1 + 51)), (2, .int x2), (3, .int x3), (4, .int x4), (8, .int x8)]) (ax_dd KX10_ball 80 rfl) (by decide) rfl ?_
      refine ax_goto (pc := 145) (tgt := 48) (ax_dd KX10_ball 81 rfl) (by decide) ?_
      refine ax_sub (lv' := [(0, .ref (G.1 + 51)), (2, .int x2), (3, .int x3), (4, .int x4), (5, .int (s0 ||| s1)), (6, .int (x6 + 1)), (7, .int x8)]) [3, 4, 5, 6, 2, 1, 0] rfl ?_
      exact hk48 _ _ _ _ _ _ h
def m_X10_ball_48 (x2 : Int32) (x3 : Int32) : Nat → Int32 → Int32 → Int32 → Int32 → ax_M → Option (Int32 × ax_M)
  | 0, _, _, _, _, _ => none
  | n + 1, x4, x5, x6, x7, μ =>
    if x7 = (-1) then
      if x3 = 0 then
        some (x4, μ)
      else
        if x3 = 1 then
          some (x5, μ)
        else
          some (x6, μ)
    else
      (m_X10_besideOf x7 x2 μ).bind fun v4 =>
      bind2 (m_X10_finedAt x7 μ) fun v6 μ8 =>
      (ix 36 x7).bind fun j9 =>
      if (μ8 68 j9) = (-1) then
        m_X10_ball_99 x2 x3 (x4 + v6) x6 x7 v4 x5 0 (m_X10_ball_48 x2 x3 n) μ8
      else
        (ix 36 x7).bind fun j12 =>
        m_X10_ball_99 x2 x3 (x4 + v6) x6 x7 v4 x5 (shI (1 : Int32) (μ8 68 j12)) (m_X10_ball_48 x2 x3 n) μ8
set_option maxRecDepth 100000 in
set_option maxHeartbeats 8000000 in
theorem a_X10_ball_48 {G : ax_G} {l : Launch} {sh : List ax_E} {x2 : Int32} {x3 : Int32} (hs : ∀ (k : Nat) (e : ax_E), SHF[k]? = some e → sh[k]? = some e) : ∀ (n : Nat) (x4 : Int32) (x5 : Int32) (x6 : Int32) (x7 : Int32) (μ : ax_M) (v : Int32 × ax_M), m_X10_ball_48 x2 x3 n x4 x5 x6 x7 μ = some v → ax_X G l RX10 cX10_ball 9 (some .int) false 7 (some (.int v.1), sh, v.2) 48 [(0, .ref (G.1 + 51)), (2, .int x2), (3, .int x3), (4, .int x4), (5, .int x5), (6, .int x6), (7, .int x7)] [] sh μ := by
  intro n
  induction n with
  | zero =>
    intro x4 x5 x6 x7 μ v h
    rw [m_X10_ball_48] at h
    cases h
  | succ n ih =>
    intro x4 x5 x6 x7 μ v h
    rw [m_X10_ball_48] at h
    refine ax_iload (pc := 48) (q := 6) (ax_dd KX10_ball 28 rfl) rfl ?_
    refine ax_iconst (pc := 50) (v := (-1)) (ax_dd KX10_ball 29 rfl) (by decide) ?_
    by_cases c1 : x7 = (-1)
    · rw [if_pos c1] at h
      refine ax_icmp_eq_t (pc := 51) (tgt := 148) (ax_dd KX10_ball 30 rfl) (by decide) c1 ?_
      refine ax_iload_n (pc := 148) (i := 3) (q := 2) (ax_dd KX10_ball 82 rfl) rfl rfl ?_
      by_cases c2 : x3 = 0
      · rw [if_pos c2] at h
        refine ax_if_ne_f (pc := 149) (tgt := 157) (ax_dd KX10_ball 83 rfl) (by decide) (fun z => z c2) ?_
        refine ax_iload (pc := 152) (q := 3) (ax_dd KX10_ball 84 rfl) rfl ?_
        refine ax_goto (pc := 154) (tgt := 169) (ax_dd KX10_ball 85 rfl) (by decide) ?_
        obtain rfl := Option.some.inj h
        exact ax_ireti (pc := 169) (ax_dd KX10_ball 92 rfl) ⟨_, rfl, rfl⟩ rfl
      · rw [if_neg c2] at h
        refine ax_if_ne_t (pc := 149) (tgt := 157) (ax_dd KX10_ball 83 rfl) (by decide) c2 ?_
        refine ax_iload_n (pc := 157) (i := 3) (q := 2) (ax_dd KX10_ball 86 rfl) rfl rfl ?_
        refine ax_iconst (pc := 158) (v := 1) (ax_dd KX10_ball 87 rfl) (by decide) ?_
        by_cases c3 : x3 = 1
        · rw [if_pos c3] at h
          refine ax_icmp_ne_f (pc := 159) (tgt := 167) (ax_dd KX10_ball 88 rfl) (by decide) (fun z => z c3) ?_
          refine ax_iload (pc := 162) (q := 4) (ax_dd KX10_ball 89 rfl) rfl ?_
          refine ax_goto (pc := 164) (tgt := 169) (ax_dd KX10_ball 90 rfl) (by decide) ?_
          obtain rfl := Option.some.inj h
          exact ax_ireti (pc := 169) (ax_dd KX10_ball 92 rfl) ⟨_, rfl, rfl⟩ rfl
        · rw [if_neg c3] at h
          refine ax_icmp_ne_t (pc := 159) (tgt := 167) (ax_dd KX10_ball 88 rfl) (by decide) c3 ?_
          refine ax_iload (pc := 167) (q := 5) (ax_dd KX10_ball 91 rfl) rfl ?_
          obtain rfl := Option.some.inj h
          exact ax_ireti (pc := 169) (ax_dd KX10_ball 92 rfl) ⟨_, rfl, rfl⟩ rfl
    · rw [if_neg c1] at h
      refine ax_icmp_eq_f (pc := 51) (tgt := 148) (ax_dd KX10_ball 30 rfl) (by decide) c1 ?_
      refine ax_iload (pc := 54) (q := 6) (ax_dd KX10_ball 31 rfl) rfl ?_
      refine ax_iload_n (pc := 56) (i := 2) (q := 1) (ax_dd KX10_ball 32 rfl) rfl rfl ?_
      obtain ⟨v4, b5, h⟩ := ob_bind h
      refine ax_kS (pc := 57) (As := [.int x7, .int x2]) (rest := []) (st1 := [.int v4]) (μ1 := μ) (ax_dd KX10_ball 33 rfl) (c_X10_besideOf hs b5) kS_X10_236 e_X10_besideOf rfl rfl (by decide) (by decide) (Nat.le_of_ble_eq_true rfl) rfl ?_
      refine ax_istore (pc := 60) (lv' := [(8, .int v4), (0, .ref (G.1 + 51)), (2, .int x2), (3, .int x3), (4, .int x4), (5, .int x5), (6, .int x6), (7, .int x7)]) (ax_dd KX10_ball 34 rfl) (by decide) rfl ?_
      refine ax_iload (pc := 62) (q := 4) (ax_dd KX10_ball 35 rfl) rfl ?_
      refine ax_aload_n (pc := 64) (i := 0) (q := 1) (ax_dd KX10_ball 36 rfl) rfl rfl ?_
      refine ax_iload (pc := 65) (q := 7) (ax_dd KX10_ball 37 rfl) rfl ?_
      obtain ⟨v6, μ8, b7, h⟩ := ob_bind2 h
      refine ax_kV (pc := 67) (ci := 10) (k := 51) (As := [.int x7]) (rest := [.int x4]) (st1 := [.int v6, .int x4]) (μ1 := μ8) (ax_dd KX10_ball 38 rfl) (c_X10_finedAt hs b7) kV_X10_207 e_X10_finedAt (hs 51 _ rfl) cl_X10 (by decide) rfl rfl (by decide) (by decide) (Nat.le_of_ble_eq_true rfl) rfl ?_
      refine ax_iadd (pc := 70) (ax_dd KX10_ball 39 rfl) ?_
      refine ax_istore (pc := 71) (lv' := [(4, .int (x4 + v6)), (8, .int v4), (0, .ref (G.1 + 51)), (2, .int x2), (3, .int x3), (5, .int x5), (6, .int x6), (7, .int x7)]) (ax_dd KX10_ball 40 rfl) (by decide) rfl ?_
      refine ax_iload (pc := 73) (q := 5) (ax_dd KX10_ball 41 rfl) rfl ?_
      refine ax_aload_n (pc := 75) (i := 0) (q := 2) (ax_dd KX10_ball 42 rfl) rfl rfl ?_
      refine ax_getR (pc := 76) (k := 51) (q := 68) (ax_dd KX10_ball 43 rfl) f_X10_62 (hs 51 _ rfl) rfl ?_
      refine ax_iload (pc := 79) (q := 7) (ax_dd KX10_ball 44 rfl) rfl ?_
      obtain ⟨j9, b10, h⟩ := ob_bind h
      refine ax_ild (pc := 81) (k := 68) (N := 36) (j := j9) (ax_dd KX10_ball 45 rfl) (hs 68 _ rfl) b10 ?_
      refine ax_iconst (pc := 82) (v := (-1)) (ax_dd KX10_ball 46 rfl) (by decide) ?_
      by_cases c11 : (μ8 68 j9) = (-1)
      · rw [if_pos c11] at h
        refine ax_icmp_ne_f (pc := 83) (tgt := 90) (ax_dd KX10_ball 47 rfl) (by decide) (fun z => z c11) ?_
        refine ax_iconst (pc := 86) (v := 0) (ax_dd KX10_ball 48 rfl) (by decide) ?_
        refine ax_goto (pc := 87) (tgt := 99) (ax_dd KX10_ball 49 rfl) (by decide) ?_
        refine ax_sub (lv' := [(0, .ref (G.1 + 51)), (2, .int x2), (3, .int x3), (4, .int (x4 + v6)), (6, .int x6), (7, .int x7), (8, .int v4)]) [2, 3, 4, 0, 6, 7, 1] rfl ?_
        exact a_X10_ball_99 hs ih h
      · rw [if_neg c11] at h
        refine ax_icmp_ne_t (pc := 83) (tgt := 90) (ax_dd KX10_ball 47 rfl) (by decide) c11 ?_
        refine ax_iconst (pc := 90) (v := 1) (ax_dd KX10_ball 50 rfl) (by decide) ?_
        refine ax_aload_n (pc := 91) (i := 0) (q := 2) (ax_dd KX10_ball 51 rfl) rfl rfl ?_
        refine ax_getR (pc := 92) (k := 51) (q := 68) (ax_dd KX10_ball 52 rfl) f_X10_62 (hs 51 _ rfl) rfl ?_
        refine ax_iload (pc := 95) (q := 7) (ax_dd KX10_ball 53 rfl) rfl ?_
        obtain ⟨j12, b13, h⟩ := ob_bind h
        refine ax_ild (pc := 97) (k := 68) (N := 36) (j := j12) (ax_dd KX10_ball 54 rfl) (hs 68 _ rfl) b13 ?_
        refine ax_ishl (pc := 98) (ax_dd KX10_ball 55 rfl) ?_
        refine ax_sub (lv' := [(0, .ref (G.1 + 51)), (2, .int x2), (3, .int x3), (4, .int (x4 + v6)), (6, .int x6), (7, .int x7), (8, .int v4)]) [2, 3, 4, 0, 6, 7, 1] rfl ?_
        exact a_X10_ball_99 hs ih h
def m_X10_ball (x1 : Int32) (x2 : Int32) (x3 : Int32) (μ : ax_M) : Option (Int32 × ax_M) :=
  (m_X10_isCell x1 μ).bind fun v1 =>
  if v1 = 0 then
    some ((-5), μ)
  else
    (m_X10_in x2 0 3 μ).bind fun v4 =>
    if v4 = 0 then
      some ((-7), μ)
    else
      (m_X10_in x3 0 2 μ).bind fun v7 =>
      if v7 = 0 then
        some ((-7), μ)
      else
        (m_X10_rulesBut (-1) μ).bind fun μ12 =>
        m_X10_ball_48 x2 x3 fu 0 0 0 x1 μ12
set_option maxRecDepth 100000 in
set_option maxHeartbeats 8000000 in
theorem c_X10_ball {G : ax_G} {l : Launch} {sh : List ax_E} {x1 : Int32} {x2 : Int32} {x3 : Int32} {μ : ax_M} (hs : ∀ (k : Nat) (e : ax_E), SHF[k]? = some e → sh[k]? = some e) {v : Int32 × ax_M} (h : m_X10_ball x1 x2 x3 μ = some v) : ax_A G l yX10_ball cX10_ball 9 (some .int) 7 [.ref (G.1 + 51), .int x1, .int x2, .int x3] sh μ (some (.int v.1), sh, v.2) := by
  refine ax_A.of false (by decide +kernel) (fun h9 => by cases h9) (Nat.le_of_ble_eq_true rfl) (?_ : ax_X G l RX10 cX10_ball 9 (some .int) false 7 (some (.int v.1), sh, v.2) 0 [(0, .ref (G.1 + 51)), (1, .int x1), (2, .int x2), (3, .int x3)] [] sh μ)
  unfold m_X10_ball at h
  refine ax_iload_n (pc := 0) (i := 1) (q := 1) (ax_dd KX10_ball 0 rfl) rfl rfl ?_
  obtain ⟨v1, b2, h⟩ := ob_bind h
  refine ax_kS (pc := 1) (As := [.int x1]) (rest := []) (st1 := [.int v1]) (μ1 := μ) (ax_dd KX10_ball 1 rfl) (c_X10_isCell hs b2) kS_X10_170 e_X10_isCell rfl rfl (by decide) (by decide) (Nat.le_of_ble_eq_true rfl) rfl ?_
  by_cases c3 : v1 = 0
  · rw [if_pos c3] at h
    refine ax_if_ne_f (pc := 4) (tgt := 10) (ax_dd KX10_ball 2 rfl) (by decide) (fun z => z c3) ?_
    refine ax_bipush (pc := 7) (v := (-5)) (ax_dd KX10_ball 3 rfl) (by decide) ?_
    obtain rfl := Option.some.inj h
    exact ax_ireti (pc := 9) (ax_dd KX10_ball 4 rfl) ⟨_, rfl, rfl⟩ rfl
  · rw [if_neg c3] at h
    refine ax_if_ne_t (pc := 4) (tgt := 10) (ax_dd KX10_ball 2 rfl) (by decide) c3 ?_
    refine ax_iload_n (pc := 10) (i := 2) (q := 2) (ax_dd KX10_ball 5 rfl) rfl rfl ?_
    refine ax_iconst (pc := 11) (v := 0) (ax_dd KX10_ball 6 rfl) (by decide) ?_
    refine ax_iconst (pc := 12) (v := 3) (ax_dd KX10_ball 7 rfl) (by decide) ?_
    obtain ⟨v4, b5, h⟩ := ob_bind h
    refine ax_kS (pc := 13) (As := [.int x2, .int 0, .int 3]) (rest := []) (st1 := [.int v4]) (μ1 := μ) (ax_dd KX10_ball 8 rfl) (c_X10_in hs b5) kS_X10_81 e_X10_in rfl rfl (by decide) (by decide) (Nat.le_of_ble_eq_true rfl) rfl ?_
    by_cases c6 : v4 = 0
    · rw [if_pos c6] at h
      refine ax_if_eq_t (pc := 16) (tgt := 28) (ax_dd KX10_ball 9 rfl) (by decide) c6 ?_
      refine ax_bipush (pc := 28) (v := (-7)) (ax_dd KX10_ball 15 rfl) (by decide) ?_
      obtain rfl := Option.some.inj h
      exact ax_ireti (pc := 30) (ax_dd KX10_ball 16 rfl) ⟨_, rfl, rfl⟩ rfl
    · rw [if_neg c6] at h
      refine ax_if_eq_f (pc := 16) (tgt := 28) (ax_dd KX10_ball 9 rfl) (by decide) c6 ?_
      refine ax_iload_n (pc := 19) (i := 3) (q := 3) (ax_dd KX10_ball 10 rfl) rfl rfl ?_
      refine ax_iconst (pc := 20) (v := 0) (ax_dd KX10_ball 11 rfl) (by decide) ?_
      refine ax_iconst (pc := 21) (v := 2) (ax_dd KX10_ball 12 rfl) (by decide) ?_
      obtain ⟨v7, b8, h⟩ := ob_bind h
      refine ax_kS (pc := 22) (As := [.int x3, .int 0, .int 2]) (rest := []) (st1 := [.int v7]) (μ1 := μ) (ax_dd KX10_ball 13 rfl) (c_X10_in hs b8) kS_X10_81 e_X10_in rfl rfl (by decide) (by decide) (Nat.le_of_ble_eq_true rfl) rfl ?_
      by_cases c9 : v7 = 0
      · rw [if_pos c9] at h
        refine ax_if_ne_f (pc := 25) (tgt := 31) (ax_dd KX10_ball 14 rfl) (by decide) (fun z => z c9) ?_
        refine ax_bipush (pc := 28) (v := (-7)) (ax_dd KX10_ball 15 rfl) (by decide) ?_
        obtain rfl := Option.some.inj h
        exact ax_ireti (pc := 30) (ax_dd KX10_ball 16 rfl) ⟨_, rfl, rfl⟩ rfl
      · rw [if_neg c9] at h
        refine ax_if_ne_t (pc := 25) (tgt := 31) (ax_dd KX10_ball 14 rfl) (by decide) c9 ?_
        refine ax_aload_n (pc := 31) (i := 0) (q := 0) (ax_dd KX10_ball 17 rfl) rfl rfl ?_
        refine ax_iconst (pc := 32) (v := (-1)) (ax_dd KX10_ball 18 rfl) (by decide) ?_
        obtain ⟨μ12, b11, h⟩ := ob_bind h
        refine ax_kV (pc := 33) (ci := 10) (k := 51) (As := [.int (-1)]) (rest := []) (st1 := []) (μ1 := μ12) (ax_dd KX10_ball 19 rfl) (c_X10_rulesBut hs b11) kV_X10_198 e_X10_rulesBut (hs 51 _ rfl) cl_X10 (by decide) rfl rfl (by decide) (by decide) (Nat.le_of_ble_eq_true rfl) rfl ?_
        refine ax_iconst (pc := 36) (v := 0) (ax_dd KX10_ball 20 rfl) (by decide) ?_
        refine ax_istore (pc := 37) (lv' := [(4, .int 0), (0, .ref (G.1 + 51)), (1, .int x1), (2, .int x2), (3, .int x3)]) (ax_dd KX10_ball 21 rfl) (by decide) rfl ?_
        refine ax_iconst (pc := 39) (v := 0) (ax_dd KX10_ball 22 rfl) (by decide) ?_
        refine ax_istore (pc := 40) (lv' := [(5, .int 0), (4, .int 0), (0, .ref (G.1 + 51)), (1, .int x1), (2, .int x2), (3, .int x3)]) (ax_dd KX10_ball 23 rfl) (by decide) rfl ?_
        refine ax_iconst (pc := 42) (v := 0) (ax_dd KX10_ball 24 rfl) (by decide) ?_
        refine ax_istore (pc := 43) (lv' := [(6, .int 0), (5, .int 0), (4, .int 0), (0, .ref (G.1 + 51)), (1, .int x1), (2, .int x2), (3, .int x3)]) (ax_dd KX10_ball 25 rfl) (by decide) rfl ?_
        refine ax_iload_n (pc := 45) (i := 1) (q := 4) (ax_dd KX10_ball 26 rfl) rfl rfl ?_
        refine ax_istore (pc := 46) (lv' := [(7, .int x1), (6, .int 0), (5, .int 0), (4, .int 0), (0, .ref (G.1 + 51)), (1, .int x1), (2, .int x2), (3, .int x3)]) (ax_dd KX10_ball 27 rfl) (by decide) rfl ?_
        refine ax_sub (lv' := [(0, .ref (G.1 + 51)), (2, .int x2), (3, .int x3), (4, .int 0), (5, .int 0), (6, .int 0), (7, .int x1)]) [4, 6, 7, 3, 2, 1, 0] rfl ?_
        exact a_X10_ball_48 hs fu _ _ _ _ _ _ h
def m_X10_relaxes_91 (x2 : Int32) (x5 : Int32) (μ : ax_M) : Option (Int32 × ax_M) :=
  (ix 36 x2).bind fun j1 =>
  some (1, ax_w μ 70 j1 x5)
set_option maxRecDepth 100000 in
set_option maxHeartbeats 8000000 in
theorem a_X10_relaxes_91 {G : ax_G} {l : Launch} {sh : List ax_E} {x2 : Int32} {x5 : Int32} {μ : ax_M} (hs : ∀ (k : Nat) (e : ax_E), SHF[k]? = some e → sh[k]? = some e) {v : Int32 × ax_M} (h : m_X10_relaxes_91 x2 x5 μ = some v) : ax_X G l RX10 cX10_relaxes 6 (some .boolean) false 2 (some (.int v.1), sh, v.2) 91 [(0, .ref (G.1 + 51)), (2, .int x2), (5, .int x5)] [] sh μ := by
  unfold m_X10_relaxes_91 at h
  refine ax_aload_n (pc := 91) (i := 0) (q := 0) (ax_dd KX10_relaxes 55 rfl) rfl rfl ?_
  refine ax_getR (pc := 92) (k := 51) (q := 70) (ax_dd KX10_relaxes 56 rfl) f_X10_68 (hs 51 _ rfl) rfl ?_
  refine ax_iload_n (pc := 95) (i := 2) (q := 1) (ax_dd KX10_relaxes 57 rfl) rfl rfl ?_
  refine ax_iload (pc := 96) (q := 2) (ax_dd KX10_relaxes 58 rfl) rfl ?_
  obtain ⟨j1, b2, h⟩ := ob_bind h
  refine ax_ist (pc := 98) (k := 70) (N := 36) (j := j1) (ax_dd KX10_relaxes 59 rfl) (hs 70 _ rfl) b2 ?_
  refine ax_iconst (pc := 99) (v := 1) (ax_dd KX10_relaxes 60 rfl) (by decide) ?_
  obtain rfl := Option.some.inj h
  exact ax_ireti (pc := 100) (ax_dd KX10_relaxes 61 rfl) ⟨_, rfl, rfl⟩ rfl
def m_X10_relaxes_55 (x1 : Int32) (x2 : Int32) (s0 : Int32) (μ : ax_M) : Option (Int32 × ax_M) :=
  (ix 36 x1).bind fun j1 =>
  (ix 36 x2).bind fun j3 =>
  if (μ 70 j3) = (-1) then
    m_X10_relaxes_91 x2 ((μ 70 j1) + s0) μ
  else
    (ix 36 x2).bind fun j6 =>
    if ((μ 70 j1) + s0) < (μ 70 j6) then
      m_X10_relaxes_91 x2 ((μ 70 j1) + s0) μ
    else
      some (0, μ)
set_option maxRecDepth 100000 in
set_option maxHeartbeats 8000000 in
theorem a_X10_relaxes_55 {G : ax_G} {l : Launch} {sh : List ax_E} {x1 : Int32} {x2 : Int32} {s0 : Int32} {μ : ax_M} (hs : ∀ (k : Nat) (e : ax_E), SHF[k]? = some e → sh[k]? = some e) {v : Int32 × ax_M} (h : m_X10_relaxes_55 x1 x2 s0 μ = some v) : ax_X G l RX10 cX10_relaxes 6 (some .boolean) false 2 (some (.int v.1), sh, v.2) 55 [(0, .ref (G.1 + 51)), (1, .int x1), (2, .int x2)] [.int s0] sh μ := by
  unfold m_X10_relaxes_55 at h
  refine ax_istore (pc := 55) (lv' := [(4, .int s0), (0, .ref (G.1 + 51)), (1, .int x1), (2, .int x2)]) (ax_dd KX10_relaxes 33 rfl) (by decide) rfl ?_
  refine ax_aload_n (pc := 57) (i := 0) (q := 1) (ax_dd KX10_relaxes 34 rfl) rfl rfl ?_
  refine ax_getR (pc := 58) (k := 51) (q := 70) (ax_dd KX10_relaxes 35 rfl) f_X10_68 (hs 51 _ rfl) rfl ?_
  refine ax_iload_n (pc := 61) (i := 1) (q := 2) (ax_dd KX10_relaxes 36 rfl) rfl rfl ?_
  obtain ⟨j1, b2, h⟩ := ob_bind h
  refine ax_ild (pc := 62) (k := 70) (N := 36) (j := j1) (ax_dd KX10_relaxes 37 rfl) (hs 70 _ rfl) b2 ?_
  refine ax_iload (pc := 63) (q := 0) (ax_dd KX10_relaxes 38 rfl) rfl ?_
  refine ax_iadd (pc := 65) (ax_dd KX10_relaxes 39 rfl) ?_
  refine ax_istore (pc := 66) (lv' := [(5, .int ((μ 70 j1) + s0)), (4, .int s0), (0, .ref (G.1 + 51)), (1, .int x1), (2, .int x2)]) (ax_dd KX10_relaxes 40 rfl) (by decide) rfl ?_
  refine ax_aload_n (pc := 68) (i := 0) (q := 2) (ax_dd KX10_relaxes 41 rfl) rfl rfl ?_
  refine ax_getR (pc := 69) (k := 51) (q := 70) (ax_dd KX10_relaxes 42 rfl) f_X10_68 (hs 51 _ rfl) rfl ?_
  refine ax_iload_n (pc := 72) (i := 2) (q := 4) (ax_dd KX10_relaxes 43 rfl) rfl rfl ?_
  obtain ⟨j3, b4, h⟩ := ob_bind h
  refine ax_ild (pc := 73) (k := 70) (N := 36) (j := j3) (ax_dd KX10_relaxes 44 rfl) (hs 70 _ rfl) b4 ?_
  refine ax_iconst (pc := 74) (v := (-1)) (ax_dd KX10_relaxes 45 rfl) (by decide) ?_
  by_cases c5 : (μ 70 j3) = (-1)
  · rw [if_pos c5] at h
    refine ax_icmp_eq_t (pc := 75) (tgt := 91) (ax_dd KX10_relaxes 46 rfl) (by decide) c5 ?_
    refine ax_sub (lv' := [(0, .ref (G.1 + 51)), (2, .int x2), (5, .int ((μ 70 j1) + s0))]) [2, 4, 0] rfl ?_
    exact a_X10_relaxes_91 hs h
  · rw [if_neg c5] at h
    refine ax_icmp_eq_f (pc := 75) (tgt := 91) (ax_dd KX10_relaxes 46 rfl) (by decide) c5 ?_
    refine ax_aload_n (pc := 78) (i := 0) (q := 2) (ax_dd KX10_relaxes 47 rfl) rfl rfl ?_
    refine ax_getR (pc := 79) (k := 51) (q := 70) (ax_dd KX10_relaxes 48 rfl) f_X10_68 (hs 51 _ rfl) rfl ?_
    refine ax_iload_n (pc := 82) (i := 2) (q := 4) (ax_dd KX10_relaxes 49 rfl) rfl rfl ?_
    obtain ⟨j6, b7, h⟩ := ob_bind h
    refine ax_ild (pc := 83) (k := 70) (N := 36) (j := j6) (ax_dd KX10_relaxes 50 rfl) (hs 70 _ rfl) b7 ?_
    refine ax_iload (pc := 84) (q := 0) (ax_dd KX10_relaxes 51 rfl) rfl ?_
    by_cases c8 : ((μ 70 j1) + s0) < (μ 70 j6)
    · rw [if_pos c8] at h
      refine ax_icmp_gt_t (pc := 86) (tgt := 91) (ax_dd KX10_relaxes 52 rfl) (by decide) c8 ?_
      refine ax_sub (lv' := [(0, .ref (G.1 + 51)), (2, .int x2), (5, .int ((μ 70 j1) + s0))]) [2, 4, 0] rfl ?_
      exact a_X10_relaxes_91 hs h
    · rw [if_neg c8] at h
      refine ax_icmp_gt_f (pc := 86) (tgt := 91) (ax_dd KX10_relaxes 52 rfl) (by decide) c8 ?_
      refine ax_iconst (pc := 89) (v := 0) (ax_dd KX10_relaxes 53 rfl) (by decide) ?_
      obtain rfl := Option.some.inj h
      exact ax_ireti (pc := 90) (ax_dd KX10_relaxes 54 rfl) ⟨_, rfl, rfl⟩ rfl
def m_X10_relaxes (x1 : Int32) (x2 : Int32) (x3 : Int32) (μ : ax_M) : Option (Int32 × ax_M) :=
  (ix 36 x1).bind fun j1 =>
  if (μ 70 j1) = (-1) then
    some (0, μ)
  else
    (ix 36 x2).bind fun j4 =>
    if (μ 69 j4) = (-1) then
      some (0, μ)
    else
      if x3 = 0 then
        (ix 36 x2).bind fun j8 =>
        m_X10_relaxes_55 x1 x2 (μ 69 j8) μ
      else
        (ix 36 x1).bind fun j10 =>
        (ix 36 x2).bind fun j12 =>
        if (μ 68 j10) = (μ 68 j12) then
          m_X10_relaxes_55 x1 x2 0 μ
        else
          m_X10_relaxes_55 x1 x2 1 μ
set_option maxRecDepth 100000 in
set_option maxHeartbeats 8000000 in
theorem c_X10_relaxes {G : ax_G} {l : Launch} {sh : List ax_E} {x1 : Int32} {x2 : Int32} {x3 : Int32} {μ : ax_M} (hs : ∀ (k : Nat) (e : ax_E), SHF[k]? = some e → sh[k]? = some e) {v : Int32 × ax_M} (h : m_X10_relaxes x1 x2 x3 μ = some v) : ax_A G l yX10_relaxes cX10_relaxes 6 (some .boolean) 2 [.ref (G.1 + 51), .int x1, .int x2, .int x3] sh μ (some (.int v.1), sh, v.2) := by
  refine ax_A.of false (by decide +kernel) (fun h9 => by cases h9) (Nat.le_of_ble_eq_true rfl) (?_ : ax_X G l RX10 cX10_relaxes 6 (some .boolean) false 2 (some (.int v.1), sh, v.2) 0 [(0, .ref (G.1 + 51)), (1, .int x1), (2, .int x2), (3, .int x3)] [] sh μ)
  unfold m_X10_relaxes at h
  refine ax_aload_n (pc := 0) (i := 0) (q := 0) (ax_dd KX10_relaxes 0 rfl) rfl rfl ?_
  refine ax_getR (pc := 1) (k := 51) (q := 70) (ax_dd KX10_relaxes 1 rfl) f_X10_68 (hs 51 _ rfl) rfl ?_
  refine ax_iload_n (pc := 4) (i := 1) (q := 1) (ax_dd KX10_relaxes 2 rfl) rfl rfl ?_
  obtain ⟨j1, b2, h⟩ := ob_bind h
  refine ax_ild (pc := 5) (k := 70) (N := 36) (j := j1) (ax_dd KX10_relaxes 3 rfl) (hs 70 _ rfl) b2 ?_
  refine ax_iconst (pc := 6) (v := (-1)) (ax_dd KX10_relaxes 4 rfl) (by decide) ?_
  by_cases c3 : (μ 70 j1) = (-1)
  · rw [if_pos c3] at h
    refine ax_icmp_eq_t (pc := 7) (tgt := 20) (ax_dd KX10_relaxes 5 rfl) (by decide) c3 ?_
    refine ax_iconst (pc := 20) (v := 0) (ax_dd KX10_relaxes 12 rfl) (by decide) ?_
    obtain rfl := Option.some.inj h
    exact ax_ireti (pc := 21) (ax_dd KX10_relaxes 13 rfl) ⟨_, rfl, rfl⟩ rfl
  · rw [if_neg c3] at h
    refine ax_icmp_eq_f (pc := 7) (tgt := 20) (ax_dd KX10_relaxes 5 rfl) (by decide) c3 ?_
    refine ax_aload_n (pc := 10) (i := 0) (q := 0) (ax_dd KX10_relaxes 6 rfl) rfl rfl ?_
    refine ax_getR (pc := 11) (k := 51) (q := 69) (ax_dd KX10_relaxes 7 rfl) f_X10_65 (hs 51 _ rfl) rfl ?_
    refine ax_iload_n (pc := 14) (i := 2) (q := 2) (ax_dd KX10_relaxes 8 rfl) rfl rfl ?_
    obtain ⟨j4, b5, h⟩ := ob_bind h
    refine ax_ild (pc := 15) (k := 69) (N := 36) (j := j4) (ax_dd KX10_relaxes 9 rfl) (hs 69 _ rfl) b5 ?_
    refine ax_iconst (pc := 16) (v := (-1)) (ax_dd KX10_relaxes 10 rfl) (by decide) ?_
    by_cases c6 : (μ 69 j4) = (-1)
    · rw [if_pos c6] at h
      refine ax_icmp_ne_f (pc := 17) (tgt := 22) (ax_dd KX10_relaxes 11 rfl) (by decide) (fun z => z c6) ?_
      refine ax_iconst (pc := 20) (v := 0) (ax_dd KX10_relaxes 12 rfl) (by decide) ?_
      obtain rfl := Option.some.inj h
      exact ax_ireti (pc := 21) (ax_dd KX10_relaxes 13 rfl) ⟨_, rfl, rfl⟩ rfl
    · rw [if_neg c6] at h
      refine ax_icmp_ne_t (pc := 17) (tgt := 22) (ax_dd KX10_relaxes 11 rfl) (by decide) c6 ?_
      refine ax_iload_n (pc := 22) (i := 3) (q := 3) (ax_dd KX10_relaxes 14 rfl) rfl rfl ?_
      by_cases c7 : x3 = 0
      · rw [if_pos c7] at h
        refine ax_if_eq_t (pc := 23) (tgt := 49) (ax_dd KX10_relaxes 15 rfl) (by decide) c7 ?_
        refine ax_aload_n (pc := 49) (i := 0) (q := 0) (ax_dd KX10_relaxes 29 rfl) rfl rfl ?_
        refine ax_getR (pc := 50) (k := 51) (q := 69) (ax_dd KX10_relaxes 30 rfl) f_X10_65 (hs 51 _ rfl) rfl ?_
        refine ax_iload_n (pc := 53) (i := 2) (q := 2) (ax_dd KX10_relaxes 31 rfl) rfl rfl ?_
        obtain ⟨j8, b9, h⟩ := ob_bind h
        refine ax_ild (pc := 54) (k := 69) (N := 36) (j := j8) (ax_dd KX10_relaxes 32 rfl) (hs 69 _ rfl) b9 ?_
        refine ax_sub (lv' := [(0, .ref (G.1 + 51)), (1, .int x1), (2, .int x2)]) [0, 1, 2] rfl ?_
        exact a_X10_relaxes_55 hs h
      · rw [if_neg c7] at h
        refine ax_if_eq_f (pc := 23) (tgt := 49) (ax_dd KX10_relaxes 15 rfl) (by decide) c7 ?_
        refine ax_aload_n (pc := 26) (i := 0) (q := 0) (ax_dd KX10_relaxes 16 rfl) rfl rfl ?_
        refine ax_getR (pc := 27) (k := 51) (q := 68) (ax_dd KX10_relaxes 17 rfl) f_X10_62 (hs 51 _ rfl) rfl ?_
        refine ax_iload_n (pc := 30) (i := 1) (q := 1) (ax_dd KX10_relaxes 18 rfl) rfl rfl ?_
        obtain ⟨j10, b11, h⟩ := ob_bind h
        refine ax_ild (pc := 31) (k := 68) (N := 36) (j := j10) (ax_dd KX10_relaxes 19 rfl) (hs 68 _ rfl) b11 ?_
        refine ax_aload_n (pc := 32) (i := 0) (q := 0) (ax_dd KX10_relaxes 20 rfl) rfl rfl ?_
        refine ax_getR (pc := 33) (k := 51) (q := 68) (ax_dd KX10_relaxes 21 rfl) f_X10_62 (hs 51 _ rfl) rfl ?_
        refine ax_iload_n (pc := 36) (i := 2) (q := 2) (ax_dd KX10_relaxes 22 rfl) rfl rfl ?_
        obtain ⟨j12, b13, h⟩ := ob_bind h
        refine ax_ild (pc := 37) (k := 68) (N := 36) (j := j12) (ax_dd KX10_relaxes 23 rfl) (hs 68 _ rfl) b13 ?_
        by_cases c14 : (μ 68 j10) = (μ 68 j12)
        · rw [if_pos c14] at h
          refine ax_icmp_ne_f (pc := 38) (tgt := 45) (ax_dd KX10_relaxes 24 rfl) (by decide) (fun z => z c14) ?_
          refine ax_iconst (pc := 41) (v := 0) (ax_dd KX10_relaxes 25 rfl) (by decide) ?_
          refine ax_goto (pc := 42) (tgt := 55) (ax_dd KX10_relaxes 26 rfl) (by decide) ?_
          refine ax_sub (lv' := [(0, .ref (G.1 + 51)), (1, .int x1), (2, .int x2)]) [0, 1, 2] rfl ?_
          exact a_X10_relaxes_55 hs h
        · rw [if_neg c14] at h
          refine ax_icmp_ne_t (pc := 38) (tgt := 45) (ax_dd KX10_relaxes 24 rfl) (by decide) c14 ?_
          refine ax_iconst (pc := 45) (v := 1) (ax_dd KX10_relaxes 27 rfl) (by decide) ?_
          refine ax_goto (pc := 46) (tgt := 55) (ax_dd KX10_relaxes 28 rfl) (by decide) ?_
          refine ax_sub (lv' := [(0, .ref (G.1 + 51)), (1, .int x1), (2, .int x2)]) [0, 1, 2] rfl ?_
          exact a_X10_relaxes_55 hs h
def m_X10_way_232 (x1 : Int32) (x2 : Int32) (x5 : Int32) (s0 : Int32) (s2 : Int32) (s3 : Int32) (s4 : Int32) (k139 : Int32 → Int32 → ax_M → Option (Int32 × ax_M)) (μ : ax_M) : Option (Int32 × ax_M) :=
  bind2 (m_X10_relaxes s2 s3 s4 μ) fun v1 μ3 =>
  if x2 = 1 then
    bind2 (m_X10_relaxes (x5 + 6) x5 1 μ3) fun v5 μ7 =>
    k139 ((s0 ||| v1) ||| v5) (x5 + 1) μ7
  else
    bind2 (m_X10_relaxes (x5 + 6) x5 0 μ3) fun v8 μ10 =>
    k139 ((s0 ||| v1) ||| v8) (x5 + 1) μ10
set_option maxRecDepth 100000 in
set_option maxHeartbeats 8000000 in
theorem a_X10_way_232 {G : ax_G} {l : Launch} {sh : List ax_E} {x1 : Int32} {x2 : Int32} {x5 : Int32} {s0 : Int32} {s2 : Int32} {s3 : Int32} {s4 : Int32} {k139 : Int32 → Int32 → ax_M → Option (Int32 × ax_M)} {μ : ax_M} (hs : ∀ (k : Nat) (e : ax_E), SHF[k]? = some e → sh[k]? = some e) (hk139 : ∀ (x4 : Int32) (x5 : Int32) (μ : ax_M) (v : Int32 × ax_M), k139 x4 x5 μ = some v → ax_X G l RX10 cX10_way 6 (some .int) false 7 (some (.int v.1), sh, v.2) 139 [(0, .ref (G.1 + 51)), (1, .int x1), (2, .int x2), (4, .int x4), (5, .int x5)] [] sh μ) {v : Int32 × ax_M} (h : m_X10_way_232 x1 x2 x5 s0 s2 s3 s4 k139 μ = some v) : ax_X G l RX10 cX10_way 6 (some .int) false 7 (some (.int v.1), sh, v.2) 232 [(0, .ref (G.1 + 51)), (1, .int x1), (2, .int x2), (5, .int x5)] [.int s4, .int s3, .int s2, .ref (G.1 + 51), .int s0] sh μ := by
  unfold m_X10_way_232 at h
  obtain ⟨v1, μ3, b2, h⟩ := ob_bind2 h
  refine ax_kV (pc := 232) (ci := 10) (k := 51) (As := [.int s2, .int s3, .int s4]) (rest := [.int s0]) (st1 := [.int v1, .int s0]) (μ1 := μ3) (ax_dd KX10_way 133 rfl) (c_X10_relaxes hs b2) kV_X10_239 e_X10_relaxes (hs 51 _ rfl) cl_X10 (by decide) rfl rfl (by decide) (by decide) (Nat.le_of_ble_eq_true rfl) rfl ?_
  refine ax_ior (pc := 235) (ax_dd KX10_way 134 rfl) ?_
  refine ax_istore (pc := 236) (lv' := [(4, .int (s0 ||| v1)), (0, .ref (G.1 + 51)), (1, .int x1), (2, .int x2), (5, .int x5)]) (ax_dd KX10_way 135 rfl) (by decide) rfl ?_
  refine ax_iload (pc := 238) (q := 0) (ax_dd KX10_way 136 rfl) rfl ?_
  refine ax_aload_n (pc := 240) (i := 0) (q := 1) (ax_dd KX10_way 137 rfl) rfl rfl ?_
  refine ax_iload (pc := 241) (q := 4) (ax_dd KX10_way 138 rfl) rfl ?_
  refine ax_bipush (pc := 243) (v := 6) (ax_dd KX10_way 139 rfl) (by decide) ?_
  refine ax_iadd (pc := 245) (ax_dd KX10_way 140 rfl) ?_
  refine ax_iload (pc := 246) (q := 4) (ax_dd KX10_way 141 rfl) rfl ?_
  refine ax_iload_n (pc := 248) (i := 2) (q := 3) (ax_dd KX10_way 142 rfl) rfl rfl ?_
  refine ax_iconst (pc := 249) (v := 1) (ax_dd KX10_way 143 rfl) (by decide) ?_
  by_cases c4 : x2 = 1
  · rw [if_pos c4] at h
    refine ax_icmp_ne_f (pc := 250) (tgt := 257) (ax_dd KX10_way 144 rfl) (by decide) (fun z => z c4) ?_
    refine ax_iconst (pc := 253) (v := 1) (ax_dd KX10_way 145 rfl) (by decide) ?_
    refine ax_goto (pc := 254) (tgt := 258) (ax_dd KX10_way 146 rfl) (by decide) ?_
    obtain ⟨v5, μ7, b6, h⟩ := ob_bind2 h
    refine ax_kV (pc := 258) (ci := 10) (k := 51) (As := [.int (x5 + 6), .int x5, .int 1]) (rest := [.int (s0 ||| v1)]) (st1 := [.int v5, .int (s0 ||| v1)]) (μ1 := μ7) (ax_dd KX10_way 148 rfl) (c_X10_relaxes hs b6) kV_X10_239 e_X10_relaxes (hs 51 _ rfl) cl_X10 (by decide) rfl rfl (by decide) (by decide) (Nat.le_of_ble_eq_true rfl) rfl ?_
    refine ax_ior (pc := 261) (ax_dd KX10_way 149 rfl) ?_
    refine ax_istore (pc := 262) (lv' := [(4, .int ((s0 ||| v1) ||| v5)), (0, .ref (G.1 + 51)), (1, .int x1), (2, .int x2), (5, .int x5)]) (ax_dd KX10_way 150 rfl) (by decide) rfl ?_
    refine ax_iinc (pc := 264) (q := 4) (v := (x5 + 1)) (lv' := [(5, .int (x5 + 1)), (4, .int ((s0 ||| v1) ||| v5)), (0, .ref (G.1 + 51)), (1, .int x1), (2, .int x2)]) (ax_dd KX10_way 151 rfl) rfl rfl (by decide) rfl ?_
    refine ax_goto (pc := 267) (tgt := 139) (ax_dd KX10_way 152 rfl) (by decide) ?_
    refine ax_sub (lv' := [(0, .ref (G.1 + 51)), (1, .int x1), (2, .int x2), (4, .int ((s0 ||| v1) ||| v5)), (5, .int (x5 + 1))]) [2, 3, 4, 1, 0] rfl ?_
    exact hk139 _ _ _ _ h
  · rw [if_neg c4] at h
    refine ax_icmp_ne_t (pc := 250) (tgt := 257) (ax_dd KX10_way 144 rfl) (by decide) c4 ?_
    refine ax_iconst (pc := 257) (v := 0) (ax_dd KX10_way 147 rfl) (by decide) ?_
    obtain ⟨v8, μ10, b9, h⟩ := ob_bind2 h
    refine ax_kV (pc := 258) (ci := 10) (k := 51) (As := [.int (x5 + 6), .int x5, .int 0]) (rest := [.int (s0 ||| v1)]) (st1 := [.int v8, .int (s0 ||| v1)]) (μ1 := μ10) (ax_dd KX10_way 148 rfl) (c_X10_relaxes hs b9) kV_X10_239 e_X10_relaxes (hs 51 _ rfl) cl_X10 (by decide) rfl rfl (by decide) (by decide) (Nat.le_of_ble_eq_true rfl) rfl ?_
    refine ax_ior (pc := 261) (ax_dd KX10_way 149 rfl) ?_
    refine ax_istore (pc := 262) (lv' := [(4, .int ((s0 ||| v1) ||| v8)), (0, .ref (G.1 + 51)), (1, .int x1), (2, .int x2), (5, .int x5)]) (ax_dd KX10_way 150 rfl) (by decide) rfl ?_
    refine ax_iinc (pc := 264) (q := 4) (v := (x5 + 1)) (lv' := [(5, .int (x5 + 1)), (4, .int ((s0 ||| v1) ||| v8)), (0, .ref (G.1 + 51)), (1, .int x1), (2, .int x2)]) (ax_dd KX10_way 151 rfl) rfl rfl (by decide) rfl ?_
    refine ax_goto (pc := 267) (tgt := 139) (ax_dd KX10_way 152 rfl) (by decide) ?_
    refine ax_sub (lv' := [(0, .ref (G.1 + 51)), (1, .int x1), (2, .int x2), (4, .int ((s0 ||| v1) ||| v8)), (5, .int (x5 + 1))]) [2, 3, 4, 1, 0] rfl ?_
    exact hk139 _ _ _ _ h
def m_X10_way_205 (x1 : Int32) (x2 : Int32) (x4 : Int32) (x5 : Int32) (k139 : Int32 → Int32 → ax_M → Option (Int32 × ax_M)) (μ : ax_M) : Option (Int32 × ax_M) :=
  if 30 ≤ x5 then
    k139 x4 (x5 + 1) μ
  else
    if x2 = 1 then
      m_X10_way_232 x1 x2 x5 x4 x5 (x5 + 6) 1 k139 μ
    else
      m_X10_way_232 x1 x2 x5 x4 x5 (x5 + 6) 0 k139 μ
set_option maxRecDepth 100000 in
set_option maxHeartbeats 8000000 in
theorem a_X10_way_205 {G : ax_G} {l : Launch} {sh : List ax_E} {x1 : Int32} {x2 : Int32} {x4 : Int32} {x5 : Int32} {k139 : Int32 → Int32 → ax_M → Option (Int32 × ax_M)} {μ : ax_M} (hs : ∀ (k : Nat) (e : ax_E), SHF[k]? = some e → sh[k]? = some e) (hk139 : ∀ (x4 : Int32) (x5 : Int32) (μ : ax_M) (v : Int32 × ax_M), k139 x4 x5 μ = some v → ax_X G l RX10 cX10_way 6 (some .int) false 7 (some (.int v.1), sh, v.2) 139 [(0, .ref (G.1 + 51)), (1, .int x1), (2, .int x2), (4, .int x4), (5, .int x5)] [] sh μ) {v : Int32 × ax_M} (h : m_X10_way_205 x1 x2 x4 x5 k139 μ = some v) : ax_X G l RX10 cX10_way 6 (some .int) false 7 (some (.int v.1), sh, v.2) 205 [(0, .ref (G.1 + 51)), (1, .int x1), (2, .int x2), (4, .int x4), (5, .int x5)] [] sh μ := by
  unfold m_X10_way_205 at h
  refine ax_iload (pc := 205) (q := 4) (ax_dd KX10_way 118 rfl) rfl ?_
  refine ax_bipush (pc := 207) (v := 30) (ax_dd KX10_way 119 rfl) (by decide) ?_
  by_cases c1 : 30 ≤ x5
  · rw [if_pos c1] at h
    refine ax_icmp_ge_t (pc := 209) (tgt := 264) (ax_dd KX10_way 120 rfl) (by decide) c1 ?_
    refine ax_iinc (pc := 264) (q := 4) (v := (x5 + 1)) (lv' := [(5, .int (x5 + 1)), (0, .ref (G.1 + 51)), (1, .int x1), (2, .int x2), (4, .int x4)]) (ax_dd KX10_way 151 rfl) rfl rfl (by decide) rfl ?_
    refine ax_goto (pc := 267) (tgt := 139) (ax_dd KX10_way 152 rfl) (by decide) ?_
    refine ax_sub (lv' := [(0, .ref (G.1 + 51)), (1, .int x1), (2, .int x2), (4, .int x4), (5, .int (x5 + 1))]) [1, 2, 3, 4, 0] rfl ?_
    exact hk139 _ _ _ _ h
  · rw [if_neg c1] at h
    refine ax_icmp_ge_f (pc := 209) (tgt := 264) (ax_dd KX10_way 120 rfl) (by decide) c1 ?_
    refine ax_iload (pc := 212) (q := 3) (ax_dd KX10_way 121 rfl) rfl ?_
    refine ax_aload_n (pc := 214) (i := 0) (q := 0) (ax_dd KX10_way 122 rfl) rfl rfl ?_
    refine ax_iload (pc := 215) (q := 4) (ax_dd KX10_way 123 rfl) rfl ?_
    refine ax_iload (pc := 217) (q := 4) (ax_dd KX10_way 124 rfl) rfl ?_
    refine ax_bipush (pc := 219) (v := 6) (ax_dd KX10_way 125 rfl) (by decide) ?_
    refine ax_iadd (pc := 221) (ax_dd KX10_way 126 rfl) ?_
    refine ax_iload_n (pc := 222) (i := 2) (q := 2) (ax_dd KX10_way 127 rfl) rfl rfl ?_
    refine ax_iconst (pc := 223) (v := 1) (ax_dd KX10_way 128 rfl) (by decide) ?_
    by_cases c2 : x2 = 1
    · rw [if_pos c2] at h
      refine ax_icmp_ne_f (pc := 224) (tgt := 231) (ax_dd KX10_way 129 rfl) (by decide) (fun z => z c2) ?_
      refine ax_iconst (pc := 227) (v := 1) (ax_dd KX10_way 130 rfl) (by decide) ?_
      refine ax_goto (pc := 228) (tgt := 232) (ax_dd KX10_way 131 rfl) (by decide) ?_
      refine ax_sub (lv' := [(0, .ref (G.1 + 51)), (1, .int x1), (2, .int x2), (5, .int x5)]) [0, 1, 2, 4] rfl ?_
      exact a_X10_way_232 hs hk139 h
    · rw [if_neg c2] at h
      refine ax_icmp_ne_t (pc := 224) (tgt := 231) (ax_dd KX10_way 129 rfl) (by decide) c2 ?_
      refine ax_iconst (pc := 231) (v := 0) (ax_dd KX10_way 132 rfl) (by decide) ?_
      refine ax_sub (lv' := [(0, .ref (G.1 + 51)), (1, .int x1), (2, .int x2), (5, .int x5)]) [0, 1, 2, 4] rfl ?_
      exact a_X10_way_232 hs hk139 h
def m_X10_way_174 (x1 : Int32) (x2 : Int32) (x5 : Int32) (s0 : Int32) (s2 : Int32) (s3 : Int32) (s4 : Int32) (k139 : Int32 → Int32 → ax_M → Option (Int32 × ax_M)) (μ : ax_M) : Option (Int32 × ax_M) :=
  bind2 (m_X10_relaxes s2 s3 s4 μ) fun v1 μ3 =>
  if x2 = 1 then
    bind2 (m_X10_relaxes (x5 + 1) x5 1 μ3) fun v5 μ7 =>
    m_X10_way_205 x1 x2 ((s0 ||| v1) ||| v5) x5 k139 μ7
  else
    bind2 (m_X10_relaxes (x5 + 1) x5 0 μ3) fun v8 μ10 =>
    m_X10_way_205 x1 x2 ((s0 ||| v1) ||| v8) x5 k139 μ10
set_option maxRecDepth 100000 in
set_option maxHeartbeats 8000000 in
theorem a_X10_way_174 {G : ax_G} {l : Launch} {sh : List ax_E} {x1 : Int32} {x2 : Int32} {x5 : Int32} {s0 : Int32} {s2 : Int32} {s3 : Int32} {s4 : Int32} {k139 : Int32 → Int32 → ax_M → Option (Int32 × ax_M)} {μ : ax_M} (hs : ∀ (k : Nat) (e : ax_E), SHF[k]? = some e → sh[k]? = some e) (hk139 : ∀ (x4 : Int32) (x5 : Int32) (μ : ax_M) (v : Int32 × ax_M), k139 x4 x5 μ = some v → ax_X G l RX10 cX10_way 6 (some .int) false 7 (some (.int v.1), sh, v.2) 139 [(0, .ref (G.1 + 51)), (1, .int x1), (2, .int x2), (4, .int x4), (5, .int x5)] [] sh μ) {v : Int32 × ax_M} (h : m_X10_way_174 x1 x2 x5 s0 s2 s3 s4 k139 μ = some v) : ax_X G l RX10 cX10_way 6 (some .int) false 7 (some (.int v.1), sh, v.2) 174 [(0, .ref (G.1 + 51)), (1, .int x1), (2, .int x2), (5, .int x5)] [.int s4, .int s3, .int s2, .ref (G.1 + 51), .int s0] sh μ := by
  unfold m_X10_way_174 at h
  obtain ⟨v1, μ3, b2, h⟩ := ob_bind2 h
  refine ax_kV (pc := 174) (ci := 10) (k := 51) (As := [.int s2, .int s3, .int s4]) (rest := [.int s0]) (st1 := [.int v1, .int s0]) (μ1 := μ3) (ax_dd KX10_way 100 rfl) (c_X10_relaxes hs b2) kV_X10_239 e_X10_relaxes (hs 51 _ rfl) cl_X10 (by decide) rfl rfl (by decide) (by decide) (Nat.le_of_ble_eq_true rfl) rfl ?_
  refine ax_ior (pc := 177) (ax_dd KX10_way 101 rfl) ?_
  refine ax_istore (pc := 178) (lv' := [(4, .int (s0 ||| v1)), (0, .ref (G.1 + 51)), (1, .int x1), (2, .int x2), (5, .int x5)]) (ax_dd KX10_way 102 rfl) (by decide) rfl ?_
  refine ax_iload (pc := 180) (q := 0) (ax_dd KX10_way 103 rfl) rfl ?_
  refine ax_aload_n (pc := 182) (i := 0) (q := 1) (ax_dd KX10_way 104 rfl) rfl rfl ?_
  refine ax_iload (pc := 183) (q := 4) (ax_dd KX10_way 105 rfl) rfl ?_
  refine ax_iconst (pc := 185) (v := 1) (ax_dd KX10_way 106 rfl) (by decide) ?_
  refine ax_iadd (pc := 186) (ax_dd KX10_way 107 rfl) ?_
  refine ax_iload (pc := 187) (q := 4) (ax_dd KX10_way 108 rfl) rfl ?_
  refine ax_iload_n (pc := 189) (i := 2) (q := 3) (ax_dd KX10_way 109 rfl) rfl rfl ?_
  refine ax_iconst (pc := 190) (v := 1) (ax_dd KX10_way 110 rfl) (by decide) ?_
  by_cases c4 : x2 = 1
  · rw [if_pos c4] at h
    refine ax_icmp_ne_f (pc := 191) (tgt := 198) (ax_dd KX10_way 111 rfl) (by decide) (fun z => z c4) ?_
    refine ax_iconst (pc := 194) (v := 1) (ax_dd KX10_way 112 rfl) (by decide) ?_
    refine ax_goto (pc := 195) (tgt := 199) (ax_dd KX10_way 113 rfl) (by decide) ?_
    obtain ⟨v5, μ7, b6, h⟩ := ob_bind2 h
    refine ax_kV (pc := 199) (ci := 10) (k := 51) (As := [.int (x5 + 1), .int x5, .int 1]) (rest := [.int (s0 ||| v1)]) (st1 := [.int v5, .int (s0 ||| v1)]) (μ1 := μ7) (ax_dd KX10_way 115 rfl) (c_X10_relaxes hs b6) kV_X10_239 e_X10_relaxes (hs 51 _ rfl) cl_X10 (by decide) rfl rfl (by decide) (by decide) (Nat.le_of_ble_eq_true rfl) rfl ?_
    refine ax_ior (pc := 202) (ax_dd KX10_way 116 rfl) ?_
    refine ax_istore (pc := 203) (lv' := [(4, .int ((s0 ||| v1) ||| v5)), (0, .ref (G.1 + 51)), (1, .int x1), (2, .int x2), (5, .int x5)]) (ax_dd KX10_way 117 rfl) (by decide) rfl ?_
    refine ax_sub (lv' := [(0, .ref (G.1 + 51)), (1, .int x1), (2, .int x2), (4, .int ((s0 ||| v1) ||| v5)), (5, .int x5)]) [1, 2, 3, 0, 4] rfl ?_
    exact a_X10_way_205 hs hk139 h
  · rw [if_neg c4] at h
    refine ax_icmp_ne_t (pc := 191) (tgt := 198) (ax_dd KX10_way 111 rfl) (by decide) c4 ?_
    refine ax_iconst (pc := 198) (v := 0) (ax_dd KX10_way 114 rfl) (by decide) ?_
    obtain ⟨v8, μ10, b9, h⟩ := ob_bind2 h
    refine ax_kV (pc := 199) (ci := 10) (k := 51) (As := [.int (x5 + 1), .int x5, .int 0]) (rest := [.int (s0 ||| v1)]) (st1 := [.int v8, .int (s0 ||| v1)]) (μ1 := μ10) (ax_dd KX10_way 115 rfl) (c_X10_relaxes hs b9) kV_X10_239 e_X10_relaxes (hs 51 _ rfl) cl_X10 (by decide) rfl rfl (by decide) (by decide) (Nat.le_of_ble_eq_true rfl) rfl ?_
    refine ax_ior (pc := 202) (ax_dd KX10_way 116 rfl) ?_
    refine ax_istore (pc := 203) (lv' := [(4, .int ((s0 ||| v1) ||| v8)), (0, .ref (G.1 + 51)), (1, .int x1), (2, .int x2), (5, .int x5)]) (ax_dd KX10_way 117 rfl) (by decide) rfl ?_
    refine ax_sub (lv' := [(0, .ref (G.1 + 51)), (1, .int x1), (2, .int x2), (4, .int ((s0 ||| v1) ||| v8)), (5, .int x5)]) [1, 2, 3, 0, 4] rfl ?_
    exact a_X10_way_205 hs hk139 h
def m_X10_way_139 (x1 : Int32) (x2 : Int32) (k128 : Int32 → ax_M → Option (Int32 × ax_M)) : Nat → Int32 → Int32 → ax_M → Option (Int32 × ax_M)
  | 0, _, _, _ => none
  | n + 1, x4, x5, μ =>
    if 36 ≤ x5 then
      k128 x4 μ
    else
      if 5 ≤ (rmI x5 6) then
        m_X10_way_205 x1 x2 x4 x5 (m_X10_way_139 x1 x2 k128 n) μ
      else
        if x2 = 1 then
          m_X10_way_174 x1 x2 x5 x4 x5 (x5 + 1) 1 (m_X10_way_139 x1 x2 k128 n) μ
        else
          m_X10_way_174 x1 x2 x5 x4 x5 (x5 + 1) 0 (m_X10_way_139 x1 x2 k128 n) μ
set_option maxRecDepth 100000 in
set_option maxHeartbeats 8000000 in
theorem a_X10_way_139 {G : ax_G} {l : Launch} {sh : List ax_E} {x1 : Int32} {x2 : Int32} {k128 : Int32 → ax_M → Option (Int32 × ax_M)} (hs : ∀ (k : Nat) (e : ax_E), SHF[k]? = some e → sh[k]? = some e) (hk128 : ∀ (x4 : Int32) (μ : ax_M) (v : Int32 × ax_M), k128 x4 μ = some v → ax_X G l RX10 cX10_way 6 (some .int) false 7 (some (.int v.1), sh, v.2) 128 [(0, .ref (G.1 + 51)), (1, .int x1), (2, .int x2), (4, .int x4)] [] sh μ) : ∀ (n : Nat) (x4 : Int32) (x5 : Int32) (μ : ax_M) (v : Int32 × ax_M), m_X10_way_139 x1 x2 k128 n x4 x5 μ = some v → ax_X G l RX10 cX10_way 6 (some .int) false 7 (some (.int v.1), sh, v.2) 139 [(0, .ref (G.1 + 51)), (1, .int x1), (2, .int x2), (4, .int x4), (5, .int x5)] [] sh μ := by
  intro n
  induction n with
  | zero =>
    intro x4 x5 μ v h
    rw [m_X10_way_139] at h
    cases h
  | succ n ih =>
    intro x4 x5 μ v h
    rw [m_X10_way_139] at h
    refine ax_iload (pc := 139) (q := 4) (ax_dd KX10_way 80 rfl) rfl ?_
    refine ax_bipush (pc := 141) (v := 36) (ax_dd KX10_way 81 rfl) (by decide) ?_
    by_cases c1 : 36 ≤ x5
    · rw [if_pos c1] at h
      refine ax_icmp_ge_t (pc := 143) (tgt := 270) (ax_dd KX10_way 82 rfl) (by decide) c1 ?_
      refine ax_goto (pc := 270) (tgt := 128) (ax_dd KX10_way 153 rfl) (by decide) ?_
      refine ax_sub (lv' := [(0, .ref (G.1 + 51)), (1, .int x1), (2, .int x2), (4, .int x4)]) [0, 1, 2, 3] rfl ?_
      exact hk128 _ _ _ h
    · rw [if_neg c1] at h
      refine ax_icmp_ge_f (pc := 143) (tgt := 270) (ax_dd KX10_way 82 rfl) (by decide) c1 ?_
      refine ax_iload (pc := 146) (q := 4) (ax_dd KX10_way 83 rfl) rfl ?_
      refine ax_bipush (pc := 148) (v := 6) (ax_dd KX10_way 84 rfl) (by decide) ?_
      refine ax_irem (pc := 150) (ax_dd KX10_way 85 rfl) (by decide) ?_
      refine ax_iconst (pc := 151) (v := 5) (ax_dd KX10_way 86 rfl) (by decide) ?_
      by_cases c2 : 5 ≤ (rmI x5 6)
      · rw [if_pos c2] at h
        refine ax_icmp_ge_t (pc := 152) (tgt := 205) (ax_dd KX10_way 87 rfl) (by decide) c2 ?_
        exact a_X10_way_205 hs ih h
      · rw [if_neg c2] at h
        refine ax_icmp_ge_f (pc := 152) (tgt := 205) (ax_dd KX10_way 87 rfl) (by decide) c2 ?_
        refine ax_iload (pc := 155) (q := 3) (ax_dd KX10_way 88 rfl) rfl ?_
        refine ax_aload_n (pc := 157) (i := 0) (q := 0) (ax_dd KX10_way 89 rfl) rfl rfl ?_
        refine ax_iload (pc := 158) (q := 4) (ax_dd KX10_way 90 rfl) rfl ?_
        refine ax_iload (pc := 160) (q := 4) (ax_dd KX10_way 91 rfl) rfl ?_
        refine ax_iconst (pc := 162) (v := 1) (ax_dd KX10_way 92 rfl) (by decide) ?_
        refine ax_iadd (pc := 163) (ax_dd KX10_way 93 rfl) ?_
        refine ax_iload_n (pc := 164) (i := 2) (q := 2) (ax_dd KX10_way 94 rfl) rfl rfl ?_
        refine ax_iconst (pc := 165) (v := 1) (ax_dd KX10_way 95 rfl) (by decide) ?_
        by_cases c3 : x2 = 1
        · rw [if_pos c3] at h
          refine ax_icmp_ne_f (pc := 166) (tgt := 173) (ax_dd KX10_way 96 rfl) (by decide) (fun z => z c3) ?_
          refine ax_iconst (pc := 169) (v := 1) (ax_dd KX10_way 97 rfl) (by decide) ?_
          refine ax_goto (pc := 170) (tgt := 174) (ax_dd KX10_way 98 rfl) (by decide) ?_
          refine ax_sub (lv' := [(0, .ref (G.1 + 51)), (1, .int x1), (2, .int x2), (5, .int x5)]) [0, 1, 2, 4] rfl ?_
          exact a_X10_way_174 hs ih h
        · rw [if_neg c3] at h
          refine ax_icmp_ne_t (pc := 166) (tgt := 173) (ax_dd KX10_way 96 rfl) (by decide) c3 ?_
          refine ax_iconst (pc := 173) (v := 0) (ax_dd KX10_way 99 rfl) (by decide) ?_
          refine ax_sub (lv' := [(0, .ref (G.1 + 51)), (1, .int x1), (2, .int x2), (5, .int x5)]) [0, 1, 2, 4] rfl ?_
          exact a_X10_way_174 hs ih h
def m_X10_way_128 (x1 : Int32) (x2 : Int32) : Nat → Int32 → ax_M → Option (Int32 × ax_M)
  | 0, _, _ => none
  | n + 1, x4, μ =>
    if x4 = 0 then
      (ix 36 (rmI x1 100)).bind fun j2 =>
      some ((μ 70 j2), μ)
    else
      m_X10_way_139 x1 x2 (m_X10_way_128 x1 x2 n) fu 0 0 μ
set_option maxRecDepth 100000 in
set_option maxHeartbeats 8000000 in
theorem a_X10_way_128 {G : ax_G} {l : Launch} {sh : List ax_E} {x1 : Int32} {x2 : Int32} (hs : ∀ (k : Nat) (e : ax_E), SHF[k]? = some e → sh[k]? = some e) : ∀ (n : Nat) (x4 : Int32) (μ : ax_M) (v : Int32 × ax_M), m_X10_way_128 x1 x2 n x4 μ = some v → ax_X G l RX10 cX10_way 6 (some .int) false 7 (some (.int v.1), sh, v.2) 128 [(0, .ref (G.1 + 51)), (1, .int x1), (2, .int x2), (4, .int x4)] [] sh μ := by
  intro n
  induction n with
  | zero =>
    intro x4 μ v h
    rw [m_X10_way_128] at h
    cases h
  | succ n ih =>
    intro x4 μ v h
    rw [m_X10_way_128] at h
    refine ax_iload (pc := 128) (q := 3) (ax_dd KX10_way 74 rfl) rfl ?_
    by_cases c1 : x4 = 0
    · rw [if_pos c1] at h
      refine ax_if_eq_t (pc := 130) (tgt := 273) (ax_dd KX10_way 75 rfl) (by decide) c1 ?_
      refine ax_aload_n (pc := 273) (i := 0) (q := 0) (ax_dd KX10_way 154 rfl) rfl rfl ?_
      refine ax_getR (pc := 274) (k := 51) (q := 70) (ax_dd KX10_way 155 rfl) f_X10_68 (hs 51 _ rfl) rfl ?_
      refine ax_iload_n (pc := 277) (i := 1) (q := 1) (ax_dd KX10_way 156 rfl) rfl rfl ?_
      refine ax_bipush (pc := 278) (v := 100) (ax_dd KX10_way 157 rfl) (by decide) ?_
      refine ax_irem (pc := 280) (ax_dd KX10_way 158 rfl) (by decide) ?_
      obtain ⟨j2, b3, h⟩ := ob_bind h
      refine ax_ild (pc := 281) (k := 70) (N := 36) (j := j2) (ax_dd KX10_way 159 rfl) (hs 70 _ rfl) b3 ?_
      obtain rfl := Option.some.inj h
      exact ax_ireti (pc := 282) (ax_dd KX10_way 160 rfl) ⟨_, rfl, rfl⟩ rfl
    · rw [if_neg c1] at h
      refine ax_if_eq_f (pc := 130) (tgt := 273) (ax_dd KX10_way 75 rfl) (by decide) c1 ?_
      refine ax_iconst (pc := 133) (v := 0) (ax_dd KX10_way 76 rfl) (by decide) ?_
      refine ax_istore (pc := 134) (lv' := [(4, .int 0), (0, .ref (G.1 + 51)), (1, .int x1), (2, .int x2)]) (ax_dd KX10_way 77 rfl) (by decide) rfl ?_
      refine ax_iconst (pc := 136) (v := 0) (ax_dd KX10_way 78 rfl) (by decide) ?_
      refine ax_istore (pc := 137) (lv' := [(5, .int 0), (4, .int 0), (0, .ref (G.1 + 51)), (1, .int x1), (2, .int x2)]) (ax_dd KX10_way 79 rfl) (by decide) rfl ?_
      refine ax_sub (lv' := [(0, .ref (G.1 + 51)), (1, .int x1), (2, .int x2), (4, .int 0), (5, .int 0)]) [2, 3, 4, 1, 0] rfl ?_
      exact a_X10_way_139 hs ih fu _ _ _ _ h
def m_X10_way_75 (x1 : Int32) (x2 : Int32) (x3 : Int32) (s1 : Int32) (s2 : Int32) (k39 : Int32 → ax_M → Option (Int32 × ax_M)) (μ : ax_M) : Option (Int32 × ax_M) :=
  (ix 36 s1).bind fun j1 =>
  (ix 36 x3).bind fun j3 =>
  k39 (x3 + 1) (ax_w (ax_w μ 69 j1 s2) 70 j3 (-1))
set_option maxRecDepth 100000 in
set_option maxHeartbeats 8000000 in
theorem a_X10_way_75 {G : ax_G} {l : Launch} {sh : List ax_E} {x1 : Int32} {x2 : Int32} {x3 : Int32} {s1 : Int32} {s2 : Int32} {k39 : Int32 → ax_M → Option (Int32 × ax_M)} {μ : ax_M} (hs : ∀ (k : Nat) (e : ax_E), SHF[k]? = some e → sh[k]? = some e) (hk39 : ∀ (x3 : Int32) (μ : ax_M) (v : Int32 × ax_M), k39 x3 μ = some v → ax_X G l RX10 cX10_way 6 (some .int) false 7 (some (.int v.1), sh, v.2) 39 [(0, .ref (G.1 + 51)), (1, .int x1), (2, .int x2), (3, .int x3)] [] sh μ) {v : Int32 × ax_M} (h : m_X10_way_75 x1 x2 x3 s1 s2 k39 μ = some v) : ax_X G l RX10 cX10_way 6 (some .int) false 7 (some (.int v.1), sh, v.2) 75 [(0, .ref (G.1 + 51)), (1, .int x1), (2, .int x2), (3, .int x3)] [.int s2, .int s1, .ref (G.1 + 69)] sh μ := by
  unfold m_X10_way_75 at h
  obtain ⟨j1, b2, h⟩ := ob_bind h
  refine ax_ist (pc := 75) (k := 69) (N := 36) (j := j1) (ax_dd KX10_way 41 rfl) (hs 69 _ rfl) b2 ?_
  refine ax_aload_n (pc := 76) (i := 0) (q := 0) (ax_dd KX10_way 42 rfl) rfl rfl ?_
  refine ax_getR (pc := 77) (k := 51) (q := 70) (ax_dd KX10_way 43 rfl) f_X10_68 (hs 51 _ rfl) rfl ?_
  refine ax_iload_n (pc := 80) (i := 3) (q := 3) (ax_dd KX10_way 44 rfl) rfl rfl ?_
  refine ax_iconst (pc := 81) (v := (-1)) (ax_dd KX10_way 45 rfl) (by decide) ?_
  obtain ⟨j3, b4, h⟩ := ob_bind h
  refine ax_ist (pc := 82) (k := 70) (N := 36) (j := j3) (ax_dd KX10_way 46 rfl) (hs 70 _ rfl) b4 ?_
  refine ax_iinc (pc := 83) (q := 3) (v := (x3 + 1)) (lv' := [(3, .int (x3 + 1)), (0, .ref (G.1 + 51)), (1, .int x1), (2, .int x2)]) (ax_dd KX10_way 47 rfl) rfl rfl (by decide) rfl ?_
  refine ax_goto (pc := 86) (tgt := 39) (ax_dd KX10_way 48 rfl) (by decide) ?_
  refine ax_sub (lv' := [(0, .ref (G.1 + 51)), (1, .int x1), (2, .int x2), (3, .int (x3 + 1))]) [1, 2, 3, 0] rfl ?_
  exact hk39 _ _ _ h
def m_X10_way_39 (x1 : Int32) (x2 : Int32) : Nat → Int32 → ax_M → Option (Int32 × ax_M)
  | 0, _, _ => none
  | n + 1, x3, μ =>
    if 36 ≤ x3 then
      if x2 = 1 then
        (ix 36 (x1 / 100)).bind fun j3 =>
        if (μ 69 j3) = (-1) then
          (ix 36 (x1 / 100)).bind fun j6 =>
          (ix 36 (x1 / 100)).bind fun j8 =>
          m_X10_way_128 x1 x2 fu 1 (ax_w μ 70 j8 (μ 69 j6))
        else
          (ix 36 (x1 / 100)).bind fun j10 =>
          m_X10_way_128 x1 x2 fu 1 (ax_w μ 70 j10 0)
      else
        (ix 36 (x1 / 100)).bind fun j12 =>
        (ix 36 (x1 / 100)).bind fun j14 =>
        m_X10_way_128 x1 x2 fu 1 (ax_w μ 70 j14 (μ 69 j12))
    else
      bind2 (m_X10_isLetOn x3 μ) fun v16 μ18 =>
      if v16 = 0 then
        m_X10_way_75 x1 x2 x3 x3 (-1) (m_X10_way_39 x1 x2 n) μ18
      else
        if x2 = 0 then
          bind2 (m_X10_finedAt x3 μ18) fun v21 μ23 =>
          m_X10_way_75 x1 x2 x3 x3 v21 (m_X10_way_39 x1 x2 n) μ23
        else
          m_X10_way_75 x1 x2 x3 x3 1 (m_X10_way_39 x1 x2 n) μ18
set_option maxRecDepth 100000 in
set_option maxHeartbeats 8000000 in
theorem a_X10_way_39 {G : ax_G} {l : Launch} {sh : List ax_E} {x1 : Int32} {x2 : Int32} (hs : ∀ (k : Nat) (e : ax_E), SHF[k]? = some e → sh[k]? = some e) : ∀ (n : Nat) (x3 : Int32) (μ : ax_M) (v : Int32 × ax_M), m_X10_way_39 x1 x2 n x3 μ = some v → ax_X G l RX10 cX10_way 6 (some .int) false 7 (some (.int v.1), sh, v.2) 39 [(0, .ref (G.1 + 51)), (1, .int x1), (2, .int x2), (3, .int x3)] [] sh μ := by
  intro n
  induction n with
  | zero =>
    intro x3 μ v h
    rw [m_X10_way_39] at h
    cases h
  | succ n ih =>
    intro x3 μ v h
    rw [m_X10_way_39] at h
    refine ax_iload_n (pc := 39) (i := 3) (q := 3) (ax_dd KX10_way 22 rfl) rfl rfl ?_
    refine ax_bipush (pc := 40) (v := 36) (ax_dd KX10_way 23 rfl) (by decide) ?_
    by_cases c1 : 36 ≤ x3
    · rw [if_pos c1] at h
      refine ax_icmp_ge_t (pc := 42) (tgt := 89) (ax_dd KX10_way 24 rfl) (by decide) c1 ?_
      refine ax_iload_n (pc := 89) (i := 1) (q := 1) (ax_dd KX10_way 49 rfl) rfl rfl ?_
      refine ax_bipush (pc := 90) (v := 100) (ax_dd KX10_way 50 rfl) (by decide) ?_
      refine ax_idiv (pc := 92) (ax_dd KX10_way 51 rfl) (by decide) ?_
      refine ax_istore_n (pc := 93) (i := 3) (lv' := [(3, .int (x1 / 100)), (0, .ref (G.1 + 51)), (1, .int x1), (2, .int x2)]) (ax_dd KX10_way 52 rfl) rfl (by decide) rfl ?_
      refine ax_aload_n (pc := 94) (i := 0) (q := 1) (ax_dd KX10_way 53 rfl) rfl rfl ?_
      refine ax_getR (pc := 95) (k := 51) (q := 70) (ax_dd KX10_way 54 rfl) f_X10_68 (hs 51 _ rfl) rfl ?_
      refine ax_iload_n (pc := 98) (i := 3) (q := 0) (ax_dd KX10_way 55 rfl) rfl rfl ?_
      refine ax_iload_n (pc := 99) (i := 2) (q := 3) (ax_dd KX10_way 56 rfl) rfl rfl ?_
      refine ax_iconst (pc := 100) (v := 1) (ax_dd KX10_way 57 rfl) (by decide) ?_
      by_cases c2 : x2 = 1
      · rw [if_pos c2] at h
        refine ax_icmp_ne_f (pc := 101) (tgt := 118) (ax_dd KX10_way 58 rfl) (by decide) (fun z => z c2) ?_
        refine ax_aload_n (pc := 104) (i := 0) (q := 1) (ax_dd KX10_way 59 rfl) rfl rfl ?_
        refine ax_getR (pc := 105) (k := 51) (q := 69) (ax_dd KX10_way 60 rfl) f_X10_65 (hs 51 _ rfl) rfl ?_
        refine ax_iload_n (pc := 108) (i := 3) (q := 0) (ax_dd KX10_way 61 rfl) rfl rfl ?_
        obtain ⟨j3, b4, h⟩ := ob_bind h
        refine ax_ild (pc := 109) (k := 69) (N := 36) (j := j3) (ax_dd KX10_way 62 rfl) (hs 69 _ rfl) b4 ?_
        refine ax_iconst (pc := 110) (v := (-1)) (ax_dd KX10_way 63 rfl) (by decide) ?_
        by_cases c5 : (μ 69 j3) = (-1)
        · rw [if_pos c5] at h
          refine ax_icmp_eq_t (pc := 111) (tgt := 118) (ax_dd KX10_way 64 rfl) (by decide) c5 ?_
          refine ax_aload_n (pc := 118) (i := 0) (q := 1) (ax_dd KX10_way 67 rfl) rfl rfl ?_
          refine ax_getR (pc := 119) (k := 51) (q := 69) (ax_dd KX10_way 68 rfl) f_X10_65 (hs 51 _ rfl) rfl ?_
          refine ax_iload_n (pc := 122) (i := 3) (q := 0) (ax_dd KX10_way 69 rfl) rfl rfl ?_
          obtain ⟨j6, b7, h⟩ := ob_bind h
          refine ax_ild (pc := 123) (k := 69) (N := 36) (j := j6) (ax_dd KX10_way 70 rfl) (hs 69 _ rfl) b7 ?_
          obtain ⟨j8, b9, h⟩ := ob_bind h
          refine ax_ist (pc := 124) (k := 70) (N := 36) (j := j8) (ax_dd KX10_way 71 rfl) (hs 70 _ rfl) b9 ?_
          refine ax_iconst (pc := 125) (v := 1) (ax_dd KX10_way 72 rfl) (by decide) ?_
          refine ax_istore (pc := 126) (lv' := [(4, .int 1), (3, .int (x1 / 100)), (0, .ref (G.1 + 51)), (1, .int x1), (2, .int x2)]) (ax_dd KX10_way 73 rfl) (by decide) rfl ?_
          refine ax_sub (lv' := [(0, .ref (G.1 + 51)), (1, .int x1), (2, .int x2), (4, .int 1)]) [2, 3, 4, 0] rfl ?_
          exact a_X10_way_128 hs fu _ _ _ h
        · rw [if_neg c5] at h
          refine ax_icmp_eq_f (pc := 111) (tgt := 118) (ax_dd KX10_way 64 rfl) (by decide) c5 ?_
          refine ax_iconst (pc := 114) (v := 0) (ax_dd KX10_way 65 rfl) (by decide) ?_
          refine ax_goto (pc := 115) (tgt := 124) (ax_dd KX10_way 66 rfl) (by decide) ?_
          obtain ⟨j10, b11, h⟩ := ob_bind h
          refine ax_ist (pc := 124) (k := 70) (N := 36) (j := j10) (ax_dd KX10_way 71 rfl) (hs 70 _ rfl) b11 ?_
          refine ax_iconst (pc := 125) (v := 1) (ax_dd KX10_way 72 rfl) (by decide) ?_
          refine ax_istore (pc := 126) (lv' := [(4, .int 1), (3, .int (x1 / 100)), (0, .ref (G.1 + 51)), (1, .int x1), (2, .int x2)]) (ax_dd KX10_way 73 rfl) (by decide) rfl ?_
          refine ax_sub (lv' := [(0, .ref (G.1 + 51)), (1, .int x1), (2, .int x2), (4, .int 1)]) [2, 3, 4, 0] rfl ?_
          exact a_X10_way_128 hs fu _ _ _ h
      · rw [if_neg c2] at h
        refine ax_icmp_ne_t (pc := 101) (tgt := 118) (ax_dd KX10_way 58 rfl) (by decide) c2 ?_
        refine ax_aload_n (pc := 118) (i := 0) (q := 1) (ax_dd KX10_way 67 rfl) rfl rfl ?_
        refine ax_getR (pc := 119) (k := 51) (q := 69) (ax_dd KX10_way 68 rfl) f_X10_65 (hs 51 _ rfl) rfl ?_
        refine ax_iload_n (pc := 122) (i := 3) (q := 0) (ax_dd KX10_way 69 rfl) rfl rfl ?_
        obtain ⟨j12, b13, h⟩ := ob_bind h
        refine ax_ild (pc := 123) (k := 69) (N := 36) (j := j12) (ax_dd KX10_way 70 rfl) (hs 69 _ rfl) b13 ?_
        obtain ⟨j14, b15, h⟩ := ob_bind h
        refine ax_ist (pc := 124) (k := 70) (N := 36) (j := j14) (ax_dd KX10_way 71 rfl) (hs 70 _ rfl) b15 ?_
        refine ax_iconst (pc := 125) (v := 1) (ax_dd KX10_way 72 rfl) (by decide) ?_
        refine ax_istore (pc := 126) (lv' := [(4, .int 1), (3, .int (x1 / 100)), (0, .ref (G.1 + 51)), (1, .int x1), (2, .int x2)]) (ax_dd KX10_way 73 rfl) (by decide) rfl ?_
        refine ax_sub (lv' := [(0, .ref (G.1 + 51)), (1, .int x1), (2, .int x2), (4, .int 1)]) [2, 3, 4, 0] rfl ?_
        exact a_X10_way_128 hs fu _ _ _ h
    · rw [if_neg c1] at h
      refine ax_icmp_ge_f (pc := 42) (tgt := 89) (ax_dd KX10_way 24 rfl) (by decide) c1 ?_
      refine ax_aload_n (pc := 45) (i := 0) (q := 0) (ax_dd KX10_way 25 rfl) rfl rfl ?_
      refine ax_getR (pc := 46) (k := 51) (q := 69) (ax_dd KX10_way 26 rfl) f_X10_65 (hs 51 _ rfl) rfl ?_
      refine ax_iload_n (pc := 49) (i := 3) (q := 3) (ax_dd KX10_way 27 rfl) rfl rfl ?_
      refine ax_aload_n (pc := 50) (i := 0) (q := 0) (ax_dd KX10_way 28 rfl) rfl rfl ?_
      refine ax_iload_n (pc := 51) (i := 3) (q := 3) (ax_dd KX10_way 29 rfl) rfl rfl ?_
      obtain ⟨v16, μ18, b17, h⟩ := ob_bind2 h
      refine ax_kV (pc := 52) (ci := 10) (k := 51) (As := [.int x3]) (rest := [.int x3, .ref (G.1 + 69)]) (st1 := [.int v16, .int x3, .ref (G.1 + 69)]) (μ1 := μ18) (ax_dd KX10_way 30 rfl) (c_X10_isLetOn hs b17) kV_X10_210 e_X10_isLetOn (hs 51 _ rfl) cl_X10 (by decide) rfl rfl (by decide) (by decide) (Nat.le_of_ble_eq_true rfl) rfl ?_
      by_cases c19 : v16 = 0
      · rw [if_pos c19] at h
        refine ax_if_ne_f (pc := 55) (tgt := 62) (ax_dd KX10_way 31 rfl) (by decide) (fun z => z c19) ?_
        refine ax_iconst (pc := 58) (v := (-1)) (ax_dd KX10_way 32 rfl) (by decide) ?_
        refine ax_goto (pc := 59) (tgt := 75) (ax_dd KX10_way 33 rfl) (by decide) ?_
        exact a_X10_way_75 hs ih h
      · rw [if_neg c19] at h
        refine ax_if_ne_t (pc := 55) (tgt := 62) (ax_dd KX10_way 31 rfl) (by decide) c19 ?_
        refine ax_iload_n (pc := 62) (i := 2) (q := 2) (ax_dd KX10_way 34 rfl) rfl rfl ?_
        by_cases c20 : x2 = 0
        · rw [if_pos c20] at h
          refine ax_if_ne_f (pc := 63) (tgt := 74) (ax_dd KX10_way 35 rfl) (by decide) (fun z => z c20) ?_
          refine ax_aload_n (pc := 66) (i := 0) (q := 0) (ax_dd KX10_way 36 rfl) rfl rfl ?_
          refine ax_iload_n (pc := 67) (i := 3) (q := 3) (ax_dd KX10_way 37 rfl) rfl rfl ?_
          obtain ⟨v21, μ23, b22, h⟩ := ob_bind2 h
          refine ax_kV (pc := 68) (ci := 10) (k := 51) (As := [.int x3]) (rest := [.int x3, .ref (G.1 + 69)]) (st1 := [.int v21, .int x3, .ref (G.1 + 69)]) (μ1 := μ23) (ax_dd KX10_way 38 rfl) (c_X10_finedAt hs b22) kV_X10_207 e_X10_finedAt (hs 51 _ rfl) cl_X10 (by decide) rfl rfl (by decide) (by decide) (Nat.le_of_ble_eq_true rfl) rfl ?_
          refine ax_goto (pc := 71) (tgt := 75) (ax_dd KX10_way 39 rfl) (by decide) ?_
          exact a_X10_way_75 hs ih h
        · rw [if_neg c20] at h
          refine ax_if_ne_t (pc := 63) (tgt := 74) (ax_dd KX10_way 35 rfl) (by decide) c20 ?_
          refine ax_iconst (pc := 74) (v := 1) (ax_dd KX10_way 40 rfl) (by decide) ?_
          exact a_X10_way_75 hs ih h
