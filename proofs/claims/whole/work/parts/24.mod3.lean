def m_X10_two (x0 : Int32) (x1 : Int32) (x2 : Int32) (μ : ax_M) : Option (Int32) :=
  if x0 = 11 then
    if x1 = 0 then
      if x2 = 0 then
        some 0
      else
        some 1
    else
      some 1
  else
    if x0 = 12 then
      if x1 = 0 then
        some 0
      else
        if x2 = 0 then
          some 0
        else
          some 1
    else
      if x0 = 13 then
        some (x1 * x2)
      else
        if x0 = 14 then
          if x2 ≤ x1 then
            some 0
          else
            some 1
        else
          if x0 = 15 then
            if x1 = x2 then
              some 1
            else
              some 0
          else
            if x0 = 16 then
              some (x1 + x2)
            else
              if x0 = 17 then
                some (x1 - x2)
              else
                some (x1 * x2)
set_option maxRecDepth 100000 in
set_option maxHeartbeats 8000000 in
theorem c_X10_two {G : ax_G} {l : Launch} {sh : List ax_E} {x0 : Int32} {x1 : Int32} {x2 : Int32} {μ : ax_M} (hs : ∀ (k : Nat) (e : ax_E), SHF[k]? = some e → sh[k]? = some e) {v : Int32} (h : m_X10_two x0 x1 x2 μ = some v) : ax_A G l yX10_two cX10_two 3 (some .int) 2 [.int x0, .int x1, .int x2] sh μ (some (.int v), sh, μ) := by
  refine ax_A.of false (by decide +kernel) (fun h9 => by cases h9) (Nat.le_of_ble_eq_true rfl) (?_ : ax_X G l RX10 cX10_two 3 (some .int) false 2 (some (.int v), sh, μ) 0 [(0, .int x0), (1, .int x1), (2, .int x2)] [] sh μ)
  unfold m_X10_two at h
  refine ax_iload_n (pc := 0) (i := 0) (q := 0) (ax_dd KX10_two 0 rfl) rfl rfl ?_
  by_cases c1 : x0 = 11
  · rw [if_pos c1] at h
    refine ax_tab (pc := 1) (off := 43) (tgt := 44) (ax_dd KX10_two 1 rfl) (by rw [c1]; decide) (by rw [c1]; decide) (by rw [c1]; rfl) (by decide) ?_
    refine ax_iload_n (pc := 44) (i := 1) (q := 1) (ax_dd KX10_two 2 rfl) rfl rfl ?_
    by_cases c2 : x1 = 0
    · rw [if_pos c2] at h
      refine ax_if_ne_f (pc := 45) (tgt := 52) (ax_dd KX10_two 3 rfl) (by decide) (fun z => z c2) ?_
      refine ax_iload_n (pc := 48) (i := 2) (q := 2) (ax_dd KX10_two 4 rfl) rfl rfl ?_
      by_cases c3 : x2 = 0
      · rw [if_pos c3] at h
        refine ax_if_eq_t (pc := 49) (tgt := 56) (ax_dd KX10_two 5 rfl) (by decide) c3 ?_
        refine ax_iconst (pc := 56) (v := 0) (ax_dd KX10_two 8 rfl) (by decide) ?_
        obtain rfl := Option.some.inj h
        exact ax_ireti (pc := 57) (ax_dd KX10_two 9 rfl) ⟨_, rfl, rfl⟩ rfl
      · rw [if_neg c3] at h
        refine ax_if_eq_f (pc := 49) (tgt := 56) (ax_dd KX10_two 5 rfl) (by decide) c3 ?_
        refine ax_iconst (pc := 52) (v := 1) (ax_dd KX10_two 6 rfl) (by decide) ?_
        refine ax_goto (pc := 53) (tgt := 57) (ax_dd KX10_two 7 rfl) (by decide) ?_
        obtain rfl := Option.some.inj h
        exact ax_ireti (pc := 57) (ax_dd KX10_two 9 rfl) ⟨_, rfl, rfl⟩ rfl
    · rw [if_neg c2] at h
      refine ax_if_ne_t (pc := 45) (tgt := 52) (ax_dd KX10_two 3 rfl) (by decide) c2 ?_
      refine ax_iconst (pc := 52) (v := 1) (ax_dd KX10_two 6 rfl) (by decide) ?_
      refine ax_goto (pc := 53) (tgt := 57) (ax_dd KX10_two 7 rfl) (by decide) ?_
      obtain rfl := Option.some.inj h
      exact ax_ireti (pc := 57) (ax_dd KX10_two 9 rfl) ⟨_, rfl, rfl⟩ rfl
  · rw [if_neg c1] at h
    by_cases c4 : x0 = 12
    · rw [if_pos c4] at h
      refine ax_tab (pc := 1) (off := 57) (tgt := 58) (ax_dd KX10_two 1 rfl) (by rw [c4]; decide) (by rw [c4]; decide) (by rw [c4]; rfl) (by decide) ?_
      refine ax_iload_n (pc := 58) (i := 1) (q := 1) (ax_dd KX10_two 10 rfl) rfl rfl ?_
      by_cases c5 : x1 = 0
      · rw [if_pos c5] at h
        refine ax_if_eq_t (pc := 59) (tgt := 70) (ax_dd KX10_two 11 rfl) (by decide) c5 ?_
        refine ax_iconst (pc := 70) (v := 0) (ax_dd KX10_two 16 rfl) (by decide) ?_
        obtain rfl := Option.some.inj h
        exact ax_ireti (pc := 71) (ax_dd KX10_two 17 rfl) ⟨_, rfl, rfl⟩ rfl
      · rw [if_neg c5] at h
        refine ax_if_eq_f (pc := 59) (tgt := 70) (ax_dd KX10_two 11 rfl) (by decide) c5 ?_
        refine ax_iload_n (pc := 62) (i := 2) (q := 2) (ax_dd KX10_two 12 rfl) rfl rfl ?_
        by_cases c6 : x2 = 0
        · rw [if_pos c6] at h
          refine ax_if_eq_t (pc := 63) (tgt := 70) (ax_dd KX10_two 13 rfl) (by decide) c6 ?_
          refine ax_iconst (pc := 70) (v := 0) (ax_dd KX10_two 16 rfl) (by decide) ?_
          obtain rfl := Option.some.inj h
          exact ax_ireti (pc := 71) (ax_dd KX10_two 17 rfl) ⟨_, rfl, rfl⟩ rfl
        · rw [if_neg c6] at h
          refine ax_if_eq_f (pc := 63) (tgt := 70) (ax_dd KX10_two 13 rfl) (by decide) c6 ?_
          refine ax_iconst (pc := 66) (v := 1) (ax_dd KX10_two 14 rfl) (by decide) ?_
          refine ax_goto (pc := 67) (tgt := 71) (ax_dd KX10_two 15 rfl) (by decide) ?_
          obtain rfl := Option.some.inj h
          exact ax_ireti (pc := 71) (ax_dd KX10_two 17 rfl) ⟨_, rfl, rfl⟩ rfl
    · rw [if_neg c4] at h
      by_cases c7 : x0 = 13
      · rw [if_pos c7] at h
        refine ax_tab (pc := 1) (off := 101) (tgt := 102) (ax_dd KX10_two 1 rfl) (by rw [c7]; decide) (by rw [c7]; decide) (by rw [c7]; rfl) (by decide) ?_
        refine ax_iload_n (pc := 102) (i := 1) (q := 1) (ax_dd KX10_two 40 rfl) rfl rfl ?_
        refine ax_iload_n (pc := 103) (i := 2) (q := 2) (ax_dd KX10_two 41 rfl) rfl rfl ?_
        refine ax_imul (pc := 104) (ax_dd KX10_two 42 rfl) ?_
        obtain rfl := Option.some.inj h
        exact ax_ireti (pc := 105) (ax_dd KX10_two 43 rfl) ⟨_, rfl, rfl⟩ rfl
      · rw [if_neg c7] at h
        by_cases c8 : x0 = 14
        · rw [if_pos c8] at h
          refine ax_tab (pc := 1) (off := 71) (tgt := 72) (ax_dd KX10_two 1 rfl) (by rw [c8]; decide) (by rw [c8]; decide) (by rw [c8]; rfl) (by decide) ?_
          refine ax_iload_n (pc := 72) (i := 1) (q := 1) (ax_dd KX10_two 18 rfl) rfl rfl ?_
          refine ax_iload_n (pc := 73) (i := 2) (q := 2) (ax_dd KX10_two 19 rfl) rfl rfl ?_
          by_cases c9 : x2 ≤ x1
          · rw [if_pos c9] at h
            refine ax_icmp_ge_t (pc := 74) (tgt := 81) (ax_dd KX10_two 20 rfl) (by decide) c9 ?_
            refine ax_iconst (pc := 81) (v := 0) (ax_dd KX10_two 23 rfl) (by decide) ?_
            obtain rfl := Option.some.inj h
            exact ax_ireti (pc := 82) (ax_dd KX10_two 24 rfl) ⟨_, rfl, rfl⟩ rfl
          · rw [if_neg c9] at h
            refine ax_icmp_ge_f (pc := 74) (tgt := 81) (ax_dd KX10_two 20 rfl) (by decide) c9 ?_
            refine ax_iconst (pc := 77) (v := 1) (ax_dd KX10_two 21 rfl) (by decide) ?_
            refine ax_goto (pc := 78) (tgt := 82) (ax_dd KX10_two 22 rfl) (by decide) ?_
            obtain rfl := Option.some.inj h
            exact ax_ireti (pc := 82) (ax_dd KX10_two 24 rfl) ⟨_, rfl, rfl⟩ rfl
        · rw [if_neg c8] at h
          by_cases c10 : x0 = 15
          · rw [if_pos c10] at h
            refine ax_tab (pc := 1) (off := 82) (tgt := 83) (ax_dd KX10_two 1 rfl) (by rw [c10]; decide) (by rw [c10]; decide) (by rw [c10]; rfl) (by decide) ?_
            refine ax_iload_n (pc := 83) (i := 1) (q := 1) (ax_dd KX10_two 25 rfl) rfl rfl ?_
            refine ax_iload_n (pc := 84) (i := 2) (q := 2) (ax_dd KX10_two 26 rfl) rfl rfl ?_
            by_cases c11 : x1 = x2
            · rw [if_pos c11] at h
              refine ax_icmp_ne_f (pc := 85) (tgt := 92) (ax_dd KX10_two 27 rfl) (by decide) (fun z => z c11) ?_
              refine ax_iconst (pc := 88) (v := 1) (ax_dd KX10_two 28 rfl) (by decide) ?_
              refine ax_goto (pc := 89) (tgt := 93) (ax_dd KX10_two 29 rfl) (by decide) ?_
              obtain rfl := Option.some.inj h
              exact ax_ireti (pc := 93) (ax_dd KX10_two 31 rfl) ⟨_, rfl, rfl⟩ rfl
            · rw [if_neg c11] at h
              refine ax_icmp_ne_t (pc := 85) (tgt := 92) (ax_dd KX10_two 27 rfl) (by decide) c11 ?_
              refine ax_iconst (pc := 92) (v := 0) (ax_dd KX10_two 30 rfl) (by decide) ?_
              obtain rfl := Option.some.inj h
              exact ax_ireti (pc := 93) (ax_dd KX10_two 31 rfl) ⟨_, rfl, rfl⟩ rfl
          · rw [if_neg c10] at h
            by_cases c12 : x0 = 16
            · rw [if_pos c12] at h
              refine ax_tab (pc := 1) (off := 93) (tgt := 94) (ax_dd KX10_two 1 rfl) (by rw [c12]; decide) (by rw [c12]; decide) (by rw [c12]; rfl) (by decide) ?_
              refine ax_iload_n (pc := 94) (i := 1) (q := 1) (ax_dd KX10_two 32 rfl) rfl rfl ?_
              refine ax_iload_n (pc := 95) (i := 2) (q := 2) (ax_dd KX10_two 33 rfl) rfl rfl ?_
              refine ax_iadd (pc := 96) (ax_dd KX10_two 34 rfl) ?_
              obtain rfl := Option.some.inj h
              exact ax_ireti (pc := 97) (ax_dd KX10_two 35 rfl) ⟨_, rfl, rfl⟩ rfl
            · rw [if_neg c12] at h
              by_cases c13 : x0 = 17
              · rw [if_pos c13] at h
                refine ax_tab (pc := 1) (off := 97) (tgt := 98) (ax_dd KX10_two 1 rfl) (by rw [c13]; decide) (by rw [c13]; decide) (by rw [c13]; rfl) (by decide) ?_
                refine ax_iload_n (pc := 98) (i := 1) (q := 1) (ax_dd KX10_two 36 rfl) rfl rfl ?_
                refine ax_iload_n (pc := 99) (i := 2) (q := 2) (ax_dd KX10_two 37 rfl) rfl rfl ?_
                refine ax_isub (pc := 100) (ax_dd KX10_two 38 rfl) ?_
                obtain rfl := Option.some.inj h
                exact ax_ireti (pc := 101) (ax_dd KX10_two 39 rfl) ⟨_, rfl, rfl⟩ rfl
              · rw [if_neg c13] at h
                refine ax_tabD (pc := 1) (tgt := 102) (ax_dd KX10_two 1 rfl) (by have e0 := ax_ne c1 (a := 11) rfl; have e1 := ax_ne c4 (a := 12) rfl; have e2 := ax_ne c7 (a := 13) rfl; have e3 := ax_ne c8 (a := 14) rfl; have e4 := ax_ne c10 (a := 15) rfl; have e5 := ax_ne c12 (a := 16) rfl; have e6 := ax_ne c13 (a := 17) rfl; omega) (by decide) ?_
                refine ax_iload_n (pc := 102) (i := 1) (q := 1) (ax_dd KX10_two 40 rfl) rfl rfl ?_
                refine ax_iload_n (pc := 103) (i := 2) (q := 2) (ax_dd KX10_two 41 rfl) rfl rfl ?_
                refine ax_imul (pc := 104) (ax_dd KX10_two 42 rfl) ?_
                obtain rfl := Option.some.inj h
                exact ax_ireti (pc := 105) (ax_dd KX10_two 43 rfl) ⟨_, rfl, rfl⟩ rfl
def m_X10_says_66 (x1 : Int32) (x2 : Int32) (x3 : Int32) (x4 : Int32) (k16 : Int32 → Int32 → ax_M → Option (Int32 × ax_M)) (μ : ax_M) : Option (Int32 × ax_M) :=
  if 11 ≤ x4 then
    (ix 200 x2).bind fun j2 =>
    k16 (x2 + 1) (x3 + 1) (ax_w μ 66 j2 (x4 - 100000))
  else
    (ix 6 x4).bind fun j4 =>
    (ix 200 x2).bind fun j6 =>
    k16 (x2 + 1) (x3 + 1) (ax_w μ 66 j6 (μ 67 j4))
set_option maxRecDepth 100000 in
set_option maxHeartbeats 8000000 in
theorem a_X10_says_66 {G : ax_G} {l : Launch} {sh : List ax_E} {x1 : Int32} {x2 : Int32} {x3 : Int32} {x4 : Int32} {k16 : Int32 → Int32 → ax_M → Option (Int32 × ax_M)} {μ : ax_M} (hs : ∀ (k : Nat) (e : ax_E), SHF[k]? = some e → sh[k]? = some e) (hk16 : ∀ (x2 : Int32) (x3 : Int32) (μ : ax_M) (v : Int32 × ax_M), k16 x2 x3 μ = some v → ax_X G l RX10 cX10_says 5 (some .int) false 3 (some (.int v.1), sh, v.2) 16 [(0, .ref (G.1 + 51)), (1, .int x1), (2, .int x2), (3, .int x3)] [] sh μ) {v : Int32 × ax_M} (h : m_X10_says_66 x1 x2 x3 x4 k16 μ = some v) : ax_X G l RX10 cX10_says 5 (some .int) false 3 (some (.int v.1), sh, v.2) 66 [(0, .ref (G.1 + 51)), (1, .int x1), (2, .int x2), (3, .int x3), (4, .int x4)] [] sh μ := by
  unfold m_X10_says_66 at h
  refine ax_aload_n (pc := 66) (i := 0) (q := 0) (ax_dd KX10_says 41 rfl) rfl rfl ?_
  refine ax_getR (pc := 67) (k := 51) (q := 66) (ax_dd KX10_says 42 rfl) f_X10_56 (hs 51 _ rfl) rfl ?_
  refine ax_iload_n (pc := 70) (i := 2) (q := 2) (ax_dd KX10_says 43 rfl) rfl rfl ?_
  refine ax_iload (pc := 71) (q := 4) (ax_dd KX10_says 44 rfl) rfl ?_
  refine ax_bipush (pc := 73) (v := 11) (ax_dd KX10_says 45 rfl) (by decide) ?_
  by_cases c1 : 11 ≤ x4
  · rw [if_pos c1] at h
    refine ax_icmp_ge_t (pc := 75) (tgt := 88) (ax_dd KX10_says 46 rfl) (by decide) c1 ?_
    refine ax_iload (pc := 88) (q := 4) (ax_dd KX10_says 52 rfl) rfl ?_
    refine ax_ldc (pc := 90) (ax_dd KX10_says 53 rfl) c_X10_140 ?_
    refine ax_isub (pc := 92) (ax_dd KX10_says 54 rfl) ?_
    obtain ⟨j2, b3, h⟩ := ob_bind h
    refine ax_ist (pc := 93) (k := 66) (N := 200) (j := j2) (ax_dd KX10_says 55 rfl) (hs 66 _ rfl) b3 ?_
    refine ax_iinc (pc := 94) (q := 2) (v := (x2 + 1)) (lv' := [(2, .int (x2 + 1)), (0, .ref (G.1 + 51)), (1, .int x1), (3, .int x3), (4, .int x4)]) (ax_dd KX10_says 56 rfl) rfl rfl (by decide) rfl ?_
    refine ax_goto (pc := 97) (tgt := 191) (ax_dd KX10_says 57 rfl) (by decide) ?_
    refine ax_iinc (pc := 191) (q := 3) (v := (x3 + 1)) (lv' := [(3, .int (x3 + 1)), (2, .int (x2 + 1)), (0, .ref (G.1 + 51)), (1, .int x1), (4, .int x4)]) (ax_dd KX10_says 114 rfl) rfl rfl (by decide) rfl ?_
    refine ax_goto (pc := 194) (tgt := 16) (ax_dd KX10_says 115 rfl) (by decide) ?_
    refine ax_sub (lv' := [(0, .ref (G.1 + 51)), (1, .int x1), (2, .int (x2 + 1)), (3, .int (x3 + 1))]) [2, 3, 1, 0] rfl ?_
    exact hk16 _ _ _ _ h
  · rw [if_neg c1] at h
    refine ax_icmp_ge_f (pc := 75) (tgt := 88) (ax_dd KX10_says 46 rfl) (by decide) c1 ?_
    refine ax_aload_n (pc := 78) (i := 0) (q := 0) (ax_dd KX10_says 47 rfl) rfl rfl ?_
    refine ax_getR (pc := 79) (k := 51) (q := 67) (ax_dd KX10_says 48 rfl) f_X10_59 (hs 51 _ rfl) rfl ?_
    refine ax_iload (pc := 82) (q := 4) (ax_dd KX10_says 49 rfl) rfl ?_
    obtain ⟨j4, b5, h⟩ := ob_bind h
    refine ax_ild (pc := 84) (k := 67) (N := 6) (j := j4) (ax_dd KX10_says 50 rfl) (hs 67 _ rfl) b5 ?_
    refine ax_goto (pc := 85) (tgt := 93) (ax_dd KX10_says 51 rfl) (by decide) ?_
    obtain ⟨j6, b7, h⟩ := ob_bind h
    refine ax_ist (pc := 93) (k := 66) (N := 200) (j := j6) (ax_dd KX10_says 55 rfl) (hs 66 _ rfl) b7 ?_
    refine ax_iinc (pc := 94) (q := 2) (v := (x2 + 1)) (lv' := [(2, .int (x2 + 1)), (0, .ref (G.1 + 51)), (1, .int x1), (3, .int x3), (4, .int x4)]) (ax_dd KX10_says 56 rfl) rfl rfl (by decide) rfl ?_
    refine ax_goto (pc := 97) (tgt := 191) (ax_dd KX10_says 57 rfl) (by decide) ?_
    refine ax_iinc (pc := 191) (q := 3) (v := (x3 + 1)) (lv' := [(3, .int (x3 + 1)), (2, .int (x2 + 1)), (0, .ref (G.1 + 51)), (1, .int x1), (4, .int x4)]) (ax_dd KX10_says 114 rfl) rfl rfl (by decide) rfl ?_
    refine ax_goto (pc := 194) (tgt := 16) (ax_dd KX10_says 115 rfl) (by decide) ?_
    refine ax_sub (lv' := [(0, .ref (G.1 + 51)), (1, .int x1), (2, .int (x2 + 1)), (3, .int (x3 + 1))]) [2, 3, 1, 0] rfl ?_
    exact hk16 _ _ _ _ h
def m_X10_says_16 (x1 : Int32) : Nat → Int32 → Int32 → ax_M → Option (Int32 × ax_M)
  | 0, _, _, _ => none
  | n + 1, x2, x3, μ =>
    (ix 24 ((((4 : Int32) * (μ 51 10)) + x1) + 1)).bind fun j1 =>
    if (μ 57 j1) ≤ x3 then
      some ((μ 66 0), μ)
    else
      (ix 1200 (((200 : Int32) * (μ 51 10)) + x3)).bind fun j6 =>
      if 100000 ≤ (μ 56 j6) then
        m_X10_says_66 x1 x2 x3 (μ 56 j6) (m_X10_says_16 x1 n) μ
      else
        if 11 ≤ (μ 56 j6) then
          if (μ 56 j6) = 13 then
            (ix 200 (x2 - 1)).bind fun j11 =>
            if (μ 66 j11) = 0 then
              (ix 200 (x2 - 1)).bind fun j14 =>
              m_X10_says_16 x1 n x2 (x3 + 1) (ax_w μ 66 j14 1)
            else
              (ix 200 (x2 - 1)).bind fun j16 =>
              m_X10_says_16 x1 n x2 (x3 + 1) (ax_w μ 66 j16 0)
          else
            if (μ 56 j6) = 19 then
              (ix 200 (x2 - 1)).bind fun j19 =>
              (ix 200 (x2 - 1)).bind fun j21 =>
              m_X10_says_16 x1 n x2 (x3 + 1) (ax_w μ 66 j21 (-(μ 66 j19)))
            else
              (ix 200 ((x2 + (-1)) - 1)).bind fun j23 =>
              (ix 200 (x2 + (-1))).bind fun j25 =>
              (m_X10_two (μ 56 j6) (μ 66 j23) (μ 66 j25) μ).bind fun v27 =>
              (ix 200 ((x2 + (-1)) - 1)).bind fun j29 =>
              m_X10_says_16 x1 n (x2 + (-1)) (x3 + 1) (ax_w μ 66 j29 v27)
        else
          m_X10_says_66 x1 x2 x3 (μ 56 j6) (m_X10_says_16 x1 n) μ
set_option maxRecDepth 100000 in
set_option maxHeartbeats 8000000 in
theorem a_X10_says_16 {G : ax_G} {l : Launch} {sh : List ax_E} {x1 : Int32} (hs : ∀ (k : Nat) (e : ax_E), SHF[k]? = some e → sh[k]? = some e) : ∀ (n : Nat) (x2 : Int32) (x3 : Int32) (μ : ax_M) (v : Int32 × ax_M), m_X10_says_16 x1 n x2 x3 μ = some v → ax_X G l RX10 cX10_says 5 (some .int) false 3 (some (.int v.1), sh, v.2) 16 [(0, .ref (G.1 + 51)), (1, .int x1), (2, .int x2), (3, .int x3)] [] sh μ := by
  intro n
  induction n with
  | zero =>
    intro x2 x3 μ v h
    rw [m_X10_says_16] at h
    cases h
  | succ n ih =>
    intro x2 x3 μ v h
    rw [m_X10_says_16] at h
    refine ax_iload_n (pc := 16) (i := 3) (q := 3) (ax_dd KX10_says 12 rfl) rfl rfl ?_
    refine ax_aload_n (pc := 17) (i := 0) (q := 0) (ax_dd KX10_says 13 rfl) rfl rfl ?_
    refine ax_getR (pc := 18) (k := 51) (q := 57) (ax_dd KX10_says 14 rfl) f_X10_29 (hs 51 _ rfl) rfl ?_
    refine ax_iconst (pc := 21) (v := 4) (ax_dd KX10_says 15 rfl) (by decide) ?_
    refine ax_aload_n (pc := 22) (i := 0) (q := 0) (ax_dd KX10_says 16 rfl) rfl rfl ?_
    refine ax_getI (pc := 23) (k := 51) (ax_dd KX10_says 17 rfl) f_X10_92 (hs 51 _ rfl) rfl ?_
    refine ax_imul (pc := 26) (ax_dd KX10_says 18 rfl) ?_
    refine ax_iload_n (pc := 27) (i := 1) (q := 1) (ax_dd KX10_says 19 rfl) rfl rfl ?_
    refine ax_iadd (pc := 28) (ax_dd KX10_says 20 rfl) ?_
    refine ax_iconst (pc := 29) (v := 1) (ax_dd KX10_says 21 rfl) (by decide) ?_
    refine ax_iadd (pc := 30) (ax_dd KX10_says 22 rfl) ?_
    obtain ⟨j1, b2, h⟩ := ob_bind h
    refine ax_ild (pc := 31) (k := 57) (N := 24) (j := j1) (ax_dd KX10_says 23 rfl) (hs 57 _ rfl) b2 ?_
    by_cases c3 : (μ 57 j1) ≤ x3
    · rw [if_pos c3] at h
      refine ax_icmp_ge_t (pc := 32) (tgt := 197) (ax_dd KX10_says 24 rfl) (by decide) c3 ?_
      refine ax_aload_n (pc := 197) (i := 0) (q := 0) (ax_dd KX10_says 116 rfl) rfl rfl ?_
      refine ax_getR (pc := 198) (k := 51) (q := 66) (ax_dd KX10_says 117 rfl) f_X10_56 (hs 51 _ rfl) rfl ?_
      refine ax_iconst (pc := 201) (v := 0) (ax_dd KX10_says 118 rfl) (by decide) ?_
      refine ax_iald (pc := 202) (k := 66) (n := 200) (ax_dd KX10_says 119 rfl) (hs 66 _ rfl) (ax_inC (by decide)) ?_
      show ax_X G l RX10 cX10_says 5 (some .int) false 3 _ 203 [(0, .ref (G.1 + 51)), (1, .int x1), (2, .int x2), (3, .int x3)] [.int (μ 66 0)] sh μ
      obtain rfl := Option.some.inj h
      exact ax_ireti (pc := 203) (ax_dd KX10_says 120 rfl) ⟨_, rfl, rfl⟩ rfl
    · rw [if_neg c3] at h
      refine ax_icmp_ge_f (pc := 32) (tgt := 197) (ax_dd KX10_says 24 rfl) (by decide) c3 ?_
      refine ax_aload_n (pc := 35) (i := 0) (q := 0) (ax_dd KX10_says 25 rfl) rfl rfl ?_
      refine ax_getR (pc := 36) (k := 51) (q := 56) (ax_dd KX10_says 26 rfl) f_X10_26 (hs 51 _ rfl) rfl ?_
      refine ax_sipush (pc := 39) (v := 200) (ax_dd KX10_says 27 rfl) (by decide) ?_
      refine ax_aload_n (pc := 42) (i := 0) (q := 0) (ax_dd KX10_says 28 rfl) rfl rfl ?_
      refine ax_getI (pc := 43) (k := 51) (ax_dd KX10_says 29 rfl) f_X10_92 (hs 51 _ rfl) rfl ?_
      refine ax_imul (pc := 46) (ax_dd KX10_says 30 rfl) ?_
      refine ax_iload_n (pc := 47) (i := 3) (q := 3) (ax_dd KX10_says 31 rfl) rfl rfl ?_
      refine ax_iadd (pc := 48) (ax_dd KX10_says 32 rfl) ?_
      obtain ⟨j6, b7, h⟩ := ob_bind h
      refine ax_ild (pc := 49) (k := 56) (N := 1200) (j := j6) (ax_dd KX10_says 33 rfl) (hs 56 _ rfl) b7 ?_
      refine ax_istore (pc := 50) (lv' := [(4, .int (μ 56 j6)), (0, .ref (G.1 + 51)), (1, .int x1), (2, .int x2), (3, .int x3)]) (ax_dd KX10_says 34 rfl) (by decide) rfl ?_
      refine ax_iload (pc := 52) (q := 0) (ax_dd KX10_says 35 rfl) rfl ?_
      refine ax_ldc (pc := 54) (ax_dd KX10_says 36 rfl) c_X10_140 ?_
      by_cases c8 : 100000 ≤ (μ 56 j6)
      · rw [if_pos c8] at h
        refine ax_icmp_ge_t (pc := 56) (tgt := 66) (ax_dd KX10_says 37 rfl) (by decide) c8 ?_
        refine ax_sub (lv' := [(0, .ref (G.1 + 51)), (1, .int x1), (2, .int x2), (3, .int x3), (4, .int (μ 56 j6))]) [1, 2, 3, 4, 0] rfl ?_
        exact a_X10_says_66 hs ih h
      · rw [if_neg c8] at h
        refine ax_icmp_ge_f (pc := 56) (tgt := 66) (ax_dd KX10_says 37 rfl) (by decide) c8 ?_
        refine ax_iload (pc := 59) (q := 0) (ax_dd KX10_says 38 rfl) rfl ?_
        refine ax_bipush (pc := 61) (v := 11) (ax_dd KX10_says 39 rfl) (by decide) ?_
        by_cases c9 : 11 ≤ (μ 56 j6)
        · rw [if_pos c9] at h
          refine ax_icmp_ge_t (pc := 63) (tgt := 100) (ax_dd KX10_says 40 rfl) (by decide) c9 ?_
          refine ax_iload (pc := 100) (q := 0) (ax_dd KX10_says 58 rfl) rfl ?_
          refine ax_bipush (pc := 102) (v := 13) (ax_dd KX10_says 59 rfl) (by decide) ?_
          by_cases c10 : (μ 56 j6) = 13
          · rw [if_pos c10] at h
            refine ax_icmp_ne_f (pc := 104) (tgt := 134) (ax_dd KX10_says 60 rfl) (by decide) (fun z => z c10) ?_
            refine ax_aload_n (pc := 107) (i := 0) (q := 1) (ax_dd KX10_says 61 rfl) rfl rfl ?_
            refine ax_getR (pc := 108) (k := 51) (q := 66) (ax_dd KX10_says 62 rfl) f_X10_56 (hs 51 _ rfl) rfl ?_
            refine ax_iload_n (pc := 111) (i := 2) (q := 3) (ax_dd KX10_says 63 rfl) rfl rfl ?_
            refine ax_iconst (pc := 112) (v := 1) (ax_dd KX10_says 64 rfl) (by decide) ?_
            refine ax_isub (pc := 113) (ax_dd KX10_says 65 rfl) ?_
            refine ax_aload_n (pc := 114) (i := 0) (q := 1) (ax_dd KX10_says 66 rfl) rfl rfl ?_
            refine ax_getR (pc := 115) (k := 51) (q := 66) (ax_dd KX10_says 67 rfl) f_X10_56 (hs 51 _ rfl) rfl ?_
            refine ax_iload_n (pc := 118) (i := 2) (q := 3) (ax_dd KX10_says 68 rfl) rfl rfl ?_
            refine ax_iconst (pc := 119) (v := 1) (ax_dd KX10_says 69 rfl) (by decide) ?_
            refine ax_isub (pc := 120) (ax_dd KX10_says 70 rfl) ?_
            obtain ⟨j11, b12, h⟩ := ob_bind h
            refine ax_ild (pc := 121) (k := 66) (N := 200) (j := j11) (ax_dd KX10_says 71 rfl) (hs 66 _ rfl) b12 ?_
            by_cases c13 : (μ 66 j11) = 0
            · rw [if_pos c13] at h
              refine ax_if_ne_f (pc := 122) (tgt := 129) (ax_dd KX10_says 72 rfl) (by decide) (fun z => z c13) ?_
              refine ax_iconst (pc := 125) (v := 1) (ax_dd KX10_says 73 rfl) (by decide) ?_
              refine ax_goto (pc := 126) (tgt := 130) (ax_dd KX10_says 74 rfl) (by decide) ?_
              obtain ⟨j14, b15, h⟩ := ob_bind h
              refine ax_ist (pc := 130) (k := 66) (N := 200) (j := j14) (ax_dd KX10_says 76 rfl) (hs 66 _ rfl) b15 ?_
              refine ax_goto (pc := 131) (tgt := 191) (ax_dd KX10_says 77 rfl) (by decide) ?_
              refine ax_iinc (pc := 191) (q := 4) (v := (x3 + 1)) (lv' := [(3, .int (x3 + 1)), (4, .int (μ 56 j6)), (0, .ref (G.1 + 51)), (1, .int x1), (2, .int x2)]) (ax_dd KX10_says 114 rfl) rfl rfl (by decide) rfl ?_
              refine ax_goto (pc := 194) (tgt := 16) (ax_dd KX10_says 115 rfl) (by decide) ?_
              refine ax_sub (lv' := [(0, .ref (G.1 + 51)), (1, .int x1), (2, .int x2), (3, .int (x3 + 1))]) [2, 3, 4, 0] rfl ?_
              exact ih _ _ _ _ h
            · rw [if_neg c13] at h
              refine ax_if_ne_t (pc := 122) (tgt := 129) (ax_dd KX10_says 72 rfl) (by decide) c13 ?_
              refine ax_iconst (pc := 129) (v := 0) (ax_dd KX10_says 75 rfl) (by decide) ?_
              obtain ⟨j16, b17, h⟩ := ob_bind h
              refine ax_ist (pc := 130) (k := 66) (N := 200) (j := j16) (ax_dd KX10_says 76 rfl) (hs 66 _ rfl) b17 ?_
              refine ax_goto (pc := 131) (tgt := 191) (ax_dd KX10_says 77 rfl) (by decide) ?_
              refine ax_iinc (pc := 191) (q := 4) (v := (x3 + 1)) (lv' := [(3, .int (x3 + 1)), (4, .int (μ 56 j6)), (0, .ref (G.1 + 51)), (1, .int x1), (2, .int x2)]) (ax_dd KX10_says 114 rfl) rfl rfl (by decide) rfl ?_
              refine ax_goto (pc := 194) (tgt := 16) (ax_dd KX10_says 115 rfl) (by decide) ?_
              refine ax_sub (lv' := [(0, .ref (G.1 + 51)), (1, .int x1), (2, .int x2), (3, .int (x3 + 1))]) [2, 3, 4, 0] rfl ?_
              exact ih _ _ _ _ h
          · rw [if_neg c10] at h
            refine ax_icmp_ne_t (pc := 104) (tgt := 134) (ax_dd KX10_says 60 rfl) (by decide) c10 ?_
            refine ax_iload (pc := 134) (q := 0) (ax_dd KX10_says 78 rfl) rfl ?_
            refine ax_bipush (pc := 136) (v := 19) (ax_dd KX10_says 79 rfl) (by decide) ?_
            by_cases c18 : (μ 56 j6) = 19
            · rw [if_pos c18] at h
              refine ax_icmp_ne_f (pc := 138) (tgt := 161) (ax_dd KX10_says 80 rfl) (by decide) (fun z => z c18) ?_
              refine ax_aload_n (pc := 141) (i := 0) (q := 1) (ax_dd KX10_says 81 rfl) rfl rfl ?_
              refine ax_getR (pc := 142) (k := 51) (q := 66) (ax_dd KX10_says 82 rfl) f_X10_56 (hs 51 _ rfl) rfl ?_
              refine ax_iload_n (pc := 145) (i := 2) (q := 3) (ax_dd KX10_says 83 rfl) rfl rfl ?_
              refine ax_iconst (pc := 146) (v := 1) (ax_dd KX10_says 84 rfl) (by decide) ?_
              refine ax_isub (pc := 147) (ax_dd KX10_says 85 rfl) ?_
              refine ax_aload_n (pc := 148) (i := 0) (q := 1) (ax_dd KX10_says 86 rfl) rfl rfl ?_
              refine ax_getR (pc := 149) (k := 51) (q := 66) (ax_dd KX10_says 87 rfl) f_X10_56 (hs 51 _ rfl) rfl ?_
              refine ax_iload_n (pc := 152) (i := 2) (q := 3) (ax_dd KX10_says 88 rfl) rfl rfl ?_
              refine ax_iconst (pc := 153) (v := 1) (ax_dd KX10_says 89 rfl) (by decide) ?_
              refine ax_isub (pc := 154) (ax_dd KX10_says 90 rfl) ?_
              obtain ⟨j19, b20, h⟩ := ob_bind h
              refine ax_ild (pc := 155) (k := 66) (N := 200) (j := j19) (ax_dd KX10_says 91 rfl) (hs 66 _ rfl) b20 ?_
              refine ax_ineg (pc := 156) (ax_dd KX10_says 92 rfl) ?_
              obtain ⟨j21, b22, h⟩ := ob_bind h
              refine ax_ist (pc := 157) (k := 66) (N := 200) (j := j21) (ax_dd KX10_says 93 rfl) (hs 66 _ rfl) b22 ?_
              refine ax_goto (pc := 158) (tgt := 191) (ax_dd KX10_says 94 rfl) (by decide) ?_
              refine ax_iinc (pc := 191) (q := 4) (v := (x3 + 1)) (lv' := [(3, .int (x3 + 1)), (4, .int (μ 56 j6)), (0, .ref (G.1 + 51)), (1, .int x1), (2, .int x2)]) (ax_dd KX10_says 114 rfl) rfl rfl (by decide) rfl ?_
              refine ax_goto (pc := 194) (tgt := 16) (ax_dd KX10_says 115 rfl) (by decide) ?_
              refine ax_sub (lv' := [(0, .ref (G.1 + 51)), (1, .int x1), (2, .int x2), (3, .int (x3 + 1))]) [2, 3, 4, 0] rfl ?_
              exact ih _ _ _ _ h
            · rw [if_neg c18] at h
              refine ax_icmp_ne_t (pc := 138) (tgt := 161) (ax_dd KX10_says 80 rfl) (by decide) c18 ?_
              refine ax_iinc (pc := 161) (q := 3) (v := (x2 + (-1))) (lv' := [(2, .int (x2 + (-1))), (4, .int (μ 56 j6)), (0, .ref (G.1 + 51)), (1, .int x1), (3, .int x3)]) (ax_dd KX10_says 95 rfl) rfl rfl (by decide) rfl ?_
              refine ax_aload_n (pc := 164) (i := 0) (q := 2) (ax_dd KX10_says 96 rfl) rfl rfl ?_
              refine ax_getR (pc := 165) (k := 51) (q := 66) (ax_dd KX10_says 97 rfl) f_X10_56 (hs 51 _ rfl) rfl ?_
              refine ax_iload_n (pc := 168) (i := 2) (q := 0) (ax_dd KX10_says 98 rfl) rfl rfl ?_
              refine ax_iconst (pc := 169) (v := 1) (ax_dd KX10_says 99 rfl) (by decide) ?_
              refine ax_isub (pc := 170) (ax_dd KX10_says 100 rfl) ?_
              refine ax_iload (pc := 171) (q := 1) (ax_dd KX10_says 101 rfl) rfl ?_
              refine ax_aload_n (pc := 173) (i := 0) (q := 2) (ax_dd KX10_says 102 rfl) rfl rfl ?_
              refine ax_getR (pc := 174) (k := 51) (q := 66) (ax_dd KX10_says 103 rfl) f_X10_56 (hs 51 _ rfl) rfl ?_
              refine ax_iload_n (pc := 177) (i := 2) (q := 0) (ax_dd KX10_says 104 rfl) rfl rfl ?_
              refine ax_iconst (pc := 178) (v := 1) (ax_dd KX10_says 105 rfl) (by decide) ?_
              refine ax_isub (pc := 179) (ax_dd KX10_says 106 rfl) ?_
              obtain ⟨j23, b24, h⟩ := ob_bind h
              refine ax_ild (pc := 180) (k := 66) (N := 200) (j := j23) (ax_dd KX10_says 107 rfl) (hs 66 _ rfl) b24 ?_
              refine ax_aload_n (pc := 181) (i := 0) (q := 2) (ax_dd KX10_says 108 rfl) rfl rfl ?_
              refine ax_getR (pc := 182) (k := 51) (q := 66) (ax_dd KX10_says 109 rfl) f_X10_56 (hs 51 _ rfl) rfl ?_
              refine ax_iload_n (pc := 185) (i := 2) (q := 0) (ax_dd KX10_says 110 rfl) rfl rfl ?_
              obtain ⟨j25, b26, h⟩ := ob_bind h
              refine ax_ild (pc := 186) (k := 66) (N := 200) (j := j25) (ax_dd KX10_says 111 rfl) (hs 66 _ rfl) b26 ?_
              obtain ⟨v27, b28, h⟩ := ob_bind h
              refine ax_kS (pc := 187) (As := [.int (μ 56 j6), .int (μ 66 j23), .int (μ 66 j25)]) (rest := [.int ((x2 + (-1)) - 1), .ref (G.1 + 66)]) (st1 := [.int v27, .int ((x2 + (-1)) - 1), .ref (G.1 + 66)]) (μ1 := μ) (ax_dd KX10_says 112 rfl) (c_X10_two hs b28) kS_X10_154 e_X10_two rfl rfl (by decide) (by decide) (Nat.le_of_ble_eq_true rfl) rfl ?_
              obtain ⟨j29, b30, h⟩ := ob_bind h
              refine ax_ist (pc := 190) (k := 66) (N := 200) (j := j29) (ax_dd KX10_says 113 rfl) (hs 66 _ rfl) b30 ?_
              refine ax_iinc (pc := 191) (q := 4) (v := (x3 + 1)) (lv' := [(3, .int (x3 + 1)), (2, .int (x2 + (-1))), (4, .int (μ 56 j6)), (0, .ref (G.1 + 51)), (1, .int x1)]) (ax_dd KX10_says 114 rfl) rfl rfl (by decide) rfl ?_
              refine ax_goto (pc := 194) (tgt := 16) (ax_dd KX10_says 115 rfl) (by decide) ?_
              refine ax_sub (lv' := [(0, .ref (G.1 + 51)), (1, .int x1), (2, .int (x2 + (-1))), (3, .int (x3 + 1))]) [3, 4, 1, 0] rfl ?_
              exact ih _ _ _ _ h
        · rw [if_neg c9] at h
          refine ax_icmp_ge_f (pc := 63) (tgt := 100) (ax_dd KX10_says 40 rfl) (by decide) c9 ?_
          refine ax_sub (lv' := [(0, .ref (G.1 + 51)), (1, .int x1), (2, .int x2), (3, .int x3), (4, .int (μ 56 j6))]) [1, 2, 3, 4, 0] rfl ?_
          exact a_X10_says_66 hs ih h
def m_X10_says (x1 : Int32) (μ : ax_M) : Option (Int32 × ax_M) :=
  (ix 24 (((4 : Int32) * (μ 51 10)) + x1)).bind fun j1 =>
  m_X10_says_16 x1 fu 0 (μ 57 j1) μ
set_option maxRecDepth 100000 in
set_option maxHeartbeats 8000000 in
theorem c_X10_says {G : ax_G} {l : Launch} {sh : List ax_E} {x1 : Int32} {μ : ax_M} (hs : ∀ (k : Nat) (e : ax_E), SHF[k]? = some e → sh[k]? = some e) {v : Int32 × ax_M} (h : m_X10_says x1 μ = some v) : ax_A G l yX10_says cX10_says 5 (some .int) 3 [.ref (G.1 + 51), .int x1] sh μ (some (.int v.1), sh, v.2) := by
  refine ax_A.of false (by decide +kernel) (fun h9 => by cases h9) (Nat.le_of_ble_eq_true rfl) (?_ : ax_X G l RX10 cX10_says 5 (some .int) false 3 (some (.int v.1), sh, v.2) 0 [(0, .ref (G.1 + 51)), (1, .int x1)] [] sh μ)
  unfold m_X10_says at h
  refine ax_iconst (pc := 0) (v := 0) (ax_dd KX10_says 0 rfl) (by decide) ?_
  refine ax_istore_n (pc := 1) (i := 2) (lv' := [(2, .int 0), (0, .ref (G.1 + 51)), (1, .int x1)]) (ax_dd KX10_says 1 rfl) rfl (by decide) rfl ?_
  refine ax_aload_n (pc := 2) (i := 0) (q := 1) (ax_dd KX10_says 2 rfl) rfl rfl ?_
  refine ax_getR (pc := 3) (k := 51) (q := 57) (ax_dd KX10_says 3 rfl) f_X10_29 (hs 51 _ rfl) rfl ?_
  refine ax_iconst (pc := 6) (v := 4) (ax_dd KX10_says 4 rfl) (by decide) ?_
  refine ax_aload_n (pc := 7) (i := 0) (q := 1) (ax_dd KX10_says 5 rfl) rfl rfl ?_
  refine ax_getI (pc := 8) (k := 51) (ax_dd KX10_says 6 rfl) f_X10_92 (hs 51 _ rfl) rfl ?_
  refine ax_imul (pc := 11) (ax_dd KX10_says 7 rfl) ?_
  refine ax_iload_n (pc := 12) (i := 1) (q := 2) (ax_dd KX10_says 8 rfl) rfl rfl ?_
  refine ax_iadd (pc := 13) (ax_dd KX10_says 9 rfl) ?_
  obtain ⟨j1, b2, h⟩ := ob_bind h
  refine ax_ild (pc := 14) (k := 57) (N := 24) (j := j1) (ax_dd KX10_says 10 rfl) (hs 57 _ rfl) b2 ?_
  refine ax_istore_n (pc := 15) (i := 3) (lv' := [(3, .int (μ 57 j1)), (2, .int 0), (0, .ref (G.1 + 51)), (1, .int x1)]) (ax_dd KX10_says 11 rfl) rfl (by decide) rfl ?_
  refine ax_sub (lv' := [(0, .ref (G.1 + 51)), (1, .int x1), (2, .int 0), (3, .int (μ 57 j1))]) [2, 3, 1, 0] rfl ?_
  exact a_X10_says_16 hs fu _ _ _ _ h
def m_X10_force (x1 : Int32) (μ : ax_M) : Option (Int32 × ax_M) :=
  (m_X10_in x1 0 ((μ 51 9) - 1) μ).bind fun v1 =>
  if v1 = 0 then
    some ((-2), μ)
  else
    some ((μ 51 10), ax_w μ 51 10 x1)
set_option maxRecDepth 100000 in
set_option maxHeartbeats 8000000 in
theorem c_X10_force {G : ax_G} {l : Launch} {sh : List ax_E} {x1 : Int32} {μ : ax_M} (hs : ∀ (k : Nat) (e : ax_E), SHF[k]? = some e → sh[k]? = some e) {v : Int32 × ax_M} (h : m_X10_force x1 μ = some v) : ax_A G l yX10_force cX10_force 3 (some .int) 3 [.ref (G.1 + 51), .int x1] sh μ (some (.int v.1), sh, v.2) := by
  refine ax_A.of false (by decide +kernel) (fun h9 => by cases h9) (Nat.le_of_ble_eq_true rfl) (?_ : ax_X G l RX10 cX10_force 3 (some .int) false 3 (some (.int v.1), sh, v.2) 0 [(0, .ref (G.1 + 51)), (1, .int x1)] [] sh μ)
  unfold m_X10_force at h
  refine ax_iload_n (pc := 0) (i := 1) (q := 1) (ax_dd KX10_force 0 rfl) rfl rfl ?_
  refine ax_iconst (pc := 1) (v := 0) (ax_dd KX10_force 1 rfl) (by decide) ?_
  refine ax_aload_n (pc := 2) (i := 0) (q := 0) (ax_dd KX10_force 2 rfl) rfl rfl ?_
  refine ax_getI (pc := 3) (k := 51) (ax_dd KX10_force 3 rfl) f_X10_89 (hs 51 _ rfl) rfl ?_
  refine ax_iconst (pc := 6) (v := 1) (ax_dd KX10_force 4 rfl) (by decide) ?_
  refine ax_isub (pc := 7) (ax_dd KX10_force 5 rfl) ?_
  obtain ⟨v1, b2, h⟩ := ob_bind h
  refine ax_kS (pc := 8) (As := [.int x1, .int 0, .int ((μ 51 9) - 1)]) (rest := []) (st1 := [.int v1]) (μ1 := μ) (ax_dd KX10_force 6 rfl) (c_X10_in hs b2) kS_X10_81 e_X10_in rfl rfl (by decide) (by decide) (Nat.le_of_ble_eq_true rfl) rfl ?_
  by_cases c3 : v1 = 0
  · rw [if_pos c3] at h
    refine ax_if_ne_f (pc := 11) (tgt := 17) (ax_dd KX10_force 7 rfl) (by decide) (fun z => z c3) ?_
    refine ax_bipush (pc := 14) (v := (-2)) (ax_dd KX10_force 8 rfl) (by decide) ?_
    obtain rfl := Option.some.inj h
    exact ax_ireti (pc := 16) (ax_dd KX10_force 9 rfl) ⟨_, rfl, rfl⟩ rfl
  · rw [if_neg c3] at h
    refine ax_if_ne_t (pc := 11) (tgt := 17) (ax_dd KX10_force 7 rfl) (by decide) c3 ?_
    refine ax_aload_n (pc := 17) (i := 0) (q := 0) (ax_dd KX10_force 10 rfl) rfl rfl ?_
    refine ax_getI (pc := 18) (k := 51) (ax_dd KX10_force 11 rfl) f_X10_92 (hs 51 _ rfl) rfl ?_
    refine ax_istore_n (pc := 21) (i := 2) (lv' := [(2, .int (μ 51 10)), (0, .ref (G.1 + 51)), (1, .int x1)]) (ax_dd KX10_force 12 rfl) rfl (by decide) rfl ?_
    refine ax_aload_n (pc := 22) (i := 0) (q := 1) (ax_dd KX10_force 13 rfl) rfl rfl ?_
    refine ax_iload_n (pc := 23) (i := 1) (q := 2) (ax_dd KX10_force 14 rfl) rfl rfl ?_
    refine ax_putI (pc := 24) (k := 51) (ax_dd KX10_force 15 rfl) f_X10_92 ft_X10 (hs 51 _ rfl) rfl (fun _ h9 => by cases h9; rfl) rfl rfl ?_
    refine ax_iload_n (pc := 27) (i := 2) (q := 0) (ax_dd KX10_force 16 rfl) rfl rfl ?_
    obtain rfl := Option.some.inj h
    exact ax_ireti (pc := 28) (ax_dd KX10_force 17 rfl) ⟨_, rfl, rfl⟩ rfl
def m_X10_asksOf (x1 : Int32) (x2 : Int32) (x3 : Int32) (μ : ax_M) : Option (Int32 × ax_M) :=
  (ix 18 (((3 : Int32) * x2) + 2)).bind fun j7 =>
  (m_X10_sizeOf x2 (ax_w (ax_w (ax_w (ax_w μ 67 0 (rmI x3 6)) 67 1 (x3 / 6)) 67 2 ((ax_w (ax_w μ 67 0 (rmI x3 6)) 67 1 (x3 / 6)) 51 4)) 67 3 ((ax_w (ax_w (ax_w μ 67 0 (rmI x3 6)) 67 1 (x3 / 6)) 67 2 ((ax_w (ax_w μ 67 0 (rmI x3 6)) 67 1 (x3 / 6)) 51 4)) 54 j7))).bind fun v11 =>
  (ix 6 x2).bind fun j15 =>
  bind2 (m_X10_says x1 (ax_w (ax_w (ax_w (ax_w (ax_w (ax_w μ 67 0 (rmI x3 6)) 67 1 (x3 / 6)) 67 2 ((ax_w (ax_w μ 67 0 (rmI x3 6)) 67 1 (x3 / 6)) 51 4)) 67 3 ((ax_w (ax_w (ax_w μ 67 0 (rmI x3 6)) 67 1 (x3 / 6)) 67 2 ((ax_w (ax_w μ 67 0 (rmI x3 6)) 67 1 (x3 / 6)) 51 4)) 54 j7)) 67 4 v11) 67 5 ((ax_w (ax_w (ax_w (ax_w (ax_w μ 67 0 (rmI x3 6)) 67 1 (x3 / 6)) 67 2 ((ax_w (ax_w μ 67 0 (rmI x3 6)) 67 1 (x3 / 6)) 51 4)) 67 3 ((ax_w (ax_w (ax_w μ 67 0 (rmI x3 6)) 67 1 (x3 / 6)) 67 2 ((ax_w (ax_w μ 67 0 (rmI x3 6)) 67 1 (x3 / 6)) 51 4)) 54 j7)) 67 4 v11) 53 j15))) fun v19 μ21 =>
  if x1 = 0 then
    (m_X10_within v19 0 99 μ21).bind fun v23 =>
    some (v23, μ21)
  else
    if v19 = 0 then
      some (0, μ21)
    else
      some (1, μ21)
set_option maxRecDepth 100000 in
set_option maxHeartbeats 8000000 in
theorem c_X10_asksOf {G : ax_G} {l : Launch} {sh : List ax_E} {x1 : Int32} {x2 : Int32} {x3 : Int32} {μ : ax_M} (hs : ∀ (k : Nat) (e : ax_E), SHF[k]? = some e → sh[k]? = some e) {v : Int32 × ax_M} (h : m_X10_asksOf x1 x2 x3 μ = some v) : ax_A G l yX10_asksOf cX10_asksOf 5 (some .int) 4 [.ref (G.1 + 51), .int x1, .int x2, .int x3] sh μ (some (.int v.1), sh, v.2) := by
  refine ax_A.of false (by decide +kernel) (fun h9 => by cases h9) (Nat.le_of_ble_eq_true rfl) (?_ : ax_X G l RX10 cX10_asksOf 5 (some .int) false 4 (some (.int v.1), sh, v.2) 0 [(0, .ref (G.1 + 51)), (1, .int x1), (2, .int x2), (3, .int x3)] [] sh μ)
  unfold m_X10_asksOf at h
  refine ax_aload_n (pc := 0) (i := 0) (q := 0) (ax_dd KX10_asksOf 0 rfl) rfl rfl ?_
  refine ax_getR (pc := 1) (k := 51) (q := 67) (ax_dd KX10_asksOf 1 rfl) f_X10_59 (hs 51 _ rfl) rfl ?_
  refine ax_iconst (pc := 4) (v := 0) (ax_dd KX10_asksOf 2 rfl) (by decide) ?_
  refine ax_iload_n (pc := 5) (i := 3) (q := 3) (ax_dd KX10_asksOf 3 rfl) rfl rfl ?_
  refine ax_bipush (pc := 6) (v := 6) (ax_dd KX10_asksOf 4 rfl) (by decide) ?_
  refine ax_irem (pc := 8) (ax_dd KX10_asksOf 5 rfl) (by decide) ?_
  refine ax_iast (pc := 9) (k := 67) (n := 6) (ax_dd KX10_asksOf 6 rfl) (hs 67 _ rfl) (ax_inC (by decide)) ?_
  show ax_X G l RX10 cX10_asksOf 5 (some .int) false 4 _ 10 [(0, .ref (G.1 + 51)), (1, .int x1), (2, .int x2), (3, .int x3)] [] sh (ax_w μ 67 0 (rmI x3 6))
  refine ax_aload_n (pc := 10) (i := 0) (q := 0) (ax_dd KX10_asksOf 7 rfl) rfl rfl ?_
  refine ax_getR (pc := 11) (k := 51) (q := 67) (ax_dd KX10_asksOf 8 rfl) f_X10_59 (hs 51 _ rfl) rfl ?_
  refine ax_iconst (pc := 14) (v := 1) (ax_dd KX10_asksOf 9 rfl) (by decide) ?_
  refine ax_iload_n (pc := 15) (i := 3) (q := 3) (ax_dd KX10_asksOf 10 rfl) rfl rfl ?_
  refine ax_bipush (pc := 16) (v := 6) (ax_dd KX10_asksOf 11 rfl) (by decide) ?_
  refine ax_idiv (pc := 18) (ax_dd KX10_asksOf 12 rfl) (by decide) ?_
  refine ax_iast (pc := 19) (k := 67) (n := 6) (ax_dd KX10_asksOf 13 rfl) (hs 67 _ rfl) (ax_inC (by decide)) ?_
  show ax_X G l RX10 cX10_asksOf 5 (some .int) false 4 _ 20 [(0, .ref (G.1 + 51)), (1, .int x1), (2, .int x2), (3, .int x3)] [] sh (ax_w (ax_w μ 67 0 (rmI x3 6)) 67 1 (x3 / 6))
  refine ax_aload_n (pc := 20) (i := 0) (q := 0) (ax_dd KX10_asksOf 14 rfl) rfl rfl ?_
  refine ax_getR (pc := 21) (k := 51) (q := 67) (ax_dd KX10_asksOf 15 rfl) f_X10_59 (hs 51 _ rfl) rfl ?_
  refine ax_iconst (pc := 24) (v := 2) (ax_dd KX10_asksOf 16 rfl) (by decide) ?_
  refine ax_aload_n (pc := 25) (i := 0) (q := 0) (ax_dd KX10_asksOf 17 rfl) rfl rfl ?_
  refine ax_getI (pc := 26) (k := 51) (ax_dd KX10_asksOf 18 rfl) f_X10_19 (hs 51 _ rfl) rfl ?_
  refine ax_iast (pc := 29) (k := 67) (n := 6) (ax_dd KX10_asksOf 19 rfl) (hs 67 _ rfl) (ax_inC (by decide)) ?_
  show ax_X G l RX10 cX10_asksOf 5 (some .int) false 4 _ 30 [(0, .ref (G.1 + 51)), (1, .int x1), (2, .int x2), (3, .int x3)] [] sh (ax_w (ax_w (ax_w μ 67 0 (rmI x3 6)) 67 1 (x3 / 6)) 67 2 ((ax_w (ax_w μ 67 0 (rmI x3 6)) 67 1 (x3 / 6)) 51 4))
  refine ax_aload_n (pc := 30) (i := 0) (q := 0) (ax_dd KX10_asksOf 20 rfl) rfl rfl ?_
  refine ax_getR (pc := 31) (k := 51) (q := 67) (ax_dd KX10_asksOf 21 rfl) f_X10_59 (hs 51 _ rfl) rfl ?_
  refine ax_iconst (pc := 34) (v := 3) (ax_dd KX10_asksOf 22 rfl) (by decide) ?_
  refine ax_aload_n (pc := 35) (i := 0) (q := 0) (ax_dd KX10_asksOf 23 rfl) rfl rfl ?_
  refine ax_getR (pc := 36) (k := 51) (q := 54) (ax_dd KX10_asksOf 24 rfl) f_X10_16 (hs 51 _ rfl) rfl ?_
  refine ax_iconst (pc := 39) (v := 3) (ax_dd KX10_asksOf 25 rfl) (by decide) ?_
  refine ax_iload_n (pc := 40) (i := 2) (q := 2) (ax_dd KX10_asksOf 26 rfl) rfl rfl ?_
  refine ax_imul (pc := 41) (ax_dd KX10_asksOf 27 rfl) ?_
  refine ax_iconst (pc := 42) (v := 2) (ax_dd KX10_asksOf 28 rfl) (by decide) ?_
  refine ax_iadd (pc := 43) (ax_dd KX10_asksOf 29 rfl) ?_
  obtain ⟨j7, b8, h⟩ := ob_bind h
  refine ax_ild (pc := 44) (k := 54) (N := 18) (j := j7) (ax_dd KX10_asksOf 30 rfl) (hs 54 _ rfl) b8 ?_
  refine ax_iast (pc := 45) (k := 67) (n := 6) (ax_dd KX10_asksOf 31 rfl) (hs 67 _ rfl) (ax_inC (by decide)) ?_
  show ax_X G l RX10 cX10_asksOf 5 (some .int) false 4 _ 46 [(0, .ref (G.1 + 51)), (1, .int x1), (2, .int x2), (3, .int x3)] [] sh (ax_w (ax_w (ax_w (ax_w μ 67 0 (rmI x3 6)) 67 1 (x3 / 6)) 67 2 ((ax_w (ax_w μ 67 0 (rmI x3 6)) 67 1 (x3 / 6)) 51 4)) 67 3 ((ax_w (ax_w (ax_w μ 67 0 (rmI x3 6)) 67 1 (x3 / 6)) 67 2 ((ax_w (ax_w μ 67 0 (rmI x3 6)) 67 1 (x3 / 6)) 51 4)) 54 j7))
  refine ax_aload_n (pc := 46) (i := 0) (q := 0) (ax_dd KX10_asksOf 32 rfl) rfl rfl ?_
  refine ax_getR (pc := 47) (k := 51) (q := 67) (ax_dd KX10_asksOf 33 rfl) f_X10_59 (hs 51 _ rfl) rfl ?_
  refine ax_iconst (pc := 50) (v := 4) (ax_dd KX10_asksOf 34 rfl) (by decide) ?_
  refine ax_aload_n (pc := 51) (i := 0) (q := 0) (ax_dd KX10_asksOf 35 rfl) rfl rfl ?_
  refine ax_iload_n (pc := 52) (i := 2) (q := 2) (ax_dd KX10_asksOf 36 rfl) rfl rfl ?_
  obtain ⟨v11, b12, h⟩ := ob_bind h
  refine ax_kV (pc := 53) (ci := 10) (k := 51) (As := [.int x2]) (rest := [.int 4, .ref (G.1 + 67)]) (st1 := [.int v11, .int 4, .ref (G.1 + 67)]) (μ1 := ax_w (ax_w (ax_w (ax_w μ 67 0 (rmI x3 6)) 67 1 (x3 / 6)) 67 2 ((ax_w (ax_w μ 67 0 (rmI x3 6)) 67 1 (x3 / 6)) 51 4)) 67 3 ((ax_w (ax_w (ax_w μ 67 0 (rmI x3 6)) 67 1 (x3 / 6)) 67 2 ((ax_w (ax_w μ 67 0 (rmI x3 6)) 67 1 (x3 / 6)) 51 4)) 54 j7)) (ax_dd KX10_asksOf 37 rfl) (c_X10_sizeOf hs b12) kV_X10_158 e_X10_sizeOf (hs 51 _ rfl) cl_X10 (by decide) rfl rfl (by decide) (by decide) (Nat.le_of_ble_eq_true rfl) rfl ?_
  refine ax_iast (pc := 56) (k := 67) (n := 6) (ax_dd KX10_asksOf 38 rfl) (hs 67 _ rfl) (ax_inC (by decide)) ?_
  show ax_X G l RX10 cX10_asksOf 5 (some .int) false 4 _ 57 [(0, .ref (G.1 + 51)), (1, .int x1), (2, .int x2), (3, .int x3)] [] sh (ax_w (ax_w (ax_w (ax_w (ax_w μ 67 0 (rmI x3 6)) 67 1 (x3 / 6)) 67 2 ((ax_w (ax_w μ 67 0 (rmI x3 6)) 67 1 (x3 / 6)) 51 4)) 67 3 ((ax_w (ax_w (ax_w μ 67 0 (rmI x3 6)) 67 1 (x3 / 6)) 67 2 ((ax_w (ax_w μ 67 0 (rmI x3 6)) 67 1 (x3 / 6)) 51 4)) 54 j7)) 67 4 v11)
  refine ax_aload_n (pc := 57) (i := 0) (q := 0) (ax_dd KX10_asksOf 39 rfl) rfl rfl ?_
  refine ax_getR (pc := 58) (k := 51) (q := 67) (ax_dd KX10_asksOf 40 rfl) f_X10_59 (hs 51 _ rfl) rfl ?_
  refine ax_iconst (pc := 61) (v := 5) (ax_dd KX10_asksOf 41 rfl) (by decide) ?_
  refine ax_aload_n (pc := 62) (i := 0) (q := 0) (ax_dd KX10_asksOf 42 rfl) rfl rfl ?_
  refine ax_getR (pc := 63) (k := 51) (q := 53) (ax_dd KX10_asksOf 43 rfl) f_X10_13 (hs 51 _ rfl) rfl ?_
  refine ax_iload_n (pc := 66) (i := 2) (q := 2) (ax_dd KX10_asksOf 44 rfl) rfl rfl ?_
  obtain ⟨j15, b16, h⟩ := ob_bind h
  refine ax_ild (pc := 67) (k := 53) (N := 6) (j := j15) (ax_dd KX10_asksOf 45 rfl) (hs 53 _ rfl) b16 ?_
  refine ax_iast (pc := 68) (k := 67) (n := 6) (ax_dd KX10_asksOf 46 rfl) (hs 67 _ rfl) (ax_inC (by decide)) ?_
  show ax_X G l RX10 cX10_asksOf 5 (some .int) false 4 _ 69 [(0, .ref (G.1 + 51)), (1, .int x1), (2, .int x2), (3, .int x3)] [] sh (ax_w (ax_w (ax_w (ax_w (ax_w (ax_w μ 67 0 (rmI x3 6)) 67 1 (x3 / 6)) 67 2 ((ax_w (ax_w μ 67 0 (rmI x3 6)) 67 1 (x3 / 6)) 51 4)) 67 3 ((ax_w (ax_w (ax_w μ 67 0 (rmI x3 6)) 67 1 (x3 / 6)) 67 2 ((ax_w (ax_w μ 67 0 (rmI x3 6)) 67 1 (x3 / 6)) 51 4)) 54 j7)) 67 4 v11) 67 5 ((ax_w (ax_w (ax_w (ax_w (ax_w μ 67 0 (rmI x3 6)) 67 1 (x3 / 6)) 67 2 ((ax_w (ax_w μ 67 0 (rmI x3 6)) 67 1 (x3 / 6)) 51 4)) 67 3 ((ax_w (ax_w (ax_w μ 67 0 (rmI x3 6)) 67 1 (x3 / 6)) 67 2 ((ax_w (ax_w μ 67 0 (rmI x3 6)) 67 1 (x3 / 6)) 51 4)) 54 j7)) 67 4 v11) 53 j15))
  refine ax_aload_n (pc := 69) (i := 0) (q := 0) (ax_dd KX10_asksOf 47 rfl) rfl rfl ?_
  refine ax_iload_n (pc := 70) (i := 1) (q := 1) (ax_dd KX10_asksOf 48 rfl) rfl rfl ?_
  obtain ⟨v19, μ21, b20, h⟩ := ob_bind2 h
  refine ax_kV (pc := 71) (ci := 10) (k := 51) (As := [.int x1]) (rest := []) (st1 := [.int v19]) (μ1 := μ21) (ax_dd KX10_asksOf 49 rfl) (c_X10_says hs b20) kV_X10_161 e_X10_says (hs 51 _ rfl) cl_X10 (by decide) rfl rfl (by decide) (by decide) (Nat.le_of_ble_eq_true rfl) rfl ?_
  refine ax_istore (pc := 74) (lv' := [(4, .int v19), (0, .ref (G.1 + 51)), (1, .int x1), (2, .int x2), (3, .int x3)]) (ax_dd KX10_asksOf 50 rfl) (by decide) rfl ?_
  refine ax_iload_n (pc := 76) (i := 1) (q := 2) (ax_dd KX10_asksOf 51 rfl) rfl rfl ?_
  by_cases c22 : x1 = 0
  · rw [if_pos c22] at h
    refine ax_if_ne_f (pc := 77) (tgt := 91) (ax_dd KX10_asksOf 52 rfl) (by decide) (fun z => z c22) ?_
    refine ax_iload (pc := 80) (q := 0) (ax_dd KX10_asksOf 53 rfl) rfl ?_
    refine ax_iconst (pc := 82) (v := 0) (ax_dd KX10_asksOf 54 rfl) (by decide) ?_
    refine ax_bipush (pc := 83) (v := 99) (ax_dd KX10_asksOf 55 rfl) (by decide) ?_
    obtain ⟨v23, b24, h⟩ := ob_bind h
    refine ax_kS (pc := 85) (As := [.int v19, .int 0, .int 99]) (rest := []) (st1 := [.int v23]) (μ1 := μ21) (ax_dd KX10_asksOf 56 rfl) (c_X10_within hs b24) kS_X10_164 e_X10_within rfl rfl (by decide) (by decide) (Nat.le_of_ble_eq_true rfl) rfl ?_
    refine ax_goto (pc := 88) (tgt := 101) (ax_dd KX10_asksOf 57 rfl) (by decide) ?_
    obtain rfl := Option.some.inj h
    exact ax_ireti (pc := 101) (ax_dd KX10_asksOf 63 rfl) ⟨_, rfl, rfl⟩ rfl
  · rw [if_neg c22] at h
    refine ax_if_ne_t (pc := 77) (tgt := 91) (ax_dd KX10_asksOf 52 rfl) (by decide) c22 ?_
    refine ax_iload (pc := 91) (q := 0) (ax_dd KX10_asksOf 58 rfl) rfl ?_
    by_cases c25 : v19 = 0
    · rw [if_pos c25] at h
      refine ax_if_ne_f (pc := 93) (tgt := 100) (ax_dd KX10_asksOf 59 rfl) (by decide) (fun z => z c25) ?_
      refine ax_iconst (pc := 96) (v := 0) (ax_dd KX10_asksOf 60 rfl) (by decide) ?_
      refine ax_goto (pc := 97) (tgt := 101) (ax_dd KX10_asksOf 61 rfl) (by decide) ?_
      obtain rfl := Option.some.inj h
      exact ax_ireti (pc := 101) (ax_dd KX10_asksOf 63 rfl) ⟨_, rfl, rfl⟩ rfl
    · rw [if_neg c25] at h
      refine ax_if_ne_t (pc := 93) (tgt := 100) (ax_dd KX10_asksOf 59 rfl) (by decide) c25 ?_
      refine ax_iconst (pc := 100) (v := 1) (ax_dd KX10_asksOf 62 rfl) (by decide) ?_
      obtain rfl := Option.some.inj h
      exact ax_ireti (pc := 101) (ax_dd KX10_asksOf 63 rfl) ⟨_, rfl, rfl⟩ rfl
def m_X10_asks (x1 : Int32) (x2 : Int32) (x3 : Int32) (μ : ax_M) : Option (Int32 × ax_M) :=
  (m_X10_in x1 0 2 μ).bind fun v1 =>
  if v1 = 0 then
    some ((-2), μ)
  else
    (m_X10_isRug x2 μ).bind fun v4 =>
    if v4 = 0 then
      some ((-2), μ)
    else
      (m_X10_isCell x3 μ).bind fun v7 =>
      if v7 = 0 then
        some ((-2), μ)
      else
        bind2 (m_X10_asksOf x1 x2 x3 μ) fun v10 μ12 =>
        some (v10, μ12)
set_option maxRecDepth 100000 in
set_option maxHeartbeats 8000000 in
theorem c_X10_asks {G : ax_G} {l : Launch} {sh : List ax_E} {x1 : Int32} {x2 : Int32} {x3 : Int32} {μ : ax_M} (hs : ∀ (k : Nat) (e : ax_E), SHF[k]? = some e → sh[k]? = some e) {v : Int32 × ax_M} (h : m_X10_asks x1 x2 x3 μ = some v) : ax_A G l yX10_asks cX10_asks 4 (some .int) 5 [.ref (G.1 + 51), .int x1, .int x2, .int x3] sh μ (some (.int v.1), sh, v.2) := by
  refine ax_A.of false (by decide +kernel) (fun h9 => by cases h9) (Nat.le_of_ble_eq_true rfl) (?_ : ax_X G l RX10 cX10_asks 4 (some .int) false 5 (some (.int v.1), sh, v.2) 0 [(0, .ref (G.1 + 51)), (1, .int x1), (2, .int x2), (3, .int x3)] [] sh μ)
  unfold m_X10_asks at h
  refine ax_iload_n (pc := 0) (i := 1) (q := 1) (ax_dd KX10_asks 0 rfl) rfl rfl ?_
  refine ax_iconst (pc := 1) (v := 0) (ax_dd KX10_asks 1 rfl) (by decide) ?_
  refine ax_iconst (pc := 2) (v := 2) (ax_dd KX10_asks 2 rfl) (by decide) ?_
  obtain ⟨v1, b2, h⟩ := ob_bind h
  refine ax_kS (pc := 3) (As := [.int x1, .int 0, .int 2]) (rest := []) (st1 := [.int v1]) (μ1 := μ) (ax_dd KX10_asks 3 rfl) (c_X10_in hs b2) kS_X10_81 e_X10_in rfl rfl (by decide) (by decide) (Nat.le_of_ble_eq_true rfl) rfl ?_
  by_cases c3 : v1 = 0
  · rw [if_pos c3] at h
    refine ax_if_eq_t (pc := 6) (tgt := 34) (ax_dd KX10_asks 4 rfl) (by decide) c3 ?_
    refine ax_bipush (pc := 34) (v := (-2)) (ax_dd KX10_asks 18 rfl) (by decide) ?_
    obtain rfl := Option.some.inj h
    exact ax_ireti (pc := 36) (ax_dd KX10_asks 19 rfl) ⟨_, rfl, rfl⟩ rfl
  · rw [if_neg c3] at h
    refine ax_if_eq_f (pc := 6) (tgt := 34) (ax_dd KX10_asks 4 rfl) (by decide) c3 ?_
    refine ax_aload_n (pc := 9) (i := 0) (q := 0) (ax_dd KX10_asks 5 rfl) rfl rfl ?_
    refine ax_iload_n (pc := 10) (i := 2) (q := 2) (ax_dd KX10_asks 6 rfl) rfl rfl ?_
    obtain ⟨v4, b5, h⟩ := ob_bind h
    refine ax_kV (pc := 11) (ci := 10) (k := 51) (As := [.int x2]) (rest := []) (st1 := [.int v4]) (μ1 := μ) (ax_dd KX10_asks 7 rfl) (c_X10_isRug hs b5) kV_X10_167 e_X10_isRug (hs 51 _ rfl) cl_X10 (by decide) rfl rfl (by decide) (by decide) (Nat.le_of_ble_eq_true rfl) rfl ?_
    by_cases c6 : v4 = 0
    · rw [if_pos c6] at h
      refine ax_if_eq_t (pc := 14) (tgt := 34) (ax_dd KX10_asks 8 rfl) (by decide) c6 ?_
      refine ax_bipush (pc := 34) (v := (-2)) (ax_dd KX10_asks 18 rfl) (by decide) ?_
      obtain rfl := Option.some.inj h
      exact ax_ireti (pc := 36) (ax_dd KX10_asks 19 rfl) ⟨_, rfl, rfl⟩ rfl
    · rw [if_neg c6] at h
      refine ax_if_eq_f (pc := 14) (tgt := 34) (ax_dd KX10_asks 8 rfl) (by decide) c6 ?_
      refine ax_iload_n (pc := 17) (i := 3) (q := 3) (ax_dd KX10_asks 9 rfl) rfl rfl ?_
      obtain ⟨v7, b8, h⟩ := ob_bind h
      refine ax_kS (pc := 18) (As := [.int x3]) (rest := []) (st1 := [.int v7]) (μ1 := μ) (ax_dd KX10_asks 10 rfl) (c_X10_isCell hs b8) kS_X10_170 e_X10_isCell rfl rfl (by decide) (by decide) (Nat.le_of_ble_eq_true rfl) rfl ?_
      by_cases c9 : v7 = 0
      · rw [if_pos c9] at h
        refine ax_if_eq_t (pc := 21) (tgt := 34) (ax_dd KX10_asks 11 rfl) (by decide) c9 ?_
        refine ax_bipush (pc := 34) (v := (-2)) (ax_dd KX10_asks 18 rfl) (by decide) ?_
        obtain rfl := Option.some.inj h
        exact ax_ireti (pc := 36) (ax_dd KX10_asks 19 rfl) ⟨_, rfl, rfl⟩ rfl
      · rw [if_neg c9] at h
        refine ax_if_eq_f (pc := 21) (tgt := 34) (ax_dd KX10_asks 11 rfl) (by decide) c9 ?_
        refine ax_aload_n (pc := 24) (i := 0) (q := 0) (ax_dd KX10_asks 12 rfl) rfl rfl ?_
        refine ax_iload_n (pc := 25) (i := 1) (q := 1) (ax_dd KX10_asks 13 rfl) rfl rfl ?_
        refine ax_iload_n (pc := 26) (i := 2) (q := 2) (ax_dd KX10_asks 14 rfl) rfl rfl ?_
        refine ax_iload_n (pc := 27) (i := 3) (q := 3) (ax_dd KX10_asks 15 rfl) rfl rfl ?_
        obtain ⟨v10, μ12, b11, h⟩ := ob_bind2 h
        refine ax_kV (pc := 28) (ci := 10) (k := 51) (As := [.int x1, .int x2, .int x3]) (rest := []) (st1 := [.int v10]) (μ1 := μ12) (ax_dd KX10_asks 16 rfl) (c_X10_asksOf hs b11) kV_X10_173 e_X10_asksOf (hs 51 _ rfl) cl_X10 (by decide) rfl rfl (by decide) (by decide) (Nat.le_of_ble_eq_true rfl) rfl ?_
        refine ax_goto (pc := 31) (tgt := 36) (ax_dd KX10_asks 17 rfl) (by decide) ?_
        obtain rfl := Option.some.inj h
        exact ax_ireti (pc := 36) (ax_dd KX10_asks 19 rfl) ⟨_, rfl, rfl⟩ rfl
def m_X10_spread (x1 : Int32) (x2 : Int32) (μ : ax_M) : Option (Int32 × ax_M) :=
  (m_X10_in x1 0 59 μ).bind fun v1 =>
  if v1 = 0 then
    some ((-2), μ)
  else
    (m_X10_areCorners x2 μ).bind fun v4 =>
    if v4 = 0 then
      some ((-2), μ)
    else
      if (μ 51 0) = 6 then
        some ((-4), μ)
      else
        (ix 6 (μ 51 0)).bind fun j8 =>
        (ix 6 ((ax_w μ 52 j8 (x1 / 10)) 51 0)).bind fun j10 =>
        (ix 18 ((3 : Int32) * ((ax_w (ax_w μ 52 j8 (x1 / 10)) 53 j10 (rmI x1 10)) 51 0))).bind fun j12 =>
        (ix 18 (((3 : Int32) * ((ax_w (ax_w (ax_w μ 52 j8 (x1 / 10)) 53 j10 (rmI x1 10)) 54 j12 (x2 / 100)) 51 0)) + 1)).bind fun j14 =>
        (ix 18 (((3 : Int32) * ((ax_w (ax_w (ax_w (ax_w μ 52 j8 (x1 / 10)) 53 j10 (rmI x1 10)) 54 j12 (x2 / 100)) 54 j14 (rmI x2 100)) 51 0)) + 2)).bind fun j16 =>
        some ((((ax_w (ax_w (ax_w (ax_w (ax_w (ax_w μ 52 j8 (x1 / 10)) 53 j10 (rmI x1 10)) 54 j12 (x2 / 100)) 54 j14 (rmI x2 100)) 54 j16 0) 51 0 (((ax_w (ax_w (ax_w (ax_w (ax_w μ 52 j8 (x1 / 10)) 53 j10 (rmI x1 10)) 54 j12 (x2 / 100)) 54 j14 (rmI x2 100)) 54 j16 0) 51 0) + 1)) 51 0) - 1), ax_w (ax_w (ax_w (ax_w (ax_w (ax_w μ 52 j8 (x1 / 10)) 53 j10 (rmI x1 10)) 54 j12 (x2 / 100)) 54 j14 (rmI x2 100)) 54 j16 0) 51 0 (((ax_w (ax_w (ax_w (ax_w (ax_w μ 52 j8 (x1 / 10)) 53 j10 (rmI x1 10)) 54 j12 (x2 / 100)) 54 j14 (rmI x2 100)) 54 j16 0) 51 0) + 1))
set_option maxRecDepth 100000 in
set_option maxHeartbeats 8000000 in
theorem c_X10_spread {G : ax_G} {l : Launch} {sh : List ax_E} {x1 : Int32} {x2 : Int32} {μ : ax_M} (hs : ∀ (k : Nat) (e : ax_E), SHF[k]? = some e → sh[k]? = some e) {v : Int32 × ax_M} (h : m_X10_spread x1 x2 μ = some v) : ax_A G l yX10_spread cX10_spread 3 (some .int) 4 [.ref (G.1 + 51), .int x1, .int x2] sh μ (some (.int v.1), sh, v.2) := by
  refine ax_A.of false (by decide +kernel) (fun h9 => by cases h9) (Nat.le_of_ble_eq_true rfl) (?_ : ax_X G l RX10 cX10_spread 3 (some .int) false 4 (some (.int v.1), sh, v.2) 0 [(0, .ref (G.1 + 51)), (1, .int x1), (2, .int x2)] [] sh μ)
  unfold m_X10_spread at h
  refine ax_iload_n (pc := 0) (i := 1) (q := 1) (ax_dd KX10_spread 0 rfl) rfl rfl ?_
  refine ax_iconst (pc := 1) (v := 0) (ax_dd KX10_spread 1 rfl) (by decide) ?_
  refine ax_bipush (pc := 2) (v := 59) (ax_dd KX10_spread 2 rfl) (by decide) ?_
  obtain ⟨v1, b2, h⟩ := ob_bind h
  refine ax_kS (pc := 4) (As := [.int x1, .int 0, .int 59]) (rest := []) (st1 := [.int v1]) (μ1 := μ) (ax_dd KX10_spread 3 rfl) (c_X10_in hs b2) kS_X10_81 e_X10_in rfl rfl (by decide) (by decide) (Nat.le_of_ble_eq_true rfl) rfl ?_
  by_cases c3 : v1 = 0
  · rw [if_pos c3] at h
    refine ax_if_eq_t (pc := 7) (tgt := 17) (ax_dd KX10_spread 4 rfl) (by decide) c3 ?_
    refine ax_bipush (pc := 17) (v := (-2)) (ax_dd KX10_spread 8 rfl) (by decide) ?_
    obtain rfl := Option.some.inj h
    exact ax_ireti (pc := 19) (ax_dd KX10_spread 9 rfl) ⟨_, rfl, rfl⟩ rfl
  · rw [if_neg c3] at h
    refine ax_if_eq_f (pc := 7) (tgt := 17) (ax_dd KX10_spread 4 rfl) (by decide) c3 ?_
    refine ax_iload_n (pc := 10) (i := 2) (q := 2) (ax_dd KX10_spread 5 rfl) rfl rfl ?_
    obtain ⟨v4, b5, h⟩ := ob_bind h
    refine ax_kS (pc := 11) (As := [.int x2]) (rest := []) (st1 := [.int v4]) (μ1 := μ) (ax_dd KX10_spread 6 rfl) (c_X10_areCorners hs b5) kS_X10_176 e_X10_areCorners rfl rfl (by decide) (by decide) (Nat.le_of_ble_eq_true rfl) rfl ?_
    by_cases c6 : v4 = 0
    · rw [if_pos c6] at h
      refine ax_if_ne_f (pc := 14) (tgt := 20) (ax_dd KX10_spread 7 rfl) (by decide) (fun z => z c6) ?_
      refine ax_bipush (pc := 17) (v := (-2)) (ax_dd KX10_spread 8 rfl) (by decide) ?_
      obtain rfl := Option.some.inj h
      exact ax_ireti (pc := 19) (ax_dd KX10_spread 9 rfl) ⟨_, rfl, rfl⟩ rfl
    · rw [if_neg c6] at h
      refine ax_if_ne_t (pc := 14) (tgt := 20) (ax_dd KX10_spread 7 rfl) (by decide) c6 ?_
      refine ax_aload_n (pc := 20) (i := 0) (q := 0) (ax_dd KX10_spread 10 rfl) rfl rfl ?_
      refine ax_getI (pc := 21) (k := 51) (ax_dd KX10_spread 11 rfl) f_X10_78 (hs 51 _ rfl) rfl ?_
      refine ax_bipush (pc := 24) (v := 6) (ax_dd KX10_spread 12 rfl) (by decide) ?_
      by_cases c7 : (μ 51 0) = 6
      · rw [if_pos c7] at h
        refine ax_icmp_ne_f (pc := 26) (tgt := 32) (ax_dd KX10_spread 13 rfl) (by decide) (fun z => z c7) ?_
        refine ax_bipush (pc := 29) (v := (-4)) (ax_dd KX10_spread 14 rfl) (by decide) ?_
        obtain rfl := Option.some.inj h
        exact ax_ireti (pc := 31) (ax_dd KX10_spread 15 rfl) ⟨_, rfl, rfl⟩ rfl
      · rw [if_neg c7] at h
        refine ax_icmp_ne_t (pc := 26) (tgt := 32) (ax_dd KX10_spread 13 rfl) (by decide) c7 ?_
        refine ax_aload_n (pc := 32) (i := 0) (q := 0) (ax_dd KX10_spread 16 rfl) rfl rfl ?_
        refine ax_getR (pc := 33) (k := 51) (q := 52) (ax_dd KX10_spread 17 rfl) f_X10_7 (hs 51 _ rfl) rfl ?_
        refine ax_aload_n (pc := 36) (i := 0) (q := 0) (ax_dd KX10_spread 18 rfl) rfl rfl ?_
        refine ax_getI (pc := 37) (k := 51) (ax_dd KX10_spread 19 rfl) f_X10_78 (hs 51 _ rfl) rfl ?_
        refine ax_iload_n (pc := 40) (i := 1) (q := 1) (ax_dd KX10_spread 20 rfl) rfl rfl ?_
        refine ax_bipush (pc := 41) (v := 10) (ax_dd KX10_spread 21 rfl) (by decide) ?_
        refine ax_idiv (pc := 43) (ax_dd KX10_spread 22 rfl) (by decide) ?_
        obtain ⟨j8, b9, h⟩ := ob_bind h
        refine ax_ist (pc := 44) (k := 52) (N := 6) (j := j8) (ax_dd KX10_spread 23 rfl) (hs 52 _ rfl) b9 ?_
        refine ax_aload_n (pc := 45) (i := 0) (q := 0) (ax_dd KX10_spread 24 rfl) rfl rfl ?_
        refine ax_getR (pc := 46) (k := 51) (q := 53) (ax_dd KX10_spread 25 rfl) f_X10_13 (hs 51 _ rfl) rfl ?_
        refine ax_aload_n (pc := 49) (i := 0) (q := 0) (ax_dd KX10_spread 26 rfl) rfl rfl ?_
        refine ax_getI (pc := 50) (k := 51) (ax_dd KX10_spread 27 rfl) f_X10_78 (hs 51 _ rfl) rfl ?_
        refine ax_iload_n (pc := 53) (i := 1) (q := 1) (ax_dd KX10_spread 28 rfl) rfl rfl ?_
        refine ax_bipush (pc := 54) (v := 10) (ax_dd KX10_spread 29 rfl) (by decide) ?_
        refine ax_irem (pc := 56) (ax_dd KX10_spread 30 rfl) (by decide) ?_
        obtain ⟨j10, b11, h⟩ := ob_bind h
        refine ax_ist (pc := 57) (k := 53) (N := 6) (j := j10) (ax_dd KX10_spread 31 rfl) (hs 53 _ rfl) b11 ?_
        refine ax_aload_n (pc := 58) (i := 0) (q := 0) (ax_dd KX10_spread 32 rfl) rfl rfl ?_
        refine ax_getR (pc := 59) (k := 51) (q := 54) (ax_dd KX10_spread 33 rfl) f_X10_16 (hs 51 _ rfl) rfl ?_
        refine ax_iconst (pc := 62) (v := 3) (ax_dd KX10_spread 34 rfl) (by decide) ?_
        refine ax_aload_n (pc := 63) (i := 0) (q := 0) (ax_dd KX10_spread 35 rfl) rfl rfl ?_
        refine ax_getI (pc := 64) (k := 51) (ax_dd KX10_spread 36 rfl) f_X10_78 (hs 51 _ rfl) rfl ?_
        refine ax_imul (pc := 67) (ax_dd KX10_spread 37 rfl) ?_
        refine ax_iload_n (pc := 68) (i := 2) (q := 2) (ax_dd KX10_spread 38 rfl) rfl rfl ?_
        refine ax_bipush (pc := 69) (v := 100) (ax_dd KX10_spread 39 rfl) (by decide) ?_
        refine ax_idiv (pc := 71) (ax_dd KX10_spread 40 rfl) (by decide) ?_
        obtain ⟨j12, b13, h⟩ := ob_bind h
        refine ax_ist (pc := 72) (k := 54) (N := 18) (j := j12) (ax_dd KX10_spread 41 rfl) (hs 54 _ rfl) b13 ?_
        refine ax_aload_n (pc := 73) (i := 0) (q := 0) (ax_dd KX10_spread 42 rfl) rfl rfl ?_
        refine ax_getR (pc := 74) (k := 51) (q := 54) (ax_dd KX10_spread 43 rfl) f_X10_16 (hs 51 _ rfl) rfl ?_
        refine ax_iconst (pc := 77) (v := 3) (ax_dd KX10_spread 44 rfl) (by decide) ?_
        refine ax_aload_n (pc := 78) (i := 0) (q := 0) (ax_dd KX10_spread 45 rfl) rfl rfl ?_
        refine ax_getI (pc := 79) (k := 51) (ax_dd KX10_spread 46 rfl) f_X10_78 (hs 51 _ rfl) rfl ?_
        refine ax_imul (pc := 82) (ax_dd KX10_spread 47 rfl) ?_
        refine ax_iconst (pc := 83) (v := 1) (ax_dd KX10_spread 48 rfl) (by decide) ?_
        refine ax_iadd (pc := 84) (ax_dd KX10_spread 49 rfl) ?_
        refine ax_iload_n (pc := 85) (i := 2) (q := 2) (ax_dd KX10_spread 50 rfl) rfl rfl ?_
        refine ax_bipush (pc := 86) (v := 100) (ax_dd KX10_spread 51 rfl) (by decide) ?_
        refine ax_irem (pc := 88) (ax_dd KX10_spread 52 rfl) (by decide) ?_
        obtain ⟨j14, b15, h⟩ := ob_bind h
        refine ax_ist (pc := 89) (k := 54) (N := 18) (j := j14) (ax_dd KX10_spread 53 rfl) (hs 54 _ rfl) b15 ?_
        refine ax_aload_n (pc := 90) (i := 0) (q := 0) (ax_dd KX10_spread 54 rfl) rfl rfl ?_
        refine ax_getR (pc := 91) (k := 51) (q := 54) (ax_dd KX10_spread 55 rfl) f_X10_16 (hs 51 _ rfl) rfl ?_
        refine ax_iconst (pc := 94) (v := 3) (ax_dd KX10_spread 56 rfl) (by decide) ?_
        refine ax_aload_n (pc := 95) (i := 0) (q := 0) (ax_dd KX10_spread 57 rfl) rfl rfl ?_
        refine ax_getI (pc := 96) (k := 51) (ax_dd KX10_spread 58 rfl) f_X10_78 (hs 51 _ rfl) rfl ?_
        refine ax_imul (pc := 99) (ax_dd KX10_spread 59 rfl) ?_
        refine ax_iconst (pc := 100) (v := 2) (ax_dd KX10_spread 60 rfl) (by decide) ?_
        refine ax_iadd (pc := 101) (ax_dd KX10_spread 61 rfl) ?_
        refine ax_iconst (pc := 102) (v := 0) (ax_dd KX10_spread 62 rfl) (by decide) ?_
        obtain ⟨j16, b17, h⟩ := ob_bind h
        refine ax_ist (pc := 103) (k := 54) (N := 18) (j := j16) (ax_dd KX10_spread 63 rfl) (hs 54 _ rfl) b17 ?_
        refine ax_aload_n (pc := 104) (i := 0) (q := 0) (ax_dd KX10_spread 64 rfl) rfl rfl ?_
        refine ax_dup (pc := 105) (ax_dd KX10_spread 65 rfl) rfl ?_
        refine ax_getI (pc := 106) (k := 51) (ax_dd KX10_spread 66 rfl) f_X10_78 (hs 51 _ rfl) rfl ?_
        refine ax_iconst (pc := 109) (v := 1) (ax_dd KX10_spread 67 rfl) (by decide) ?_
        refine ax_iadd (pc := 110) (ax_dd KX10_spread 68 rfl) ?_
        refine ax_putI (pc := 111) (k := 51) (ax_dd KX10_spread 69 rfl) f_X10_78 ft_X10 (hs 51 _ rfl) rfl (fun _ h9 => by cases h9; rfl) rfl rfl ?_
        refine ax_aload_n (pc := 114) (i := 0) (q := 0) (ax_dd KX10_spread 70 rfl) rfl rfl ?_
        refine ax_getI (pc := 115) (k := 51) (ax_dd KX10_spread 71 rfl) f_X10_78 (hs 51 _ rfl) rfl ?_
        refine ax_iconst (pc := 118) (v := 1) (ax_dd KX10_spread 72 rfl) (by decide) ?_
        refine ax_isub (pc := 119) (ax_dd KX10_spread 73 rfl) ?_
        obtain rfl := Option.some.inj h
        exact ax_ireti (pc := 120) (ax_dd KX10_spread 74 rfl) ⟨_, rfl, rfl⟩ rfl
def m_X10_cornersOf (x1 : Int32) (μ : ax_M) : Option (Int32) :=
  (ix 18 ((3 : Int32) * x1)).bind fun j1 =>
  (ix 18 (((3 : Int32) * x1) + 1)).bind fun j3 =>
  some (((100 : Int32) * (μ 54 j1)) + (μ 54 j3))
set_option maxRecDepth 100000 in
set_option maxHeartbeats 8000000 in
theorem c_X10_cornersOf {G : ax_G} {l : Launch} {sh : List ax_E} {x1 : Int32} {μ : ax_M} (hs : ∀ (k : Nat) (e : ax_E), SHF[k]? = some e → sh[k]? = some e) {v : Int32} (h : m_X10_cornersOf x1 μ = some v) : ax_A G l yX10_cornersOf cX10_cornersOf 2 (some .int) 2 [.ref (G.1 + 51), .int x1] sh μ (some (.int v), sh, μ) := by
  refine ax_A.of false (by decide +kernel) (fun h9 => by cases h9) (Nat.le_of_ble_eq_true rfl) (?_ : ax_X G l RX10 cX10_cornersOf 2 (some .int) false 2 (some (.int v), sh, μ) 0 [(0, .ref (G.1 + 51)), (1, .int x1)] [] sh μ)
  unfold m_X10_cornersOf at h
  refine ax_bipush (pc := 0) (v := 100) (ax_dd KX10_cornersOf 0 rfl) (by decide) ?_
  refine ax_aload_n (pc := 2) (i := 0) (q := 0) (ax_dd KX10_cornersOf 1 rfl) rfl rfl ?_
  refine ax_getR (pc := 3) (k := 51) (q := 54) (ax_dd KX10_cornersOf 2 rfl) f_X10_16 (hs 51 _ rfl) rfl ?_
  refine ax_iconst (pc := 6) (v := 3) (ax_dd KX10_cornersOf 3 rfl) (by decide) ?_
  refine ax_iload_n (pc := 7) (i := 1) (q := 1) (ax_dd KX10_cornersOf 4 rfl) rfl rfl ?_
  refine ax_imul (pc := 8) (ax_dd KX10_cornersOf 5 rfl) ?_
  obtain ⟨j1, b2, h⟩ := ob_bind h
  refine ax_ild (pc := 9) (k := 54) (N := 18) (j := j1) (ax_dd KX10_cornersOf 6 rfl) (hs 54 _ rfl) b2 ?_
  refine ax_imul (pc := 10) (ax_dd KX10_cornersOf 7 rfl) ?_
  refine ax_aload_n (pc := 11) (i := 0) (q := 0) (ax_dd KX10_cornersOf 8 rfl) rfl rfl ?_
  refine ax_getR (pc := 12) (k := 51) (q := 54) (ax_dd KX10_cornersOf 9 rfl) f_X10_16 (hs 51 _ rfl) rfl ?_
  refine ax_iconst (pc := 15) (v := 3) (ax_dd KX10_cornersOf 10 rfl) (by decide) ?_
  refine ax_iload_n (pc := 16) (i := 1) (q := 1) (ax_dd KX10_cornersOf 11 rfl) rfl rfl ?_
  refine ax_imul (pc := 17) (ax_dd KX10_cornersOf 12 rfl) ?_
  refine ax_iconst (pc := 18) (v := 1) (ax_dd KX10_cornersOf 13 rfl) (by decide) ?_
  refine ax_iadd (pc := 19) (ax_dd KX10_cornersOf 14 rfl) ?_
  obtain ⟨j3, b4, h⟩ := ob_bind h
  refine ax_ild (pc := 20) (k := 54) (N := 18) (j := j3) (ax_dd KX10_cornersOf 15 rfl) (hs 54 _ rfl) b4 ?_
  refine ax_iadd (pc := 21) (ax_dd KX10_cornersOf 16 rfl) ?_
  obtain rfl := Option.some.inj h
  exact ax_ireti (pc := 22) (ax_dd KX10_cornersOf 17 rfl) ⟨_, rfl, rfl⟩ rfl
def m_X10_put_74 (x1 : Int32) (x2 : Int32) (x3 : Int32) (s0 : Int32) (μ : ax_M) : Option (Int32 × ax_M) :=
  if x2 = 0 then
    (ix 18 ((3 : Int32) * x1)).bind fun j2 =>
    (ix 18 (((3 : Int32) * x1) + 1)).bind fun j4 =>
    some (s0, ax_w (ax_w μ 54 j2 (x3 / 100)) 54 j4 (rmI x3 100))
  else
    (ix 18 (((3 : Int32) * x1) + 2)).bind fun j6 =>
    some (s0, ax_w μ 54 j6 x3)
set_option maxRecDepth 100000 in
set_option maxHeartbeats 8000000 in
theorem a_X10_put_74 {G : ax_G} {l : Launch} {sh : List ax_E} {x1 : Int32} {x2 : Int32} {x3 : Int32} {s0 : Int32} {μ : ax_M} (hs : ∀ (k : Nat) (e : ax_E), SHF[k]? = some e → sh[k]? = some e) {v : Int32 × ax_M} (h : m_X10_put_74 x1 x2 x3 s0 μ = some v) : ax_X G l RX10 cX10_put 6 (some .int) false 4 (some (.int v.1), sh, v.2) 74 [(0, .ref (G.1 + 51)), (1, .int x1), (2, .int x2), (3, .int x3)] [.int s0] sh μ := by
  unfold m_X10_put_74 at h
  refine ax_istore (pc := 74) (lv' := [(5, .int s0), (0, .ref (G.1 + 51)), (1, .int x1), (2, .int x2), (3, .int x3)]) (ax_dd KX10_put 41 rfl) (by decide) rfl ?_
  refine ax_iload_n (pc := 76) (i := 2) (q := 3) (ax_dd KX10_put 42 rfl) rfl rfl ?_
  by_cases c1 : x2 = 0
  · rw [if_pos c1] at h
    refine ax_if_ne_f (pc := 77) (tgt := 109) (ax_dd KX10_put 43 rfl) (by decide) (fun z => z c1) ?_
    refine ax_aload_n (pc := 80) (i := 0) (q := 1) (ax_dd KX10_put 44 rfl) rfl rfl ?_
    refine ax_getR (pc := 81) (k := 51) (q := 54) (ax_dd KX10_put 45 rfl) f_X10_16 (hs 51 _ rfl) rfl ?_
    refine ax_iconst (pc := 84) (v := 3) (ax_dd KX10_put 46 rfl) (by decide) ?_
    refine ax_iload_n (pc := 85) (i := 1) (q := 2) (ax_dd KX10_put 47 rfl) rfl rfl ?_
    refine ax_imul (pc := 86) (ax_dd KX10_put 48 rfl) ?_
    refine ax_iload_n (pc := 87) (i := 3) (q := 4) (ax_dd KX10_put 49 rfl) rfl rfl ?_
    refine ax_bipush (pc := 88) (v := 100) (ax_dd KX10_put 50 rfl) (by decide) ?_
    refine ax_idiv (pc := 90) (ax_dd KX10_put 51 rfl) (by decide) ?_
    obtain ⟨j2, b3, h⟩ := ob_bind h
    refine ax_ist (pc := 91) (k := 54) (N := 18) (j := j2) (ax_dd KX10_put 52 rfl) (hs 54 _ rfl) b3 ?_
    refine ax_aload_n (pc := 92) (i := 0) (q := 1) (ax_dd KX10_put 53 rfl) rfl rfl ?_
    refine ax_getR (pc := 93) (k := 51) (q := 54) (ax_dd KX10_put 54 rfl) f_X10_16 (hs 51 _ rfl) rfl ?_
    refine ax_iconst (pc := 96) (v := 3) (ax_dd KX10_put 55 rfl) (by decide) ?_
    refine ax_iload_n (pc := 97) (i := 1) (q := 2) (ax_dd KX10_put 56 rfl) rfl rfl ?_
    refine ax_imul (pc := 98) (ax_dd KX10_put 57 rfl) ?_
    refine ax_iconst (pc := 99) (v := 1) (ax_dd KX10_put 58 rfl) (by decide) ?_
    refine ax_iadd (pc := 100) (ax_dd KX10_put 59 rfl) ?_
    refine ax_iload_n (pc := 101) (i := 3) (q := 4) (ax_dd KX10_put 60 rfl) rfl rfl ?_
    refine ax_bipush (pc := 102) (v := 100) (ax_dd KX10_put 61 rfl) (by decide) ?_
    refine ax_irem (pc := 104) (ax_dd KX10_put 62 rfl) (by decide) ?_
    obtain ⟨j4, b5, h⟩ := ob_bind h
    refine ax_ist (pc := 105) (k := 54) (N := 18) (j := j4) (ax_dd KX10_put 63 rfl) (hs 54 _ rfl) b5 ?_
    refine ax_goto (pc := 106) (tgt := 120) (ax_dd KX10_put 64 rfl) (by decide) ?_
    refine ax_iload (pc := 120) (q := 0) (ax_dd KX10_put 74 rfl) rfl ?_
    obtain rfl := Option.some.inj h
    exact ax_ireti (pc := 122) (ax_dd KX10_put 75 rfl) ⟨_, rfl, rfl⟩ rfl
  · rw [if_neg c1] at h
    refine ax_if_ne_t (pc := 77) (tgt := 109) (ax_dd KX10_put 43 rfl) (by decide) c1 ?_
    refine ax_aload_n (pc := 109) (i := 0) (q := 1) (ax_dd KX10_put 65 rfl) rfl rfl ?_
    refine ax_getR (pc := 110) (k := 51) (q := 54) (ax_dd KX10_put 66 rfl) f_X10_16 (hs 51 _ rfl) rfl ?_
    refine ax_iconst (pc := 113) (v := 3) (ax_dd KX10_put 67 rfl) (by decide) ?_
    refine ax_iload_n (pc := 114) (i := 1) (q := 2) (ax_dd KX10_put 68 rfl) rfl rfl ?_
    refine ax_imul (pc := 115) (ax_dd KX10_put 69 rfl) ?_
    refine ax_iconst (pc := 116) (v := 2) (ax_dd KX10_put 70 rfl) (by decide) ?_
    refine ax_iadd (pc := 117) (ax_dd KX10_put 71 rfl) ?_
    refine ax_iload_n (pc := 118) (i := 3) (q := 4) (ax_dd KX10_put 72 rfl) rfl rfl ?_
    obtain ⟨j6, b7, h⟩ := ob_bind h
    refine ax_ist (pc := 119) (k := 54) (N := 18) (j := j6) (ax_dd KX10_put 73 rfl) (hs 54 _ rfl) b7 ?_
    refine ax_iload (pc := 120) (q := 0) (ax_dd KX10_put 74 rfl) rfl ?_
    obtain rfl := Option.some.inj h
    exact ax_ireti (pc := 122) (ax_dd KX10_put 75 rfl) ⟨_, rfl, rfl⟩ rfl
def m_X10_put_42 (x1 : Int32) (x2 : Int32) (x3 : Int32) (s0 : Int32) (μ : ax_M) : Option (Int32 × ax_M) :=
  if s0 = 0 then
    some ((-7), μ)
  else
    if x2 = 0 then
      (m_X10_cornersOf x1 μ).bind fun v3 =>
      m_X10_put_74 x1 x2 x3 v3 μ
    else
      (ix 18 (((3 : Int32) * x1) + 2)).bind fun j5 =>
      m_X10_put_74 x1 x2 x3 (μ 54 j5) μ
set_option maxRecDepth 100000 in
set_option maxHeartbeats 8000000 in
theorem a_X10_put_42 {G : ax_G} {l : Launch} {sh : List ax_E} {x1 : Int32} {x2 : Int32} {x3 : Int32} {s0 : Int32} {μ : ax_M} (hs : ∀ (k : Nat) (e : ax_E), SHF[k]? = some e → sh[k]? = some e) {v : Int32 × ax_M} (h : m_X10_put_42 x1 x2 x3 s0 μ = some v) : ax_X G l RX10 cX10_put 6 (some .int) false 4 (some (.int v.1), sh, v.2) 42 [(0, .ref (G.1 + 51)), (1, .int x1), (2, .int x2), (3, .int x3)] [.int s0] sh μ := by
  unfold m_X10_put_42 at h
  refine ax_istore (pc := 42) (lv' := [(4, .int s0), (0, .ref (G.1 + 51)), (1, .int x1), (2, .int x2), (3, .int x3)]) (ax_dd KX10_put 22 rfl) (by decide) rfl ?_
  refine ax_iload (pc := 44) (q := 0) (ax_dd KX10_put 23 rfl) rfl ?_
  by_cases c1 : s0 = 0
  · rw [if_pos c1] at h
    refine ax_if_ne_f (pc := 46) (tgt := 52) (ax_dd KX10_put 24 rfl) (by decide) (fun z => z c1) ?_
    refine ax_bipush (pc := 49) (v := (-7)) (ax_dd KX10_put 25 rfl) (by decide) ?_
    obtain rfl := Option.some.inj h
    exact ax_ireti (pc := 51) (ax_dd KX10_put 26 rfl) ⟨_, rfl, rfl⟩ rfl
  · rw [if_neg c1] at h
    refine ax_if_ne_t (pc := 46) (tgt := 52) (ax_dd KX10_put 24 rfl) (by decide) c1 ?_
    refine ax_iload_n (pc := 52) (i := 2) (q := 3) (ax_dd KX10_put 27 rfl) rfl rfl ?_
    by_cases c2 : x2 = 0
    · rw [if_pos c2] at h
      refine ax_if_ne_f (pc := 53) (tgt := 64) (ax_dd KX10_put 28 rfl) (by decide) (fun z => z c2) ?_
      refine ax_aload_n (pc := 56) (i := 0) (q := 1) (ax_dd KX10_put 29 rfl) rfl rfl ?_
      refine ax_iload_n (pc := 57) (i := 1) (q := 2) (ax_dd KX10_put 30 rfl) rfl rfl ?_
      obtain ⟨v3, b4, h⟩ := ob_bind h
      refine ax_kV (pc := 58) (ci := 10) (k := 51) (As := [.int x1]) (rest := []) (st1 := [.int v3]) (μ1 := μ) (ax_dd KX10_put 31 rfl) (c_X10_cornersOf hs b4) kV_X10_179 e_X10_cornersOf (hs 51 _ rfl) cl_X10 (by decide) rfl rfl (by decide) (by decide) (Nat.le_of_ble_eq_true rfl) rfl ?_
      refine ax_goto (pc := 61) (tgt := 74) (ax_dd KX10_put 32 rfl) (by decide) ?_
      refine ax_sub (lv' := [(0, .ref (G.1 + 51)), (1, .int x1), (2, .int x2), (3, .int x3)]) [1, 2, 3, 4] rfl ?_
      exact a_X10_put_74 hs h
    · rw [if_neg c2] at h
      refine ax_if_ne_t (pc := 53) (tgt := 64) (ax_dd KX10_put 28 rfl) (by decide) c2 ?_
      refine ax_aload_n (pc := 64) (i := 0) (q := 1) (ax_dd KX10_put 33 rfl) rfl rfl ?_
      refine ax_getR (pc := 65) (k := 51) (q := 54) (ax_dd KX10_put 34 rfl) f_X10_16 (hs 51 _ rfl) rfl ?_
      refine ax_iconst (pc := 68) (v := 3) (ax_dd KX10_put 35 rfl) (by decide) ?_
      refine ax_iload_n (pc := 69) (i := 1) (q := 2) (ax_dd KX10_put 36 rfl) rfl rfl ?_
      refine ax_imul (pc := 70) (ax_dd KX10_put 37 rfl) ?_
      refine ax_iconst (pc := 71) (v := 2) (ax_dd KX10_put 38 rfl) (by decide) ?_
      refine ax_iadd (pc := 72) (ax_dd KX10_put 39 rfl) ?_
      obtain ⟨j5, b6, h⟩ := ob_bind h
      refine ax_ild (pc := 73) (k := 54) (N := 18) (j := j5) (ax_dd KX10_put 40 rfl) (hs 54 _ rfl) b6 ?_
      refine ax_sub (lv' := [(0, .ref (G.1 + 51)), (1, .int x1), (2, .int x2), (3, .int x3)]) [1, 2, 3, 4] rfl ?_
      exact a_X10_put_74 hs h
def m_X10_put (x1 : Int32) (x2 : Int32) (x3 : Int32) (μ : ax_M) : Option (Int32 × ax_M) :=
  (m_X10_isRug x1 μ).bind fun v1 =>
  if v1 = 0 then
    some ((-5), μ)
  else
    if x2 = 0 then
      (m_X10_areCorners x3 μ).bind fun v5 =>
      m_X10_put_42 x1 x2 x3 v5 μ
    else
      if x2 = 1 then
        (m_X10_in x3 0 99 μ).bind fun v8 =>
        if v8 = 0 then
          m_X10_put_42 x1 x2 x3 0 μ
        else
          m_X10_put_42 x1 x2 x3 1 μ
      else
        m_X10_put_42 x1 x2 x3 0 μ
set_option maxRecDepth 100000 in
set_option maxHeartbeats 8000000 in
theorem c_X10_put {G : ax_G} {l : Launch} {sh : List ax_E} {x1 : Int32} {x2 : Int32} {x3 : Int32} {μ : ax_M} (hs : ∀ (k : Nat) (e : ax_E), SHF[k]? = some e → sh[k]? = some e) {v : Int32 × ax_M} (h : m_X10_put x1 x2 x3 μ = some v) : ax_A G l yX10_put cX10_put 6 (some .int) 4 [.ref (G.1 + 51), .int x1, .int x2, .int x3] sh μ (some (.int v.1), sh, v.2) := by
  refine ax_A.of false (by decide +kernel) (fun h9 => by cases h9) (Nat.le_of_ble_eq_true rfl) (?_ : ax_X G l RX10 cX10_put 6 (some .int) false 4 (some (.int v.1), sh, v.2) 0 [(0, .ref (G.1 + 51)), (1, .int x1), (2, .int x2), (3, .int x3)] [] sh μ)
  unfold m_X10_put at h
  refine ax_aload_n (pc := 0) (i := 0) (q := 0) (ax_dd KX10_put 0 rfl) rfl rfl ?_
  refine ax_iload_n (pc := 1) (i := 1) (q := 1) (ax_dd KX10_put 1 rfl) rfl rfl ?_
  obtain ⟨v1, b2, h⟩ := ob_bind h
  refine ax_kV (pc := 2) (ci := 10) (k := 51) (As := [.int x1]) (rest := []) (st1 := [.int v1]) (μ1 := μ) (ax_dd KX10_put 2 rfl) (c_X10_isRug hs b2) kV_X10_167 e_X10_isRug (hs 51 _ rfl) cl_X10 (by decide) rfl rfl (by decide) (by decide) (Nat.le_of_ble_eq_true rfl) rfl ?_
  by_cases c3 : v1 = 0
  · rw [if_pos c3] at h
    refine ax_if_ne_f (pc := 5) (tgt := 11) (ax_dd KX10_put 3 rfl) (by decide) (fun z => z c3) ?_
    refine ax_bipush (pc := 8) (v := (-5)) (ax_dd KX10_put 4 rfl) (by decide) ?_
    obtain rfl := Option.some.inj h
    exact ax_ireti (pc := 10) (ax_dd KX10_put 5 rfl) ⟨_, rfl, rfl⟩ rfl
  · rw [if_neg c3] at h
    refine ax_if_ne_t (pc := 5) (tgt := 11) (ax_dd KX10_put 3 rfl) (by decide) c3 ?_
    refine ax_iload_n (pc := 11) (i := 2) (q := 2) (ax_dd KX10_put 6 rfl) rfl rfl ?_
    by_cases c4 : x2 = 0
    · rw [if_pos c4] at h
      refine ax_if_ne_f (pc := 12) (tgt := 22) (ax_dd KX10_put 7 rfl) (by decide) (fun z => z c4) ?_
      refine ax_iload_n (pc := 15) (i := 3) (q := 3) (ax_dd KX10_put 8 rfl) rfl rfl ?_
      obtain ⟨v5, b6, h⟩ := ob_bind h
      refine ax_kS (pc := 16) (As := [.int x3]) (rest := []) (st1 := [.int v5]) (μ1 := μ) (ax_dd KX10_put 9 rfl) (c_X10_areCorners hs b6) kS_X10_176 e_X10_areCorners rfl rfl (by decide) (by decide) (Nat.le_of_ble_eq_true rfl) rfl ?_
      refine ax_goto (pc := 19) (tgt := 42) (ax_dd KX10_put 10 rfl) (by decide) ?_
      exact a_X10_put_42 hs h
    · rw [if_neg c4] at h
      refine ax_if_ne_t (pc := 12) (tgt := 22) (ax_dd KX10_put 7 rfl) (by decide) c4 ?_
      refine ax_iload_n (pc := 22) (i := 2) (q := 2) (ax_dd KX10_put 11 rfl) rfl rfl ?_
      refine ax_iconst (pc := 23) (v := 1) (ax_dd KX10_put 12 rfl) (by decide) ?_
      by_cases c7 : x2 = 1
      · rw [if_pos c7] at h
        refine ax_icmp_ne_f (pc := 24) (tgt := 41) (ax_dd KX10_put 13 rfl) (by decide) (fun z => z c7) ?_
        refine ax_iload_n (pc := 27) (i := 3) (q := 3) (ax_dd KX10_put 14 rfl) rfl rfl ?_
        refine ax_iconst (pc := 28) (v := 0) (ax_dd KX10_put 15 rfl) (by decide) ?_
        refine ax_bipush (pc := 29) (v := 99) (ax_dd KX10_put 16 rfl) (by decide) ?_
        obtain ⟨v8, b9, h⟩ := ob_bind h
        refine ax_kS (pc := 31) (As := [.int x3, .int 0, .int 99]) (rest := []) (st1 := [.int v8]) (μ1 := μ) (ax_dd KX10_put 17 rfl) (c_X10_in hs b9) kS_X10_81 e_X10_in rfl rfl (by decide) (by decide) (Nat.le_of_ble_eq_true rfl) rfl ?_
        by_cases c10 : v8 = 0
        · rw [if_pos c10] at h
          refine ax_if_eq_t (pc := 34) (tgt := 41) (ax_dd KX10_put 18 rfl) (by decide) c10 ?_
          refine ax_iconst (pc := 41) (v := 0) (ax_dd KX10_put 21 rfl) (by decide) ?_
          exact a_X10_put_42 hs h
        · rw [if_neg c10] at h
          refine ax_if_eq_f (pc := 34) (tgt := 41) (ax_dd KX10_put 18 rfl) (by decide) c10 ?_
          refine ax_iconst (pc := 37) (v := 1) (ax_dd KX10_put 19 rfl) (by decide) ?_
          refine ax_goto (pc := 38) (tgt := 42) (ax_dd KX10_put 20 rfl) (by decide) ?_
          exact a_X10_put_42 hs h
      · rw [if_neg c7] at h
        refine ax_icmp_ne_t (pc := 24) (tgt := 41) (ax_dd KX10_put 13 rfl) (by decide) c7 ?_
        refine ax_iconst (pc := 41) (v := 0) (ax_dd KX10_put 21 rfl) (by decide) ?_
        exact a_X10_put_42 hs h
