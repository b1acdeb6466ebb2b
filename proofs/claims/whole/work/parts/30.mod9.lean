def m_X10_kinds_96 (x1 : Int32) (x2 : Int32) (x3 : Int32) (x4 : Int32) (x6 : Int32) (x7 : Int32) (x8 : Int32) (x9 : Int32) (s1 : Int32) (s2 : Int32) (k62 : Int32 → Int32 → ax_M → Option (Int32 × ax_M)) (μ : ax_M) : Option (Int32 × ax_M) :=
  (ix 6 s1).bind fun j1 =>
  if x4 = 1 then
    m_X10_kinds_115 x1 x2 x3 x4 x6 x7 x8 x9 x3 x9 k62 (ax_w μ 52 j1 s2)
  else
    m_X10_kinds_115 x1 x2 x3 x4 x6 x7 x8 x9 x3 x7 k62 (ax_w μ 52 j1 s2)
set_option maxRecDepth 100000 in
set_option maxHeartbeats 8000000 in
theorem a_X10_kinds_96 {G : ax_G} {l : Launch} {sh : List ax_E} {x1 : Int32} {x2 : Int32} {x3 : Int32} {x4 : Int32} {x6 : Int32} {x7 : Int32} {x8 : Int32} {x9 : Int32} {s1 : Int32} {s2 : Int32} {k62 : Int32 → Int32 → ax_M → Option (Int32 × ax_M)} {μ : ax_M} (hs : ∀ (k : Nat) (e : ax_E), SHF[k]? = some e → sh[k]? = some e) (hk62 : ∀ (x8 : Int32) (x9 : Int32) (μ : ax_M) (v : Int32 × ax_M), k62 x8 x9 μ = some v → ax_X G l RX10 cX10_kinds 10 (some .int) false 8 (some (.int v.1), sh, v.2) 62 [(0, .ref (G.1 + 51)), (1, .int x1), (2, .int x2), (3, .int x3), (4, .int x4), (6, .int x6), (7, .int x7), (8, .int x8), (9, .int x9)] [] sh μ) {v : Int32 × ax_M} (h : m_X10_kinds_96 x1 x2 x3 x4 x6 x7 x8 x9 s1 s2 k62 μ = some v) : ax_X G l RX10 cX10_kinds 10 (some .int) false 8 (some (.int v.1), sh, v.2) 96 [(0, .ref (G.1 + 51)), (1, .int x1), (2, .int x2), (3, .int x3), (4, .int x4), (6, .int x6), (7, .int x7), (8, .int x8), (9, .int x9)] [.int s2, .int s1, .ref (G.1 + 52)] sh μ := by
  unfold m_X10_kinds_96 at h
  obtain ⟨j1, b2, h⟩ := ob_bind h
  refine ax_ist (pc := 96) (k := 52) (N := 6) (j := j1) (ax_dd KX10_kinds 51 rfl) (hs 52 _ rfl) b2 ?_
  refine ax_aload_n (pc := 97) (i := 0) (q := 0) (ax_dd KX10_kinds 52 rfl) rfl rfl ?_
  refine ax_getR (pc := 98) (k := 51) (q := 53) (ax_dd KX10_kinds 53 rfl) f_X10_13 (hs 51 _ rfl) rfl ?_
  refine ax_iload_n (pc := 101) (i := 3) (q := 3) (ax_dd KX10_kinds 54 rfl) rfl rfl ?_
  refine ax_iload (pc := 102) (q := 4) (ax_dd KX10_kinds 55 rfl) rfl ?_
  refine ax_iconst (pc := 104) (v := 1) (ax_dd KX10_kinds 56 rfl) (by decide) ?_
  by_cases c3 : x4 = 1
  · rw [if_pos c3] at h
    refine ax_icmp_ne_f (pc := 105) (tgt := 113) (ax_dd KX10_kinds 57 rfl) (by decide) (fun z => z c3) ?_
    refine ax_iload (pc := 108) (q := 8) (ax_dd KX10_kinds 58 rfl) rfl ?_
    refine ax_goto (pc := 110) (tgt := 115) (ax_dd KX10_kinds 59 rfl) (by decide) ?_
    exact a_X10_kinds_115 hs hk62 h
  · rw [if_neg c3] at h
    refine ax_icmp_ne_t (pc := 105) (tgt := 113) (ax_dd KX10_kinds 57 rfl) (by decide) c3 ?_
    refine ax_iload (pc := 113) (q := 6) (ax_dd KX10_kinds 60 rfl) rfl ?_
    exact a_X10_kinds_115 hs hk62 h
def m_X10_kinds_76 (x1 : Int32) (x2 : Int32) (x3 : Int32) (x4 : Int32) (x6 : Int32) (x7 : Int32) (x8 : Int32) (x9 : Int32) (s0 : Int32) (s1 : Int32) (k62 : Int32 → Int32 → ax_M → Option (Int32 × ax_M)) (μ : ax_M) : Option (Int32 × ax_M) :=
  if s1 ≤ s0 then
    (ix 6 x3).bind fun j2 =>
    (ix 6 x3).bind fun j4 =>
    some (x8, ax_w (ax_w μ 52 j2 x6) 53 j4 x7)
  else
    if x4 = 0 then
      m_X10_kinds_96 x1 x2 x3 x4 x6 x7 x8 x9 x3 x9 k62 μ
    else
      m_X10_kinds_96 x1 x2 x3 x4 x6 x7 x8 x9 x3 x6 k62 μ
set_option maxRecDepth 100000 in
set_option maxHeartbeats 8000000 in
theorem a_X10_kinds_76 {G : ax_G} {l : Launch} {sh : List ax_E} {x1 : Int32} {x2 : Int32} {x3 : Int32} {x4 : Int32} {x6 : Int32} {x7 : Int32} {x8 : Int32} {x9 : Int32} {s0 : Int32} {s1 : Int32} {k62 : Int32 → Int32 → ax_M → Option (Int32 × ax_M)} {μ : ax_M} (hs : ∀ (k : Nat) (e : ax_E), SHF[k]? = some e → sh[k]? = some e) (hk62 : ∀ (x8 : Int32) (x9 : Int32) (μ : ax_M) (v : Int32 × ax_M), k62 x8 x9 μ = some v → ax_X G l RX10 cX10_kinds 10 (some .int) false 8 (some (.int v.1), sh, v.2) 62 [(0, .ref (G.1 + 51)), (1, .int x1), (2, .int x2), (3, .int x3), (4, .int x4), (6, .int x6), (7, .int x7), (8, .int x8), (9, .int x9)] [] sh μ) {v : Int32 × ax_M} (h : m_X10_kinds_76 x1 x2 x3 x4 x6 x7 x8 x9 s0 s1 k62 μ = some v) : ax_X G l RX10 cX10_kinds 10 (some .int) false 8 (some (.int v.1), sh, v.2) 76 [(0, .ref (G.1 + 51)), (1, .int x1), (2, .int x2), (3, .int x3), (4, .int x4), (6, .int x6), (7, .int x7), (8, .int x8), (9, .int x9)] [.int s1, .int s0] sh μ := by
  unfold m_X10_kinds_76 at h
  by_cases c1 : s1 ≤ s0
  · rw [if_pos c1] at h
    refine ax_icmp_ge_t (pc := 76) (tgt := 145) (ax_dd KX10_kinds 42 rfl) (by decide) c1 ?_
    refine ax_aload_n (pc := 145) (i := 0) (q := 0) (ax_dd KX10_kinds 78 rfl) rfl rfl ?_
    refine ax_getR (pc := 146) (k := 51) (q := 52) (ax_dd KX10_kinds 79 rfl) f_X10_7 (hs 51 _ rfl) rfl ?_
    refine ax_iload_n (pc := 149) (i := 3) (q := 3) (ax_dd KX10_kinds 80 rfl) rfl rfl ?_
    refine ax_iload (pc := 150) (q := 5) (ax_dd KX10_kinds 81 rfl) rfl ?_
    obtain ⟨j2, b3, h⟩ := ob_bind h
    refine ax_ist (pc := 152) (k := 52) (N := 6) (j := j2) (ax_dd KX10_kinds 82 rfl) (hs 52 _ rfl) b3 ?_
    refine ax_aload_n (pc := 153) (i := 0) (q := 0) (ax_dd KX10_kinds 83 rfl) rfl rfl ?_
    refine ax_getR (pc := 154) (k := 51) (q := 53) (ax_dd KX10_kinds 84 rfl) f_X10_13 (hs 51 _ rfl) rfl ?_
    refine ax_iload_n (pc := 157) (i := 3) (q := 3) (ax_dd KX10_kinds 85 rfl) rfl rfl ?_
    refine ax_iload (pc := 158) (q := 6) (ax_dd KX10_kinds 86 rfl) rfl ?_
    obtain ⟨j4, b5, h⟩ := ob_bind h
    refine ax_ist (pc := 160) (k := 53) (N := 6) (j := j4) (ax_dd KX10_kinds 87 rfl) (hs 53 _ rfl) b5 ?_
    refine ax_iload (pc := 161) (q := 7) (ax_dd KX10_kinds 88 rfl) rfl ?_
    obtain rfl := Option.some.inj h
    exact ax_ireti (pc := 163) (ax_dd KX10_kinds 89 rfl) ⟨_, rfl, rfl⟩ rfl
  · rw [if_neg c1] at h
    refine ax_icmp_ge_f (pc := 76) (tgt := 145) (ax_dd KX10_kinds 42 rfl) (by decide) c1 ?_
    refine ax_aload_n (pc := 79) (i := 0) (q := 0) (ax_dd KX10_kinds 43 rfl) rfl rfl ?_
    refine ax_getR (pc := 80) (k := 51) (q := 52) (ax_dd KX10_kinds 44 rfl) f_X10_7 (hs 51 _ rfl) rfl ?_
    refine ax_iload_n (pc := 83) (i := 3) (q := 3) (ax_dd KX10_kinds 45 rfl) rfl rfl ?_
    refine ax_iload (pc := 84) (q := 4) (ax_dd KX10_kinds 46 rfl) rfl ?_
    by_cases c6 : x4 = 0
    · rw [if_pos c6] at h
      refine ax_if_ne_f (pc := 86) (tgt := 94) (ax_dd KX10_kinds 47 rfl) (by decide) (fun z => z c6) ?_
      refine ax_iload (pc := 89) (q := 8) (ax_dd KX10_kinds 48 rfl) rfl ?_
      refine ax_goto (pc := 91) (tgt := 96) (ax_dd KX10_kinds 49 rfl) (by decide) ?_
      exact a_X10_kinds_96 hs hk62 h
    · rw [if_neg c6] at h
      refine ax_if_ne_t (pc := 86) (tgt := 94) (ax_dd KX10_kinds 47 rfl) (by decide) c6 ?_
      refine ax_iload (pc := 94) (q := 5) (ax_dd KX10_kinds 50 rfl) rfl ?_
      exact a_X10_kinds_96 hs hk62 h
def m_X10_kinds_62 (x1 : Int32) (x2 : Int32) (x3 : Int32) (x4 : Int32) (x6 : Int32) (x7 : Int32) : Nat → Int32 → Int32 → ax_M → Option (Int32 × ax_M)
  | 0, _, _, _ => none
  | n + 1, x8, x9, μ =>
    if x4 = 0 then
      m_X10_kinds_76 x1 x2 x3 x4 x6 x7 x8 x9 x9 6 (m_X10_kinds_62 x1 x2 x3 x4 x6 x7 n) μ
    else
      m_X10_kinds_76 x1 x2 x3 x4 x6 x7 x8 x9 x9 10 (m_X10_kinds_62 x1 x2 x3 x4 x6 x7 n) μ
set_option maxRecDepth 100000 in
set_option maxHeartbeats 8000000 in
theorem a_X10_kinds_62 {G : ax_G} {l : Launch} {sh : List ax_E} {x1 : Int32} {x2 : Int32} {x3 : Int32} {x4 : Int32} {x6 : Int32} {x7 : Int32} (hs : ∀ (k : Nat) (e : ax_E), SHF[k]? = some e → sh[k]? = some e) : ∀ (n : Nat) (x8 : Int32) (x9 : Int32) (μ : ax_M) (v : Int32 × ax_M), m_X10_kinds_62 x1 x2 x3 x4 x6 x7 n x8 x9 μ = some v → ax_X G l RX10 cX10_kinds 10 (some .int) false 8 (some (.int v.1), sh, v.2) 62 [(0, .ref (G.1 + 51)), (1, .int x1), (2, .int x2), (3, .int x3), (4, .int x4), (6, .int x6), (7, .int x7), (8, .int x8), (9, .int x9)] [] sh μ := by
  intro n
  induction n with
  | zero =>
    intro x8 x9 μ v h
    rw [m_X10_kinds_62] at h
    cases h
  | succ n ih =>
    intro x8 x9 μ v h
    rw [m_X10_kinds_62] at h
    refine ax_iload (pc := 62) (q := 8) (ax_dd KX10_kinds 36 rfl) rfl ?_
    refine ax_iload (pc := 64) (q := 4) (ax_dd KX10_kinds 37 rfl) rfl ?_
    by_cases c1 : x4 = 0
    · rw [if_pos c1] at h
      refine ax_if_ne_f (pc := 66) (tgt := 74) (ax_dd KX10_kinds 38 rfl) (by decide) (fun z => z c1) ?_
      refine ax_bipush (pc := 69) (v := 6) (ax_dd KX10_kinds 39 rfl) (by decide) ?_
      refine ax_goto (pc := 71) (tgt := 76) (ax_dd KX10_kinds 40 rfl) (by decide) ?_
      exact a_X10_kinds_76 hs ih h
    · rw [if_neg c1] at h
      refine ax_if_ne_t (pc := 66) (tgt := 74) (ax_dd KX10_kinds 38 rfl) (by decide) c1 ?_
      refine ax_bipush (pc := 74) (v := 10) (ax_dd KX10_kinds 41 rfl) (by decide) ?_
      exact a_X10_kinds_76 hs ih h
def m_X10_kinds (x1 : Int32) (x2 : Int32) (x3 : Int32) (x4 : Int32) (μ : ax_M) : Option (Int32 × ax_M) :=
  (m_X10_toldWrong x1 x2 μ).bind fun v1 =>
  if v1 = 0 then
    (m_X10_isRug x3 μ).bind fun v4 =>
    if v4 = 0 then
      some ((-6), μ)
    else
      (m_X10_in x4 0 1 μ).bind fun v7 =>
      if v7 = 0 then
        some ((-7), μ)
      else
        (ix 6 x3).bind fun j10 =>
        (ix 6 x3).bind fun j12 =>
        m_X10_kinds_62 x1 x2 x3 x4 (μ 52 j10) (μ 53 j12) fu 0 0 μ
  else
    some (v1, μ)
set_option maxRecDepth 100000 in
set_option maxHeartbeats 8000000 in
theorem c_X10_kinds {G : ax_G} {l : Launch} {sh : List ax_E} {x1 : Int32} {x2 : Int32} {x3 : Int32} {x4 : Int32} {μ : ax_M} (hs : ∀ (k : Nat) (e : ax_E), SHF[k]? = some e → sh[k]? = some e) {v : Int32 × ax_M} (h : m_X10_kinds x1 x2 x3 x4 μ = some v) : ax_A G l yX10_kinds cX10_kinds 10 (some .int) 8 [.ref (G.1 + 51), .int x1, .int x2, .int x3, .int x4] sh μ (some (.int v.1), sh, v.2) := by
  refine ax_A.of false (by decide +kernel) (fun h9 => by cases h9) (Nat.le_of_ble_eq_true rfl) (?_ : ax_X G l RX10 cX10_kinds 10 (some .int) false 8 (some (.int v.1), sh, v.2) 0 [(0, .ref (G.1 + 51)), (1, .int x1), (2, .int x2), (3, .int x3), (4, .int x4)] [] sh μ)
  unfold m_X10_kinds at h
  refine ax_aload_n (pc := 0) (i := 0) (q := 0) (ax_dd KX10_kinds 0 rfl) rfl rfl ?_
  refine ax_iload_n (pc := 1) (i := 1) (q := 1) (ax_dd KX10_kinds 1 rfl) rfl rfl ?_
  refine ax_iload_n (pc := 2) (i := 2) (q := 2) (ax_dd KX10_kinds 2 rfl) rfl rfl ?_
  obtain ⟨v1, b2, h⟩ := ob_bind h
  refine ax_kV (pc := 3) (ci := 10) (k := 51) (As := [.int x1, .int x2]) (rest := []) (st1 := [.int v1]) (μ1 := μ) (ax_dd KX10_kinds 3 rfl) (c_X10_toldWrong hs b2) kV_X10_258 e_X10_toldWrong (hs 51 _ rfl) cl_X10 (by decide) rfl rfl (by decide) (by decide) (Nat.le_of_ble_eq_true rfl) rfl ?_
  refine ax_istore (pc := 6) (lv' := [(5, .int v1), (0, .ref (G.1 + 51)), (1, .int x1), (2, .int x2), (3, .int x3), (4, .int x4)]) (ax_dd KX10_kinds 4 rfl) (by decide) rfl ?_
  refine ax_iload (pc := 8) (q := 0) (ax_dd KX10_kinds 5 rfl) rfl ?_
  by_cases c3 : v1 = 0
  · rw [if_pos c3] at h
    refine ax_if_eq_t (pc := 10) (tgt := 16) (ax_dd KX10_kinds 6 rfl) (by decide) c3 ?_
    refine ax_aload_n (pc := 16) (i := 0) (q := 1) (ax_dd KX10_kinds 9 rfl) rfl rfl ?_
    refine ax_iload_n (pc := 17) (i := 3) (q := 4) (ax_dd KX10_kinds 10 rfl) rfl rfl ?_
    obtain ⟨v4, b5, h⟩ := ob_bind h
    refine ax_kV (pc := 18) (ci := 10) (k := 51) (As := [.int x3]) (rest := []) (st1 := [.int v4]) (μ1 := μ) (ax_dd KX10_kinds 11 rfl) (c_X10_isRug hs b5) kV_X10_167 e_X10_isRug (hs 51 _ rfl) cl_X10 (by decide) rfl rfl (by decide) (by decide) (Nat.le_of_ble_eq_true rfl) rfl ?_
    by_cases c6 : v4 = 0
    · rw [if_pos c6] at h
      refine ax_if_ne_f (pc := 21) (tgt := 27) (ax_dd KX10_kinds 12 rfl) (by decide) (fun z => z c6) ?_
      refine ax_bipush (pc := 24) (v := (-6)) (ax_dd KX10_kinds 13 rfl) (by decide) ?_
      obtain rfl := Option.some.inj h
      exact ax_ireti (pc := 26) (ax_dd KX10_kinds 14 rfl) ⟨_, rfl, rfl⟩ rfl
    · rw [if_neg c6] at h
      refine ax_if_ne_t (pc := 21) (tgt := 27) (ax_dd KX10_kinds 12 rfl) (by decide) c6 ?_
      refine ax_iload (pc := 27) (q := 5) (ax_dd KX10_kinds 15 rfl) rfl ?_
      refine ax_iconst (pc := 29) (v := 0) (ax_dd KX10_kinds 16 rfl) (by decide) ?_
      refine ax_iconst (pc := 30) (v := 1) (ax_dd KX10_kinds 17 rfl) (by decide) ?_
      obtain ⟨v7, b8, h⟩ := ob_bind h
      refine ax_kS (pc := 31) (As := [.int x4, .int 0, .int 1]) (rest := []) (st1 := [.int v7]) (μ1 := μ) (ax_dd KX10_kinds 18 rfl) (c_X10_in hs b8) kS_X10_81 e_X10_in rfl rfl (by decide) (by decide) (Nat.le_of_ble_eq_true rfl) rfl ?_
      by_cases c9 : v7 = 0
      · rw [if_pos c9] at h
        refine ax_if_ne_f (pc := 34) (tgt := 40) (ax_dd KX10_kinds 19 rfl) (by decide) (fun z => z c9) ?_
        refine ax_bipush (pc := 37) (v := (-7)) (ax_dd KX10_kinds 20 rfl) (by decide) ?_
        obtain rfl := Option.some.inj h
        exact ax_ireti (pc := 39) (ax_dd KX10_kinds 21 rfl) ⟨_, rfl, rfl⟩ rfl
      · rw [if_neg c9] at h
        refine ax_if_ne_t (pc := 34) (tgt := 40) (ax_dd KX10_kinds 19 rfl) (by decide) c9 ?_
        refine ax_aload_n (pc := 40) (i := 0) (q := 1) (ax_dd KX10_kinds 22 rfl) rfl rfl ?_
        refine ax_getR (pc := 41) (k := 51) (q := 52) (ax_dd KX10_kinds 23 rfl) f_X10_7 (hs 51 _ rfl) rfl ?_
        refine ax_iload_n (pc := 44) (i := 3) (q := 4) (ax_dd KX10_kinds 24 rfl) rfl rfl ?_
        obtain ⟨j10, b11, h⟩ := ob_bind h
        refine ax_ild (pc := 45) (k := 52) (N := 6) (j := j10) (ax_dd KX10_kinds 25 rfl) (hs 52 _ rfl) b11 ?_
        refine ax_istore (pc := 46) (lv' := [(6, .int (μ 52 j10)), (5, .int v1), (0, .ref (G.1 + 51)), (1, .int x1), (2, .int x2), (3, .int x3), (4, .int x4)]) (ax_dd KX10_kinds 26 rfl) (by decide) rfl ?_
        refine ax_aload_n (pc := 48) (i := 0) (q := 2) (ax_dd KX10_kinds 27 rfl) rfl rfl ?_
        refine ax_getR (pc := 49) (k := 51) (q := 53) (ax_dd KX10_kinds 28 rfl) f_X10_13 (hs 51 _ rfl) rfl ?_
        refine ax_iload_n (pc := 52) (i := 3) (q := 5) (ax_dd KX10_kinds 29 rfl) rfl rfl ?_
        obtain ⟨j12, b13, h⟩ := ob_bind h
        refine ax_ild (pc := 53) (k := 53) (N := 6) (j := j12) (ax_dd KX10_kinds 30 rfl) (hs 53 _ rfl) b13 ?_
        refine ax_istore (pc := 54) (lv' := [(7, .int (μ 53 j12)), (6, .int (μ 52 j10)), (5, .int v1), (0, .ref (G.1 + 51)), (1, .int x1), (2, .int x2), (3, .int x3), (4, .int x4)]) (ax_dd KX10_kinds 31 rfl) (by decide) rfl ?_
        refine ax_iconst (pc := 56) (v := 0) (ax_dd KX10_kinds 32 rfl) (by decide) ?_
        refine ax_istore (pc := 57) (lv' := [(8, .int 0), (7, .int (μ 53 j12)), (6, .int (μ 52 j10)), (5, .int v1), (0, .ref (G.1 + 51)), (1, .int x1), (2, .int x2), (3, .int x3), (4, .int x4)]) (ax_dd KX10_kinds 33 rfl) (by decide) rfl ?_
        refine ax_iconst (pc := 59) (v := 0) (ax_dd KX10_kinds 34 rfl) (by decide) ?_
        refine ax_istore (pc := 60) (lv' := [(9, .int 0), (8, .int 0), (7, .int (μ 53 j12)), (6, .int (μ 52 j10)), (5, .int v1), (0, .ref (G.1 + 51)), (1, .int x1), (2, .int x2), (3, .int x3), (4, .int x4)]) (ax_dd KX10_kinds 35 rfl) (by decide) rfl ?_
        refine ax_sub (lv' := [(0, .ref (G.1 + 51)), (1, .int x1), (2, .int x2), (3, .int x3), (4, .int x4), (6, .int (μ 52 j10)), (7, .int (μ 53 j12)), (8, .int 0), (9, .int 0)]) [5, 6, 7, 8, 9, 3, 2, 1, 0] rfl ?_
        exact a_X10_kinds_62 hs fu _ _ _ _ h
  · rw [if_neg c3] at h
    refine ax_if_eq_f (pc := 10) (tgt := 16) (ax_dd KX10_kinds 6 rfl) (by decide) c3 ?_
    refine ax_iload (pc := 13) (q := 0) (ax_dd KX10_kinds 7 rfl) rfl ?_
    obtain rfl := Option.some.inj h
    exact ax_ireti (pc := 15) (ax_dd KX10_kinds 8 rfl) ⟨_, rfl, rfl⟩ rfl
def m_X10_crowds_109 (x1 : Int32) (x2 : Int32) (x3 : Int32) (x4 : Int32) (x6 : Int32) (x8 : Int32) (x9 : Int32) (x10 : Int32) (s0 : Int32) (s1 : Int32) (k61 : Int32 → Int32 → Int32 → ax_M → Option (Int32 × ax_M)) (μ : ax_M) : Option (Int32 × ax_M) :=
  if x10 = 0 then
    k61 (s0 + s1) x8 (x9 + 1) μ
  else
    if x8 = (-1) then
      k61 (s0 + s1) x9 (x9 + 1) μ
    else
      k61 (s0 + s1) x8 (x9 + 1) μ
set_option maxRecDepth 100000 in
set_option maxHeartbeats 8000000 in
theorem a_X10_crowds_109 {G : ax_G} {l : Launch} {sh : List ax_E} {x1 : Int32} {x2 : Int32} {x3 : Int32} {x4 : Int32} {x6 : Int32} {x8 : Int32} {x9 : Int32} {x10 : Int32} {s0 : Int32} {s1 : Int32} {k61 : Int32 → Int32 → Int32 → ax_M → Option (Int32 × ax_M)} {μ : ax_M} (hs : ∀ (k : Nat) (e : ax_E), SHF[k]? = some e → sh[k]? = some e) (hk61 : ∀ (x7 : Int32) (x8 : Int32) (x9 : Int32) (μ : ax_M) (v : Int32 × ax_M), k61 x7 x8 x9 μ = some v → ax_X G l RX10 cX10_crowds 11 (some .int) false 8 (some (.int v.1), sh, v.2) 61 [(0, .ref (G.1 + 51)), (1, .int x1), (2, .int x2), (3, .int x3), (4, .int x4), (6, .int x6), (7, .int x7), (8, .int x8), (9, .int x9)] [] sh μ) {v : Int32 × ax_M} (h : m_X10_crowds_109 x1 x2 x3 x4 x6 x8 x9 x10 s0 s1 k61 μ = some v) : ax_X G l RX10 cX10_crowds 11 (some .int) false 8 (some (.int v.1), sh, v.2) 109 [(0, .ref (G.1 + 51)), (1, .int x1), (2, .int x2), (3, .int x3), (4, .int x4), (6, .int x6), (8, .int x8), (9, .int x9), (10, .int x10)] [.int s1, .int s0] sh μ := by
  unfold m_X10_crowds_109 at h
  refine ax_iadd (pc := 109) (ax_dd KX10_crowds 65 rfl) ?_
  refine ax_istore (pc := 110) (lv' := [(7, .int (s0 + s1)), (0, .ref (G.1 + 51)), (1, .int x1), (2, .int x2), (3, .int x3), (4, .int x4), (6, .int x6), (8, .int x8), (9, .int x9), (10, .int x10)]) (ax_dd KX10_crowds 66 rfl) (by decide) rfl ?_
  refine ax_iload (pc := 112) (q := 9) (ax_dd KX10_crowds 67 rfl) rfl ?_
  by_cases c1 : x10 = 0
  · rw [if_pos c1] at h
    refine ax_if_eq_t (pc := 114) (tgt := 128) (ax_dd KX10_crowds 68 rfl) (by decide) c1 ?_
    refine ax_iload (pc := 128) (q := 7) (ax_dd KX10_crowds 74 rfl) rfl ?_
    refine ax_istore (pc := 130) (lv' := [(8, .int x8), (7, .int (s0 + s1)), (0, .ref (G.1 + 51)), (1, .int x1), (2, .int x2), (3, .int x3), (4, .int x4), (6, .int x6), (9, .int x9), (10, .int x10)]) (ax_dd KX10_crowds 75 rfl) (by decide) rfl ?_
    refine ax_iinc (pc := 132) (q := 8) (v := (x9 + 1)) (lv' := [(9, .int (x9 + 1)), (8, .int x8), (7, .int (s0 + s1)), (0, .ref (G.1 + 51)), (1, .int x1), (2, .int x2), (3, .int x3), (4, .int x4), (6, .int x6), (10, .int x10)]) (ax_dd KX10_crowds 76 rfl) rfl rfl (by decide) rfl ?_
    refine ax_goto (pc := 135) (tgt := 61) (ax_dd KX10_crowds 77 rfl) (by decide) ?_
    refine ax_sub (lv' := [(0, .ref (G.1 + 51)), (1, .int x1), (2, .int x2), (3, .int x3), (4, .int x4), (6, .int x6), (7, .int (s0 + s1)), (8, .int x8), (9, .int (x9 + 1))]) [3, 4, 5, 6, 7, 8, 2, 1, 0] rfl ?_
    exact hk61 _ _ _ _ _ h
  · rw [if_neg c1] at h
    refine ax_if_eq_f (pc := 114) (tgt := 128) (ax_dd KX10_crowds 68 rfl) (by decide) c1 ?_
    refine ax_iload (pc := 117) (q := 7) (ax_dd KX10_crowds 69 rfl) rfl ?_
    refine ax_iconst (pc := 119) (v := (-1)) (ax_dd KX10_crowds 70 rfl) (by decide) ?_
    by_cases c2 : x8 = (-1)
    · rw [if_pos c2] at h
      refine ax_icmp_ne_f (pc := 120) (tgt := 128) (ax_dd KX10_crowds 71 rfl) (by decide) (fun z => z c2) ?_
      refine ax_iload (pc := 123) (q := 8) (ax_dd KX10_crowds 72 rfl) rfl ?_
      refine ax_goto (pc := 125) (tgt := 130) (ax_dd KX10_crowds 73 rfl) (by decide) ?_
      refine ax_istore (pc := 130) (lv' := [(8, .int x9), (7, .int (s0 + s1)), (0, .ref (G.1 + 51)), (1, .int x1), (2, .int x2), (3, .int x3), (4, .int x4), (6, .int x6), (9, .int x9), (10, .int x10)]) (ax_dd KX10_crowds 75 rfl) (by decide) rfl ?_
      refine ax_iinc (pc := 132) (q := 8) (v := (x9 + 1)) (lv' := [(9, .int (x9 + 1)), (8, .int x9), (7, .int (s0 + s1)), (0, .ref (G.1 + 51)), (1, .int x1), (2, .int x2), (3, .int x3), (4, .int x4), (6, .int x6), (10, .int x10)]) (ax_dd KX10_crowds 76 rfl) rfl rfl (by decide) rfl ?_
      refine ax_goto (pc := 135) (tgt := 61) (ax_dd KX10_crowds 77 rfl) (by decide) ?_
      refine ax_sub (lv' := [(0, .ref (G.1 + 51)), (1, .int x1), (2, .int x2), (3, .int x3), (4, .int x4), (6, .int x6), (7, .int (s0 + s1)), (8, .int x9), (9, .int (x9 + 1))]) [3, 4, 5, 6, 7, 8, 2, 1, 0] rfl ?_
      exact hk61 _ _ _ _ _ h
    · rw [if_neg c2] at h
      refine ax_icmp_ne_t (pc := 120) (tgt := 128) (ax_dd KX10_crowds 71 rfl) (by decide) c2 ?_
      refine ax_iload (pc := 128) (q := 7) (ax_dd KX10_crowds 74 rfl) rfl ?_
      refine ax_istore (pc := 130) (lv' := [(8, .int x8), (7, .int (s0 + s1)), (0, .ref (G.1 + 51)), (1, .int x1), (2, .int x2), (3, .int x3), (4, .int x4), (6, .int x6), (9, .int x9), (10, .int x10)]) (ax_dd KX10_crowds 75 rfl) (by decide) rfl ?_
      refine ax_iinc (pc := 132) (q := 8) (v := (x9 + 1)) (lv' := [(9, .int (x9 + 1)), (8, .int x8), (7, .int (s0 + s1)), (0, .ref (G.1 + 51)), (1, .int x1), (2, .int x2), (3, .int x3), (4, .int x4), (6, .int x6), (10, .int x10)]) (ax_dd KX10_crowds 76 rfl) rfl rfl (by decide) rfl ?_
      refine ax_goto (pc := 135) (tgt := 61) (ax_dd KX10_crowds 77 rfl) (by decide) ?_
      refine ax_sub (lv' := [(0, .ref (G.1 + 51)), (1, .int x1), (2, .int x2), (3, .int x3), (4, .int x4), (6, .int x6), (7, .int (s0 + s1)), (8, .int x8), (9, .int (x9 + 1))]) [3, 4, 5, 6, 7, 8, 2, 1, 0] rfl ?_
      exact hk61 _ _ _ _ _ h
def m_X10_crowds_95 (x1 : Int32) (x2 : Int32) (x3 : Int32) (x4 : Int32) (x6 : Int32) (x7 : Int32) (x8 : Int32) (x9 : Int32) (s0 : Int32) (k61 : Int32 → Int32 → Int32 → ax_M → Option (Int32 × ax_M)) (μ : ax_M) : Option (Int32 × ax_M) :=
  if s0 = 0 then
    m_X10_crowds_109 x1 x2 x3 x4 x6 x8 x9 s0 x7 0 k61 μ
  else
    m_X10_crowds_109 x1 x2 x3 x4 x6 x8 x9 s0 x7 1 k61 μ
set_option maxRecDepth 100000 in
set_option maxHeartbeats 8000000 in
theorem a_X10_crowds_95 {G : ax_G} {l : Launch} {sh : List ax_E} {x1 : Int32} {x2 : Int32} {x3 : Int32} {x4 : Int32} {x6 : Int32} {x7 : Int32} {x8 : Int32} {x9 : Int32} {s0 : Int32} {k61 : Int32 → Int32 → Int32 → ax_M → Option (Int32 × ax_M)} {μ : ax_M} (hs : ∀ (k : Nat) (e : ax_E), SHF[k]? = some e → sh[k]? = some e) (hk61 : ∀ (x7 : Int32) (x8 : Int32) (x9 : Int32) (μ : ax_M) (v : Int32 × ax_M), k61 x7 x8 x9 μ = some v → ax_X G l RX10 cX10_crowds 11 (some .int) false 8 (some (.int v.1), sh, v.2) 61 [(0, .ref (G.1 + 51)), (1, .int x1), (2, .int x2), (3, .int x3), (4, .int x4), (6, .int x6), (7, .int x7), (8, .int x8), (9, .int x9)] [] sh μ) {v : Int32 × ax_M} (h : m_X10_crowds_95 x1 x2 x3 x4 x6 x7 x8 x9 s0 k61 μ = some v) : ax_X G l RX10 cX10_crowds 11 (some .int) false 8 (some (.int v.1), sh, v.2) 95 [(0, .ref (G.1 + 51)), (1, .int x1), (2, .int x2), (3, .int x3), (4, .int x4), (6, .int x6), (7, .int x7), (8, .int x8), (9, .int x9)] [.int s0] sh μ := by
  unfold m_X10_crowds_95 at h
  refine ax_istore (pc := 95) (lv' := [(10, .int s0), (0, .ref (G.1 + 51)), (1, .int x1), (2, .int x2), (3, .int x3), (4, .int x4), (6, .int x6), (7, .int x7), (8, .int x8), (9, .int x9)]) (ax_dd KX10_crowds 58 rfl) (by decide) rfl ?_
  refine ax_iload (pc := 97) (q := 7) (ax_dd KX10_crowds 59 rfl) rfl ?_
  refine ax_iload (pc := 99) (q := 0) (ax_dd KX10_crowds 60 rfl) rfl ?_
  by_cases c1 : s0 = 0
  · rw [if_pos c1] at h
    refine ax_if_eq_t (pc := 101) (tgt := 108) (ax_dd KX10_crowds 61 rfl) (by decide) c1 ?_
    refine ax_iconst (pc := 108) (v := 0) (ax_dd KX10_crowds 64 rfl) (by decide) ?_
    refine ax_sub (lv' := [(0, .ref (G.1 + 51)), (1, .int x1), (2, .int x2), (3, .int x3), (4, .int x4), (6, .int x6), (8, .int x8), (9, .int x9), (10, .int s0)]) [1, 2, 3, 4, 5, 6, 8, 9, 0] rfl ?_
    exact a_X10_crowds_109 hs hk61 h
  · rw [if_neg c1] at h
    refine ax_if_eq_f (pc := 101) (tgt := 108) (ax_dd KX10_crowds 61 rfl) (by decide) c1 ?_
    refine ax_iconst (pc := 104) (v := 1) (ax_dd KX10_crowds 62 rfl) (by decide) ?_
    refine ax_goto (pc := 105) (tgt := 109) (ax_dd KX10_crowds 63 rfl) (by decide) ?_
    refine ax_sub (lv' := [(0, .ref (G.1 + 51)), (1, .int x1), (2, .int x2), (3, .int x3), (4, .int x4), (6, .int x6), (8, .int x8), (9, .int x9), (10, .int s0)]) [1, 2, 3, 4, 5, 6, 8, 9, 0] rfl ?_
    exact a_X10_crowds_109 hs hk61 h
def m_X10_crowds_61 (x1 : Int32) (x2 : Int32) (x3 : Int32) (x4 : Int32) (x6 : Int32) : Nat → Int32 → Int32 → Int32 → ax_M → Option (Int32 × ax_M)
  | 0, _, _, _, _ => none
  | n + 1, x7, x8, x9, μ =>
    if 99 < x9 then
      (ix 18 (((3 : Int32) * x3) + 2)).bind fun j2 =>
      if x4 = 0 then
        some (x7, ax_w μ 54 j2 x6)
      else
        some (x8, ax_w μ 54 j2 x6)
    else
      (ix 18 (((3 : Int32) * x3) + 2)).bind fun j5 =>
      bind2 (m_X10_unlike x1 x2 (ax_w μ 54 j5 x9)) fun v7 μ9 =>
      if v7 = (-1) then
        m_X10_crowds_95 x1 x2 x3 x4 x6 x7 x8 x9 1 (m_X10_crowds_61 x1 x2 x3 x4 x6 n) μ9
      else
        m_X10_crowds_95 x1 x2 x3 x4 x6 x7 x8 x9 0 (m_X10_crowds_61 x1 x2 x3 x4 x6 n) μ9
set_option maxRecDepth 100000 in
set_option maxHeartbeats 8000000 in
theorem a_X10_crowds_61 {G : ax_G} {l : Launch} {sh : List ax_E} {x1 : Int32} {x2 : Int32} {x3 : Int32} {x4 : Int32} {x6 : Int32} (hs : ∀ (k : Nat) (e : ax_E), SHF[k]? = some e → sh[k]? = some e) : ∀ (n : Nat) (x7 : Int32) (x8 : Int32) (x9 : Int32) (μ : ax_M) (v : Int32 × ax_M), m_X10_crowds_61 x1 x2 x3 x4 x6 n x7 x8 x9 μ = some v → ax_X G l RX10 cX10_crowds 11 (some .int) false 8 (some (.int v.1), sh, v.2) 61 [(0, .ref (G.1 + 51)), (1, .int x1), (2, .int x2), (3, .int x3), (4, .int x4), (6, .int x6), (7, .int x7), (8, .int x8), (9, .int x9)] [] sh μ := by
  intro n
  induction n with
  | zero =>
    intro x7 x8 x9 μ v h
    rw [m_X10_crowds_61] at h
    cases h
  | succ n ih =>
    intro x7 x8 x9 μ v h
    rw [m_X10_crowds_61] at h
    refine ax_iload (pc := 61) (q := 8) (ax_dd KX10_crowds 37 rfl) rfl ?_
    refine ax_bipush (pc := 63) (v := 99) (ax_dd KX10_crowds 38 rfl) (by decide) ?_
    by_cases c1 : 99 < x9
    · rw [if_pos c1] at h
      refine ax_icmp_gt_t (pc := 65) (tgt := 138) (ax_dd KX10_crowds 39 rfl) (by decide) c1 ?_
      refine ax_aload_n (pc := 138) (i := 0) (q := 0) (ax_dd KX10_crowds 78 rfl) rfl rfl ?_
      refine ax_getR (pc := 139) (k := 51) (q := 54) (ax_dd KX10_crowds 79 rfl) f_X10_16 (hs 51 _ rfl) rfl ?_
      refine ax_iconst (pc := 142) (v := 3) (ax_dd KX10_crowds 80 rfl) (by decide) ?_
      refine ax_iload_n (pc := 143) (i := 3) (q := 3) (ax_dd KX10_crowds 81 rfl) rfl rfl ?_
      refine ax_imul (pc := 144) (ax_dd KX10_crowds 82 rfl) ?_
      refine ax_iconst (pc := 145) (v := 2) (ax_dd KX10_crowds 83 rfl) (by decide) ?_
      refine ax_iadd (pc := 146) (ax_dd KX10_crowds 84 rfl) ?_
      refine ax_iload (pc := 147) (q := 5) (ax_dd KX10_crowds 85 rfl) rfl ?_
      obtain ⟨j2, b3, h⟩ := ob_bind h
      refine ax_ist (pc := 149) (k := 54) (N := 18) (j := j2) (ax_dd KX10_crowds 86 rfl) (hs 54 _ rfl) b3 ?_
      refine ax_iload (pc := 150) (q := 4) (ax_dd KX10_crowds 87 rfl) rfl ?_
      by_cases c4 : x4 = 0
      · rw [if_pos c4] at h
        refine ax_if_ne_f (pc := 152) (tgt := 160) (ax_dd KX10_crowds 88 rfl) (by decide) (fun z => z c4) ?_
        refine ax_iload (pc := 155) (q := 6) (ax_dd KX10_crowds 89 rfl) rfl ?_
        refine ax_goto (pc := 157) (tgt := 162) (ax_dd KX10_crowds 90 rfl) (by decide) ?_
        obtain rfl := Option.some.inj h
        exact ax_ireti (pc := 162) (ax_dd KX10_crowds 92 rfl) ⟨_, rfl, rfl⟩ rfl
      · rw [if_neg c4] at h
        refine ax_if_ne_t (pc := 152) (tgt := 160) (ax_dd KX10_crowds 88 rfl) (by decide) c4 ?_
        refine ax_iload (pc := 160) (q := 7) (ax_dd KX10_crowds 91 rfl) rfl ?_
        obtain rfl := Option.some.inj h
        exact ax_ireti (pc := 162) (ax_dd KX10_crowds 92 rfl) ⟨_, rfl, rfl⟩ rfl
    · rw [if_neg c1] at h
      refine ax_icmp_gt_f (pc := 65) (tgt := 138) (ax_dd KX10_crowds 39 rfl) (by decide) c1 ?_
      refine ax_aload_n (pc := 68) (i := 0) (q := 0) (ax_dd KX10_crowds 40 rfl) rfl rfl ?_
      refine ax_getR (pc := 69) (k := 51) (q := 54) (ax_dd KX10_crowds 41 rfl) f_X10_16 (hs 51 _ rfl) rfl ?_
      refine ax_iconst (pc := 72) (v := 3) (ax_dd KX10_crowds 42 rfl) (by decide) ?_
      refine ax_iload_n (pc := 73) (i := 3) (q := 3) (ax_dd KX10_crowds 43 rfl) rfl rfl ?_
      refine ax_imul (pc := 74) (ax_dd KX10_crowds 44 rfl) ?_
      refine ax_iconst (pc := 75) (v := 2) (ax_dd KX10_crowds 45 rfl) (by decide) ?_
      refine ax_iadd (pc := 76) (ax_dd KX10_crowds 46 rfl) ?_
      refine ax_iload (pc := 77) (q := 8) (ax_dd KX10_crowds 47 rfl) rfl ?_
      obtain ⟨j5, b6, h⟩ := ob_bind h
      refine ax_ist (pc := 79) (k := 54) (N := 18) (j := j5) (ax_dd KX10_crowds 48 rfl) (hs 54 _ rfl) b6 ?_
      refine ax_aload_n (pc := 80) (i := 0) (q := 0) (ax_dd KX10_crowds 49 rfl) rfl rfl ?_
      refine ax_iload_n (pc := 81) (i := 1) (q := 1) (ax_dd KX10_crowds 50 rfl) rfl rfl ?_
      refine ax_iload_n (pc := 82) (i := 2) (q := 2) (ax_dd KX10_crowds 51 rfl) rfl rfl ?_
      obtain ⟨v7, μ9, b8, h⟩ := ob_bind2 h
      refine ax_kV (pc := 83) (ci := 10) (k := 51) (As := [.int x1, .int x2]) (rest := []) (st1 := [.int v7]) (μ1 := μ9) (ax_dd KX10_crowds 52 rfl) (c_X10_unlike hs b8) kV_X10_261 e_X10_unlike (hs 51 _ rfl) cl_X10 (by decide) rfl rfl (by decide) (by decide) (Nat.le_of_ble_eq_true rfl) rfl ?_
      refine ax_iconst (pc := 86) (v := (-1)) (ax_dd KX10_crowds 53 rfl) (by decide) ?_
      by_cases c10 : v7 = (-1)
      · rw [if_pos c10] at h
        refine ax_icmp_ne_f (pc := 87) (tgt := 94) (ax_dd KX10_crowds 54 rfl) (by decide) (fun z => z c10) ?_
        refine ax_iconst (pc := 90) (v := 1) (ax_dd KX10_crowds 55 rfl) (by decide) ?_
        refine ax_goto (pc := 91) (tgt := 95) (ax_dd KX10_crowds 56 rfl) (by decide) ?_
        exact a_X10_crowds_95 hs ih h
      · rw [if_neg c10] at h
        refine ax_icmp_ne_t (pc := 87) (tgt := 94) (ax_dd KX10_crowds 54 rfl) (by decide) c10 ?_
        refine ax_iconst (pc := 94) (v := 0) (ax_dd KX10_crowds 57 rfl) (by decide) ?_
        exact a_X10_crowds_95 hs ih h
def m_X10_crowds (x1 : Int32) (x2 : Int32) (x3 : Int32) (x4 : Int32) (μ : ax_M) : Option (Int32 × ax_M) :=
  (m_X10_toldWrong x1 x2 μ).bind fun v1 =>
  if v1 = 0 then
    (m_X10_isRug x3 μ).bind fun v4 =>
    if v4 = 0 then
      some ((-6), μ)
    else
      (m_X10_in x4 0 1 μ).bind fun v7 =>
      if v7 = 0 then
        some ((-7), μ)
      else
        (ix 18 (((3 : Int32) * x3) + 2)).bind fun j10 =>
        m_X10_crowds_61 x1 x2 x3 x4 (μ 54 j10) fu 0 (-1) 0 μ
  else
    some (v1, μ)
set_option maxRecDepth 100000 in
set_option maxHeartbeats 8000000 in
theorem c_X10_crowds {G : ax_G} {l : Launch} {sh : List ax_E} {x1 : Int32} {x2 : Int32} {x3 : Int32} {x4 : Int32} {μ : ax_M} (hs : ∀ (k : Nat) (e : ax_E), SHF[k]? = some e → sh[k]? = some e) {v : Int32 × ax_M} (h : m_X10_crowds x1 x2 x3 x4 μ = some v) : ax_A G l yX10_crowds cX10_crowds 11 (some .int) 8 [.ref (G.1 + 51), .int x1, .int x2, .int x3, .int x4] sh μ (some (.int v.1), sh, v.2) := by
  refine ax_A.of false (by decide +kernel) (fun h9 => by cases h9) (Nat.le_of_ble_eq_true rfl) (?_ : ax_X G l RX10 cX10_crowds 11 (some .int) false 8 (some (.int v.1), sh, v.2) 0 [(0, .ref (G.1 + 51)), (1, .int x1), (2, .int x2), (3, .int x3), (4, .int x4)] [] sh μ)
  unfold m_X10_crowds at h
  refine ax_aload_n (pc := 0) (i := 0) (q := 0) (ax_dd KX10_crowds 0 rfl) rfl rfl ?_
  refine ax_iload_n (pc := 1) (i := 1) (q := 1) (ax_dd KX10_crowds 1 rfl) rfl rfl ?_
  refine ax_iload_n (pc := 2) (i := 2) (q := 2) (ax_dd KX10_crowds 2 rfl) rfl rfl ?_
  obtain ⟨v1, b2, h⟩ := ob_bind h
  refine ax_kV (pc := 3) (ci := 10) (k := 51) (As := [.int x1, .int x2]) (rest := []) (st1 := [.int v1]) (μ1 := μ) (ax_dd KX10_crowds 3 rfl) (c_X10_toldWrong hs b2) kV_X10_258 e_X10_toldWrong (hs 51 _ rfl) cl_X10 (by decide) rfl rfl (by decide) (by decide) (Nat.le_of_ble_eq_true rfl) rfl ?_
  refine ax_istore (pc := 6) (lv' := [(5, .int v1), (0, .ref (G.1 + 51)), (1, .int x1), (2, .int x2), (3, .int x3), (4, .int x4)]) (ax_dd KX10_crowds 4 rfl) (by decide) rfl ?_
  refine ax_iload (pc := 8) (q := 0) (ax_dd KX10_crowds 5 rfl) rfl ?_
  by_cases c3 : v1 = 0
  · rw [if_pos c3] at h
    refine ax_if_eq_t (pc := 10) (tgt := 16) (ax_dd KX10_crowds 6 rfl) (by decide) c3 ?_
    refine ax_aload_n (pc := 16) (i := 0) (q := 1) (ax_dd KX10_crowds 9 rfl) rfl rfl ?_
    refine ax_iload_n (pc := 17) (i := 3) (q := 4) (ax_dd KX10_crowds 10 rfl) rfl rfl ?_
    obtain ⟨v4, b5, h⟩ := ob_bind h
    refine ax_kV (pc := 18) (ci := 10) (k := 51) (As := [.int x3]) (rest := []) (st1 := [.int v4]) (μ1 := μ) (ax_dd KX10_crowds 11 rfl) (c_X10_isRug hs b5) kV_X10_167 e_X10_isRug (hs 51 _ rfl) cl_X10 (by decide) rfl rfl (by decide) (by decide) (Nat.le_of_ble_eq_true rfl) rfl ?_
    by_cases c6 : v4 = 0
    · rw [if_pos c6] at h
      refine ax_if_ne_f (pc := 21) (tgt := 27) (ax_dd KX10_crowds 12 rfl) (by decide) (fun z => z c6) ?_
      refine ax_bipush (pc := 24) (v := (-6)) (ax_dd KX10_crowds 13 rfl) (by decide) ?_
      obtain rfl := Option.some.inj h
      exact ax_ireti (pc := 26) (ax_dd KX10_crowds 14 rfl) ⟨_, rfl, rfl⟩ rfl
    · rw [if_neg c6] at h
      refine ax_if_ne_t (pc := 21) (tgt := 27) (ax_dd KX10_crowds 12 rfl) (by decide) c6 ?_
      refine ax_iload (pc := 27) (q := 5) (ax_dd KX10_crowds 15 rfl) rfl ?_
      refine ax_iconst (pc := 29) (v := 0) (ax_dd KX10_crowds 16 rfl) (by decide) ?_
      refine ax_iconst (pc := 30) (v := 1) (ax_dd KX10_crowds 17 rfl) (by decide) ?_
      obtain ⟨v7, b8, h⟩ := ob_bind h
      refine ax_kS (pc := 31) (As := [.int x4, .int 0, .int 1]) (rest := []) (st1 := [.int v7]) (μ1 := μ) (ax_dd KX10_crowds 18 rfl) (c_X10_in hs b8) kS_X10_81 e_X10_in rfl rfl (by decide) (by decide) (Nat.le_of_ble_eq_true rfl) rfl ?_
      by_cases c9 : v7 = 0
      · rw [if_pos c9] at h
        refine ax_if_ne_f (pc := 34) (tgt := 40) (ax_dd KX10_crowds 19 rfl) (by decide) (fun z => z c9) ?_
        refine ax_bipush (pc := 37) (v := (-7)) (ax_dd KX10_crowds 20 rfl) (by decide) ?_
        obtain rfl := Option.some.inj h
        exact ax_ireti (pc := 39) (ax_dd KX10_crowds 21 rfl) ⟨_, rfl, rfl⟩ rfl
      · rw [if_neg c9] at h
        refine ax_if_ne_t (pc := 34) (tgt := 40) (ax_dd KX10_crowds 19 rfl) (by decide) c9 ?_
        refine ax_aload_n (pc := 40) (i := 0) (q := 1) (ax_dd KX10_crowds 22 rfl) rfl rfl ?_
        refine ax_getR (pc := 41) (k := 51) (q := 54) (ax_dd KX10_crowds 23 rfl) f_X10_16 (hs 51 _ rfl) rfl ?_
        refine ax_iconst (pc := 44) (v := 3) (ax_dd KX10_crowds 24 rfl) (by decide) ?_
        refine ax_iload_n (pc := 45) (i := 3) (q := 4) (ax_dd KX10_crowds 25 rfl) rfl rfl ?_
        refine ax_imul (pc := 46) (ax_dd KX10_crowds 26 rfl) ?_
        refine ax_iconst (pc := 47) (v := 2) (ax_dd KX10_crowds 27 rfl) (by decide) ?_
        refine ax_iadd (pc := 48) (ax_dd KX10_crowds 28 rfl) ?_
        obtain ⟨j10, b11, h⟩ := ob_bind h
        refine ax_ild (pc := 49) (k := 54) (N := 18) (j := j10) (ax_dd KX10_crowds 29 rfl) (hs 54 _ rfl) b11 ?_
        refine ax_istore (pc := 50) (lv' := [(6, .int (μ 54 j10)), (5, .int v1), (0, .ref (G.1 + 51)), (1, .int x1), (2, .int x2), (3, .int x3), (4, .int x4)]) (ax_dd KX10_crowds 30 rfl) (by decide) rfl ?_
        refine ax_iconst (pc := 52) (v := 0) (ax_dd KX10_crowds 31 rfl) (by decide) ?_
        refine ax_istore (pc := 53) (lv' := [(7, .int 0), (6, .int (μ 54 j10)), (5, .int v1), (0, .ref (G.1 + 51)), (1, .int x1), (2, .int x2), (3, .int x3), (4, .int x4)]) (ax_dd KX10_crowds 32 rfl) (by decide) rfl ?_
        refine ax_iconst (pc := 55) (v := (-1)) (ax_dd KX10_crowds 33 rfl) (by decide) ?_
        refine ax_istore (pc := 56) (lv' := [(8, .int (-1)), (7, .int 0), (6, .int (μ 54 j10)), (5, .int v1), (0, .ref (G.1 + 51)), (1, .int x1), (2, .int x2), (3, .int x3), (4, .int x4)]) (ax_dd KX10_crowds 34 rfl) (by decide) rfl ?_
        refine ax_iconst (pc := 58) (v := 0) (ax_dd KX10_crowds 35 rfl) (by decide) ?_
        refine ax_istore (pc := 59) (lv' := [(9, .int 0), (8, .int (-1)), (7, .int 0), (6, .int (μ 54 j10)), (5, .int v1), (0, .ref (G.1 + 51)), (1, .int x1), (2, .int x2), (3, .int x3), (4, .int x4)]) (ax_dd KX10_crowds 36 rfl) (by decide) rfl ?_
        refine ax_sub (lv' := [(0, .ref (G.1 + 51)), (1, .int x1), (2, .int x2), (3, .int x3), (4, .int x4), (6, .int (μ 54 j10)), (7, .int 0), (8, .int (-1)), (9, .int 0)]) [5, 6, 7, 8, 9, 3, 2, 1, 0] rfl ?_
        exact a_X10_crowds_61 hs fu _ _ _ _ _ h
  · rw [if_neg c3] at h
    refine ax_if_eq_f (pc := 10) (tgt := 16) (ax_dd KX10_crowds 6 rfl) (by decide) c3 ?_
    refine ax_iload (pc := 13) (q := 0) (ax_dd KX10_crowds 7 rfl) rfl ?_
    obtain rfl := Option.some.inj h
    exact ax_ireti (pc := 15) (ax_dd KX10_crowds 8 rfl) ⟨_, rfl, rfl⟩ rfl
def m_X10_where_49 (x1 : Int32) (x2 : Int32) (x5 : Int32) (k24 : Int64 → Int32 → ax_M → Option (Int64 × ax_M)) : Nat → Int64 → Int32 → ax_M → Option (Int64 × ax_M)
  | 0, _, _, _ => none
  | n + 1, x3, x6, μ =>
    if 36 ≤ x6 then
      k24 x3 (x5 + 1) μ
    else
      (ix 160 (((40 : Int32) * x1) + x5)).bind fun j2 =>
      bind2 (m_X10_finedAt x6 μ) fun v4 μ6 =>
      if (μ 62 j2) = v4 then
        m_X10_where_49 x1 x2 x5 k24 n (x3 &&& (-1)) (x6 + 1) μ6
      else
        m_X10_where_49 x1 x2 x5 k24 n (x3 &&& ((shL (1 : Int64) x6) ^^^ (-1))) (x6 + 1) μ6
set_option maxRecDepth 100000 in
set_option maxHeartbeats 8000000 in
theorem a_X10_where_49 {G : ax_G} {l : Launch} {sh : List ax_E} {x1 : Int32} {x2 : Int32} {x5 : Int32} {k24 : Int64 → Int32 → ax_M → Option (Int64 × ax_M)} (hs : ∀ (k : Nat) (e : ax_E), SHF[k]? = some e → sh[k]? = some e) (hk24 : ∀ (x3 : Int64) (x5 : Int32) (μ : ax_M) (v : Int64 × ax_M), k24 x3 x5 μ = some v → ax_X G l RX10 cX10_where 7 (some .long) false 7 (some (.long v.1), sh, v.2) 24 [(0, .ref (G.1 + 51)), (1, .int x1), (2, .int x2), (3, .long x3), (5, .int x5)] [] sh μ) : ∀ (n : Nat) (x3 : Int64) (x6 : Int32) (μ : ax_M) (v : Int64 × ax_M), m_X10_where_49 x1 x2 x5 k24 n x3 x6 μ = some v → ax_X G l RX10 cX10_where 7 (some .long) false 7 (some (.long v.1), sh, v.2) 49 [(0, .ref (G.1 + 51)), (1, .int x1), (2, .int x2), (3, .long x3), (5, .int x5), (6, .int x6)] [] sh μ := by
  intro n
  induction n with
  | zero =>
    intro x3 x6 μ v h
    rw [m_X10_where_49] at h
    cases h
  | succ n ih =>
    intro x3 x6 μ v h
    rw [m_X10_where_49] at h
    refine ax_iload (pc := 49) (q := 5) (ax_dd KX10_where 27 rfl) rfl ?_
    refine ax_bipush (pc := 51) (v := 36) (ax_dd KX10_where 28 rfl) (by decide) ?_
    by_cases c1 : 36 ≤ x6
    · rw [if_pos c1] at h
      refine ax_icmp_ge_t (pc := 53) (tgt := 100) (ax_dd KX10_where 29 rfl) (by decide) c1 ?_
      refine ax_iinc (pc := 100) (q := 4) (v := (x5 + 1)) (lv' := [(5, .int (x5 + 1)), (0, .ref (G.1 + 51)), (1, .int x1), (2, .int x2), (3, .long x3), (6, .int x6)]) (ax_dd KX10_where 54 rfl) rfl rfl (by decide) rfl ?_
      refine ax_goto (pc := 103) (tgt := 24) (ax_dd KX10_where 55 rfl) (by decide) ?_
      refine ax_sub (lv' := [(0, .ref (G.1 + 51)), (1, .int x1), (2, .int x2), (3, .long x3), (5, .int (x5 + 1))]) [1, 2, 3, 4, 0] rfl ?_
      exact hk24 _ _ _ _ h
    · rw [if_neg c1] at h
      refine ax_icmp_ge_f (pc := 53) (tgt := 100) (ax_dd KX10_where 29 rfl) (by decide) c1 ?_
      refine ax_lload_n (pc := 56) (i := 3) (q := 3) (ax_dd KX10_where 30 rfl) rfl rfl ?_
      refine ax_aload_n (pc := 57) (i := 0) (q := 0) (ax_dd KX10_where 31 rfl) rfl rfl ?_
      refine ax_getR (pc := 58) (k := 51) (q := 62) (ax_dd KX10_where 32 rfl) f_X10_44 (hs 51 _ rfl) rfl ?_
      refine ax_bipush (pc := 61) (v := 40) (ax_dd KX10_where 33 rfl) (by decide) ?_
      refine ax_iload_n (pc := 63) (i := 1) (q := 1) (ax_dd KX10_where 34 rfl) rfl rfl ?_
      refine ax_imul (pc := 64) (ax_dd KX10_where 35 rfl) ?_
      refine ax_iload (pc := 65) (q := 4) (ax_dd KX10_where 36 rfl) rfl ?_
      refine ax_iadd (pc := 67) (ax_dd KX10_where 37 rfl) ?_
      obtain ⟨j2, b3, h⟩ := ob_bind h
      refine ax_ild (pc := 68) (k := 62) (N := 160) (j := j2) (ax_dd KX10_where 38 rfl) (hs 62 _ rfl) b3 ?_
      refine ax_aload_n (pc := 69) (i := 0) (q := 0) (ax_dd KX10_where 39 rfl) rfl rfl ?_
      refine ax_iload (pc := 70) (q := 5) (ax_dd KX10_where 40 rfl) rfl ?_
      obtain ⟨v4, μ6, b5, h⟩ := ob_bind2 h
      refine ax_kV (pc := 72) (ci := 10) (k := 51) (As := [.int x6]) (rest := [.int (μ 62 j2), .long x3]) (st1 := [.int v4, .int (μ 62 j2), .long x3]) (μ1 := μ6) (ax_dd KX10_where 41 rfl) (c_X10_finedAt hs b5) kV_X10_207 e_X10_finedAt (hs 51 _ rfl) cl_X10 (by decide) rfl rfl (by decide) (by decide) (Nat.le_of_ble_eq_true rfl) rfl ?_
      by_cases c7 : (μ 62 j2) = v4
      · rw [if_pos c7] at h
        refine ax_icmp_ne_f (pc := 75) (tgt := 84) (ax_dd KX10_where 42 rfl) (by decide) (fun z => z c7) ?_
        refine ax_ldc2 (pc := 78) (ax_dd KX10_where 43 rfl) c_X10_266 ?_
        refine ax_goto (pc := 81) (tgt := 92) (ax_dd KX10_where 44 rfl) (by decide) ?_
        refine ax_land (pc := 92) (ax_dd KX10_where 50 rfl) ?_
        refine ax_lstore_n (pc := 93) (i := 3) (lv' := [(3, .long (x3 &&& (-1))), (0, .ref (G.1 + 51)), (1, .int x1), (2, .int x2), (5, .int x5), (6, .int x6)]) (ax_dd KX10_where 51 rfl) rfl (by decide) rfl ?_
        refine ax_iinc (pc := 94) (q := 5) (v := (x6 + 1)) (lv' := [(6, .int (x6 + 1)), (3, .long (x3 &&& (-1))), (0, .ref (G.1 + 51)), (1, .int x1), (2, .int x2), (5, .int x5)]) (ax_dd KX10_where 52 rfl) rfl rfl (by decide) rfl ?_
        refine ax_goto (pc := 97) (tgt := 49) (ax_dd KX10_where 53 rfl) (by decide) ?_
        refine ax_sub (lv' := [(0, .ref (G.1 + 51)), (1, .int x1), (2, .int x2), (3, .long (x3 &&& (-1))), (5, .int x5), (6, .int (x6 + 1))]) [2, 3, 4, 1, 5, 0] rfl ?_
        exact ih _ _ _ _ h
      · rw [if_neg c7] at h
        refine ax_icmp_ne_t (pc := 75) (tgt := 84) (ax_dd KX10_where 42 rfl) (by decide) c7 ?_
        refine ax_lconst (pc := 84) (v := 1) (ax_dd KX10_where 45 rfl) (by decide) ?_
        refine ax_iload (pc := 85) (q := 5) (ax_dd KX10_where 46 rfl) rfl ?_
        refine ax_lshl (pc := 87) (ax_dd KX10_where 47 rfl) ?_
        refine ax_ldc2 (pc := 88) (ax_dd KX10_where 48 rfl) c_X10_266 ?_
        refine ax_lxor (pc := 91) (ax_dd KX10_where 49 rfl) ?_
        refine ax_land (pc := 92) (ax_dd KX10_where 50 rfl) ?_
        refine ax_lstore_n (pc := 93) (i := 3) (lv' := [(3, .long (x3 &&& ((shL (1 : Int64) x6) ^^^ (-1)))), (0, .ref (G.1 + 51)), (1, .int x1), (2, .int x2), (5, .int x5), (6, .int x6)]) (ax_dd KX10_where 51 rfl) rfl (by decide) rfl ?_
        refine ax_iinc (pc := 94) (q := 5) (v := (x6 + 1)) (lv' := [(6, .int (x6 + 1)), (3, .long (x3 &&& ((shL (1 : Int64) x6) ^^^ (-1)))), (0, .ref (G.1 + 51)), (1, .int x1), (2, .int x2), (5, .int x5)]) (ax_dd KX10_where 52 rfl) rfl rfl (by decide) rfl ?_
        refine ax_goto (pc := 97) (tgt := 49) (ax_dd KX10_where 53 rfl) (by decide) ?_
        refine ax_sub (lv' := [(0, .ref (G.1 + 51)), (1, .int x1), (2, .int x2), (3, .long (x3 &&& ((shL (1 : Int64) x6) ^^^ (-1)))), (5, .int x5), (6, .int (x6 + 1))]) [2, 3, 4, 1, 5, 0] rfl ?_
        exact ih _ _ _ _ h
def m_X10_where_24 (x1 : Int32) (x2 : Int32) : Nat → Int64 → Int32 → ax_M → Option (Int64 × ax_M)
  | 0, _, _, _ => none
  | n + 1, x3, x5, μ =>
    (ix 4 x1).bind fun j1 =>
    if (μ 61 j1) ≤ x5 then
      some (x3, ax_w μ 51 4 x2)
    else
      (m_X10_rulesBut (-1) (ax_w μ 51 4 x5)).bind fun μ6 =>
      m_X10_where_49 x1 x2 x5 (m_X10_where_24 x1 x2 n) fu x3 0 μ6
set_option maxRecDepth 100000 in
set_option maxHeartbeats 8000000 in
theorem a_X10_where_24 {G : ax_G} {l : Launch} {sh : List ax_E} {x1 : Int32} {x2 : Int32} (hs : ∀ (k : Nat) (e : ax_E), SHF[k]? = some e → sh[k]? = some e) : ∀ (n : Nat) (x3 : Int64) (x5 : Int32) (μ : ax_M) (v : Int64 × ax_M), m_X10_where_24 x1 x2 n x3 x5 μ = some v → ax_X G l RX10 cX10_where 7 (some .long) false 7 (some (.long v.1), sh, v.2) 24 [(0, .ref (G.1 + 51)), (1, .int x1), (2, .int x2), (3, .long x3), (5, .int x5)] [] sh μ := by
  intro n
  induction n with
  | zero =>
    intro x3 x5 μ v h
    rw [m_X10_where_24] at h
    cases h
  | succ n ih =>
    intro x3 x5 μ v h
    rw [m_X10_where_24] at h
    refine ax_iload (pc := 24) (q := 4) (ax_dd KX10_where 13 rfl) rfl ?_
    refine ax_aload_n (pc := 26) (i := 0) (q := 0) (ax_dd KX10_where 14 rfl) rfl rfl ?_
    refine ax_getR (pc := 27) (k := 51) (q := 61) (ax_dd KX10_where 15 rfl) f_X10_41 (hs 51 _ rfl) rfl ?_
    refine ax_iload_n (pc := 30) (i := 1) (q := 1) (ax_dd KX10_where 16 rfl) rfl rfl ?_
    obtain ⟨j1, b2, h⟩ := ob_bind h
    refine ax_ild (pc := 31) (k := 61) (N := 4) (j := j1) (ax_dd KX10_where 17 rfl) (hs 61 _ rfl) b2 ?_
    by_cases c3 : (μ 61 j1) ≤ x5
    · rw [if_pos c3] at h
      refine ax_icmp_ge_t (pc := 32) (tgt := 106) (ax_dd KX10_where 18 rfl) (by decide) c3 ?_
      refine ax_aload_n (pc := 106) (i := 0) (q := 0) (ax_dd KX10_where 56 rfl) rfl rfl ?_
      refine ax_iload_n (pc := 107) (i := 2) (q := 2) (ax_dd KX10_where 57 rfl) rfl rfl ?_
      refine ax_putI (pc := 108) (k := 51) (ax_dd KX10_where 58 rfl) f_X10_19 ft_X10 (hs 51 _ rfl) rfl (fun _ h9 => by cases h9; rfl) rfl rfl ?_
      refine ax_lload_n (pc := 111) (i := 3) (q := 3) (ax_dd KX10_where 59 rfl) rfl rfl ?_
      obtain rfl := Option.some.inj h
      exact ax_lret (pc := 112) (ax_dd KX10_where 60 rfl) rfl rfl
    · rw [if_neg c3] at h
      refine ax_icmp_ge_f (pc := 32) (tgt := 106) (ax_dd KX10_where 18 rfl) (by decide) c3 ?_
      refine ax_aload_n (pc := 35) (i := 0) (q := 0) (ax_dd KX10_where 19 rfl) rfl rfl ?_
      refine ax_iload (pc := 36) (q := 4) (ax_dd KX10_where 20 rfl) rfl ?_
      refine ax_putI (pc := 38) (k := 51) (ax_dd KX10_where 21 rfl) f_X10_19 ft_X10 (hs 51 _ rfl) rfl (fun _ h9 => by cases h9; rfl) rfl rfl ?_
      refine ax_aload_n (pc := 41) (i := 0) (q := 0) (ax_dd KX10_where 22 rfl) rfl rfl ?_
      refine ax_iconst (pc := 42) (v := (-1)) (ax_dd KX10_where 23 rfl) (by decide) ?_
      obtain ⟨μ6, b5, h⟩ := ob_bind h
      refine ax_kV (pc := 43) (ci := 10) (k := 51) (As := [.int (-1)]) (rest := []) (st1 := []) (μ1 := μ6) (ax_dd KX10_where 24 rfl) (c_X10_rulesBut hs b5) kV_X10_198 e_X10_rulesBut (hs 51 _ rfl) cl_X10 (by decide) rfl rfl (by decide) (by decide) (Nat.le_of_ble_eq_true rfl) rfl ?_
      refine ax_iconst (pc := 46) (v := 0) (ax_dd KX10_where 25 rfl) (by decide) ?_
      refine ax_istore (pc := 47) (lv' := [(6, .int 0), (0, .ref (G.1 + 51)), (1, .int x1), (2, .int x2), (3, .long x3), (5, .int x5)]) (ax_dd KX10_where 26 rfl) (by decide) rfl ?_
      refine ax_sub (lv' := [(0, .ref (G.1 + 51)), (1, .int x1), (2, .int x2), (3, .long x3), (5, .int x5), (6, .int 0)]) [1, 2, 3, 4, 5, 0] rfl ?_
      exact a_X10_where_49 hs ih fu _ _ _ _ h
def m_X10_where (x1 : Int32) (μ : ax_M) : Option (Int64 × ax_M) :=
  (m_X10_sheetWrong x1 μ).bind fun v1 =>
  if v1 = 0 then
    m_X10_where_24 x1 (μ 51 4) fu 68719476735 0 μ
  else
    some ((-4611686018427387904), μ)
set_option maxRecDepth 100000 in
set_option maxHeartbeats 8000000 in
theorem c_X10_where {G : ax_G} {l : Launch} {sh : List ax_E} {x1 : Int32} {μ : ax_M} (hs : ∀ (k : Nat) (e : ax_E), SHF[k]? = some e → sh[k]? = some e) {v : Int64 × ax_M} (h : m_X10_where x1 μ = some v) : ax_A G l yX10_where cX10_where 7 (some .long) 7 [.ref (G.1 + 51), .int x1] sh μ (some (.long v.1), sh, v.2) := by
  refine ax_A.of false (by decide +kernel) (fun h9 => by cases h9) (Nat.le_of_ble_eq_true rfl) (?_ : ax_X G l RX10 cX10_where 7 (some .long) false 7 (some (.long v.1), sh, v.2) 0 [(0, .ref (G.1 + 51)), (1, .int x1)] [] sh μ)
  unfold m_X10_where at h
  refine ax_aload_n (pc := 0) (i := 0) (q := 0) (ax_dd KX10_where 0 rfl) rfl rfl ?_
  refine ax_iload_n (pc := 1) (i := 1) (q := 1) (ax_dd KX10_where 1 rfl) rfl rfl ?_
  obtain ⟨v1, b2, h⟩ := ob_bind h
  refine ax_kV (pc := 2) (ci := 10) (k := 51) (As := [.int x1]) (rest := []) (st1 := [.int v1]) (μ1 := μ) (ax_dd KX10_where 2 rfl) (c_X10_sheetWrong hs b2) kV_X10_255 e_X10_sheetWrong (hs 51 _ rfl) cl_X10 (by decide) rfl rfl (by decide) (by decide) (Nat.le_of_ble_eq_true rfl) rfl ?_
  by_cases c3 : v1 = 0
  · rw [if_pos c3] at h
    refine ax_if_eq_t (pc := 5) (tgt := 12) (ax_dd KX10_where 3 rfl) (by decide) c3 ?_
    refine ax_aload_n (pc := 12) (i := 0) (q := 0) (ax_dd KX10_where 6 rfl) rfl rfl ?_
    refine ax_getI (pc := 13) (k := 51) (ax_dd KX10_where 7 rfl) f_X10_19 (hs 51 _ rfl) rfl ?_
    refine ax_istore_n (pc := 16) (i := 2) (lv' := [(2, .int (μ 51 4)), (0, .ref (G.1 + 51)), (1, .int x1)]) (ax_dd KX10_where 8 rfl) rfl (by decide) rfl ?_
    refine ax_ldc2 (pc := 17) (ax_dd KX10_where 9 rfl) c_X10_264 ?_
    refine ax_lstore_n (pc := 20) (i := 3) (lv' := [(3, .long 68719476735), (2, .int (μ 51 4)), (0, .ref (G.1 + 51)), (1, .int x1)]) (ax_dd KX10_where 10 rfl) rfl (by decide) rfl ?_
    refine ax_iconst (pc := 21) (v := 0) (ax_dd KX10_where 11 rfl) (by decide) ?_
    refine ax_istore (pc := 22) (lv' := [(5, .int 0), (3, .long 68719476735), (2, .int (μ 51 4)), (0, .ref (G.1 + 51)), (1, .int x1)]) (ax_dd KX10_where 12 rfl) (by decide) rfl ?_
    refine ax_sub (lv' := [(0, .ref (G.1 + 51)), (1, .int x1), (2, .int (μ 51 4)), (3, .long 68719476735), (5, .int 0)]) [3, 4, 2, 1, 0] rfl ?_
    exact a_X10_where_24 hs fu _ _ _ _ h
  · rw [if_neg c3] at h
    refine ax_if_eq_f (pc := 5) (tgt := 12) (ax_dd KX10_where 3 rfl) (by decide) c3 ?_
    refine ax_ldc2 (pc := 8) (ax_dd KX10_where 4 rfl) c_X10_213 ?_
    obtain rfl := Option.some.inj h
    exact ax_lret (pc := 11) (ax_dd KX10_where 5 rfl) rfl rfl
def m_X10_laws_25 (x1 : Int32) (x2 : Int32) (x4 : Int32) : Nat → Int32 → Int32 → ax_M → Option (Int32 × ax_M)
  | 0, _, _, _ => none
  | n + 1, x5, x6, μ =>
    if (μ 51 9) ≤ x6 then
      some (x5, ax_w μ 51 10 x4)
    else
      bind2 (m_X10_unlike x1 x2 (ax_w μ 51 10 x6)) fun v2 μ4 =>
      if v2 = (-1) then
        m_X10_laws_25 x1 x2 x4 n (x5 ||| (shI (1 : Int32) x6)) (x6 + 1) μ4
      else
        m_X10_laws_25 x1 x2 x4 n (x5 ||| 0) (x6 + 1) μ4
set_option maxRecDepth 100000 in
set_option maxHeartbeats 8000000 in
theorem a_X10_laws_25 {G : ax_G} {l : Launch} {sh : List ax_E} {x1 : Int32} {x2 : Int32} {x4 : Int32} (hs : ∀ (k : Nat) (e : ax_E), SHF[k]? = some e → sh[k]? = some e) : ∀ (n : Nat) (x5 : Int32) (x6 : Int32) (μ : ax_M) (v : Int32 × ax_M), m_X10_laws_25 x1 x2 x4 n x5 x6 μ = some v → ax_X G l RX10 cX10_laws 7 (some .int) false 8 (some (.int v.1), sh, v.2) 25 [(0, .ref (G.1 + 51)), (1, .int x1), (2, .int x2), (4, .int x4), (5, .int x5), (6, .int x6)] [] sh μ := by
  intro n
  induction n with
  | zero =>
    intro x5 x6 μ v h
    rw [m_X10_laws_25] at h
    cases h
  | succ n ih =>
    intro x5 x6 μ v h
    rw [m_X10_laws_25] at h
    refine ax_iload (pc := 25) (q := 5) (ax_dd KX10_laws 16 rfl) rfl ?_
    refine ax_aload_n (pc := 27) (i := 0) (q := 0) (ax_dd KX10_laws 17 rfl) rfl rfl ?_
    refine ax_getI (pc := 28) (k := 51) (ax_dd KX10_laws 18 rfl) f_X10_89 (hs 51 _ rfl) rfl ?_
    by_cases c1 : (μ 51 9) ≤ x6
    · rw [if_pos c1] at h
      refine ax_icmp_ge_t (pc := 31) (tgt := 69) (ax_dd KX10_laws 19 rfl) (by decide) c1 ?_
      refine ax_aload_n (pc := 69) (i := 0) (q := 0) (ax_dd KX10_laws 39 rfl) rfl rfl ?_
      refine ax_iload (pc := 70) (q := 3) (ax_dd KX10_laws 40 rfl) rfl ?_
      refine ax_putI (pc := 72) (k := 51) (ax_dd KX10_laws 41 rfl) f_X10_92 ft_X10 (hs 51 _ rfl) rfl (fun _ h9 => by cases h9; rfl) rfl rfl ?_
      refine ax_iload (pc := 75) (q := 4) (ax_dd KX10_laws 42 rfl) rfl ?_
      obtain rfl := Option.some.inj h
      exact ax_ireti (pc := 77) (ax_dd KX10_laws 43 rfl) ⟨_, rfl, rfl⟩ rfl
    · rw [if_neg c1] at h
      refine ax_icmp_ge_f (pc := 31) (tgt := 69) (ax_dd KX10_laws 19 rfl) (by decide) c1 ?_
      refine ax_aload_n (pc := 34) (i := 0) (q := 0) (ax_dd KX10_laws 20 rfl) rfl rfl ?_
      refine ax_iload (pc := 35) (q := 5) (ax_dd KX10_laws 21 rfl) rfl ?_
      refine ax_putI (pc := 37) (k := 51) (ax_dd KX10_laws 22 rfl) f_X10_92 ft_X10 (hs 51 _ rfl) rfl (fun _ h9 => by cases h9; rfl) rfl rfl ?_
      refine ax_iload (pc := 40) (q := 4) (ax_dd KX10_laws 23 rfl) rfl ?_
      refine ax_aload_n (pc := 42) (i := 0) (q := 0) (ax_dd KX10_laws 24 rfl) rfl rfl ?_
      refine ax_iload_n (pc := 43) (i := 1) (q := 1) (ax_dd KX10_laws 25 rfl) rfl rfl ?_
      refine ax_iload_n (pc := 44) (i := 2) (q := 2) (ax_dd KX10_laws 26 rfl) rfl rfl ?_
      obtain ⟨v2, μ4, b3, h⟩ := ob_bind2 h
      refine ax_kV (pc := 45) (ci := 10) (k := 51) (As := [.int x1, .int x2]) (rest := [.int x5]) (st1 := [.int v2, .int x5]) (μ1 := μ4) (ax_dd KX10_laws 27 rfl) (c_X10_unlike hs b3) kV_X10_261 e_X10_unlike (hs 51 _ rfl) cl_X10 (by decide) rfl rfl (by decide) (by decide) (Nat.le_of_ble_eq_true rfl) rfl ?_
      refine ax_iconst (pc := 48) (v := (-1)) (ax_dd KX10_laws 28 rfl) (by decide) ?_
      by_cases c5 : v2 = (-1)
      · rw [if_pos c5] at h
        refine ax_icmp_ne_f (pc := 49) (tgt := 59) (ax_dd KX10_laws 29 rfl) (by decide) (fun z => z c5) ?_
        refine ax_iconst (pc := 52) (v := 1) (ax_dd KX10_laws 30 rfl) (by decide) ?_
        refine ax_iload (pc := 53) (q := 5) (ax_dd KX10_laws 31 rfl) rfl ?_
        refine ax_ishl (pc := 55) (ax_dd KX10_laws 32 rfl) ?_
        refine ax_goto (pc := 56) (tgt := 60) (ax_dd KX10_laws 33 rfl) (by decide) ?_
        refine ax_ior (pc := 60) (ax_dd KX10_laws 35 rfl) ?_
        refine ax_istore (pc := 61) (lv' := [(5, .int (x5 ||| (shI (1 : Int32) x6))), (0, .ref (G.1 + 51)), (1, .int x1), (2, .int x2), (4, .int x4), (6, .int x6)]) (ax_dd KX10_laws 36 rfl) (by decide) rfl ?_
        refine ax_iinc (pc := 63) (q := 5) (v := (x6 + 1)) (lv' := [(6, .int (x6 + 1)), (5, .int (x5 ||| (shI (1 : Int32) x6))), (0, .ref (G.1 + 51)), (1, .int x1), (2, .int x2), (4, .int x4)]) (ax_dd KX10_laws 37 rfl) rfl rfl (by decide) rfl ?_
        refine ax_goto (pc := 66) (tgt := 25) (ax_dd KX10_laws 38 rfl) (by decide) ?_
        refine ax_sub (lv' := [(0, .ref (G.1 + 51)), (1, .int x1), (2, .int x2), (4, .int x4), (5, .int (x5 ||| (shI (1 : Int32) x6))), (6, .int (x6 + 1))]) [2, 3, 4, 5, 1, 0] rfl ?_
        exact ih _ _ _ _ h
      · rw [if_neg c5] at h
        refine ax_icmp_ne_t (pc := 49) (tgt := 59) (ax_dd KX10_laws 29 rfl) (by decide) c5 ?_
        refine ax_iconst (pc := 59) (v := 0) (ax_dd KX10_laws 34 rfl) (by decide) ?_
        refine ax_ior (pc := 60) (ax_dd KX10_laws 35 rfl) ?_
        refine ax_istore (pc := 61) (lv' := [(5, .int (x5 ||| 0)), (0, .ref (G.1 + 51)), (1, .int x1), (2, .int x2), (4, .int x4), (6, .int x6)]) (ax_dd KX10_laws 36 rfl) (by decide) rfl ?_
        refine ax_iinc (pc := 63) (q := 5) (v := (x6 + 1)) (lv' := [(6, .int (x6 + 1)), (5, .int (x5 ||| 0)), (0, .ref (G.1 + 51)), (1, .int x1), (2, .int x2), (4, .int x4)]) (ax_dd KX10_laws 37 rfl) rfl rfl (by decide) rfl ?_
        refine ax_goto (pc := 66) (tgt := 25) (ax_dd KX10_laws 38 rfl) (by decide) ?_
        refine ax_sub (lv' := [(0, .ref (G.1 + 51)), (1, .int x1), (2, .int x2), (4, .int x4), (5, .int (x5 ||| 0)), (6, .int (x6 + 1))]) [2, 3, 4, 5, 1, 0] rfl ?_
        exact ih _ _ _ _ h
def m_X10_laws (x1 : Int32) (x2 : Int32) (μ : ax_M) : Option (Int32 × ax_M) :=
  (m_X10_toldWrong x1 x2 μ).bind fun v1 =>
  if v1 = 0 then
    m_X10_laws_25 x1 x2 (μ 51 10) fu 0 0 μ
  else
    some (v1, μ)
set_option maxRecDepth 100000 in
set_option maxHeartbeats 8000000 in
theorem c_X10_laws {G : ax_G} {l : Launch} {sh : List ax_E} {x1 : Int32} {x2 : Int32} {μ : ax_M} (hs : ∀ (k : Nat) (e : ax_E), SHF[k]? = some e → sh[k]? = some e) {v : Int32 × ax_M} (h : m_X10_laws x1 x2 μ = some v) : ax_A G l yX10_laws cX10_laws 7 (some .int) 8 [.ref (G.1 + 51), .int x1, .int x2] sh μ (some (.int v.1), sh, v.2) := by
  refine ax_A.of false (by decide +kernel) (fun h9 => by cases h9) (Nat.le_of_ble_eq_true rfl) (?_ : ax_X G l RX10 cX10_laws 7 (some .int) false 8 (some (.int v.1), sh, v.2) 0 [(0, .ref (G.1 + 51)), (1, .int x1), (2, .int x2)] [] sh μ)
  unfold m_X10_laws at h
  refine ax_aload_n (pc := 0) (i := 0) (q := 0) (ax_dd KX10_laws 0 rfl) rfl rfl ?_
  refine ax_iload_n (pc := 1) (i := 1) (q := 1) (ax_dd KX10_laws 1 rfl) rfl rfl ?_
  refine ax_iload_n (pc := 2) (i := 2) (q := 2) (ax_dd KX10_laws 2 rfl) rfl rfl ?_
  obtain ⟨v1, b2, h⟩ := ob_bind h
  refine ax_kV (pc := 3) (ci := 10) (k := 51) (As := [.int x1, .int x2]) (rest := []) (st1 := [.int v1]) (μ1 := μ) (ax_dd KX10_laws 3 rfl) (c_X10_toldWrong hs b2) kV_X10_258 e_X10_toldWrong (hs 51 _ rfl) cl_X10 (by decide) rfl rfl (by decide) (by decide) (Nat.le_of_ble_eq_true rfl) rfl ?_
  refine ax_istore_n (pc := 6) (i := 3) (lv' := [(3, .int v1), (0, .ref (G.1 + 51)), (1, .int x1), (2, .int x2)]) (ax_dd KX10_laws 4 rfl) rfl (by decide) rfl ?_
  refine ax_iload_n (pc := 7) (i := 3) (q := 0) (ax_dd KX10_laws 5 rfl) rfl rfl ?_
  by_cases c3 : v1 = 0
  · rw [if_pos c3] at h
    refine ax_if_eq_t (pc := 8) (tgt := 13) (ax_dd KX10_laws 6 rfl) (by decide) c3 ?_
    refine ax_aload_n (pc := 13) (i := 0) (q := 1) (ax_dd KX10_laws 9 rfl) rfl rfl ?_
    refine ax_getI (pc := 14) (k := 51) (ax_dd KX10_laws 10 rfl) f_X10_92 (hs 51 _ rfl) rfl ?_
    refine ax_istore (pc := 17) (lv' := [(4, .int (μ 51 10)), (3, .int v1), (0, .ref (G.1 + 51)), (1, .int x1), (2, .int x2)]) (ax_dd KX10_laws 11 rfl) (by decide) rfl ?_
    refine ax_iconst (pc := 19) (v := 0) (ax_dd KX10_laws 12 rfl) (by decide) ?_
    refine ax_istore (pc := 20) (lv' := [(5, .int 0), (4, .int (μ 51 10)), (3, .int v1), (0, .ref (G.1 + 51)), (1, .int x1), (2, .int x2)]) (ax_dd KX10_laws 13 rfl) (by decide) rfl ?_
    refine ax_iconst (pc := 22) (v := 0) (ax_dd KX10_laws 14 rfl) (by decide) ?_
    refine ax_istore (pc := 23) (lv' := [(6, .int 0), (5, .int 0), (4, .int (μ 51 10)), (3, .int v1), (0, .ref (G.1 + 51)), (1, .int x1), (2, .int x2)]) (ax_dd KX10_laws 15 rfl) (by decide) rfl ?_
    refine ax_sub (lv' := [(0, .ref (G.1 + 51)), (1, .int x1), (2, .int x2), (4, .int (μ 51 10)), (5, .int 0), (6, .int 0)]) [4, 5, 6, 2, 1, 0] rfl ?_
    exact a_X10_laws_25 hs fu _ _ _ _ h
  · rw [if_neg c3] at h
    refine ax_if_eq_f (pc := 8) (tgt := 13) (ax_dd KX10_laws 6 rfl) (by decide) c3 ?_
    refine ax_iload_n (pc := 11) (i := 3) (q := 0) (ax_dd KX10_laws 7 rfl) rfl rfl ?_
    obtain rfl := Option.some.inj h
    exact ax_ireti (pc := 12) (ax_dd KX10_laws 8 rfl) ⟨_, rfl, rfl⟩ rfl
def m_X10_film_58 (x1 : Int32) (x2 : Int32) (x3 : Int32) (x4 : Int32) : Nat → Int32 → ax_M → Option (Int32 × ax_M)
  | 0, _, _ => none
  | n + 1, x5, μ =>
    if 40 ≤ x5 then
      some (x3, ax_w μ 51 4 x4)
    else
      (ix 160 (((40 : Int32) * x1) + x5)).bind fun j2 =>
      if x3 ≤ x5 then
        m_X10_film_58 x1 x2 x3 x4 n (x5 + 1) (ax_w μ 62 j2 0)
      else
        (m_X10_rulesBut (-1) (ax_w (ax_w μ 62 j2 0) 51 4 x5)).bind fun μ7 =>
        bind2 (m_X10_finedAt x2 μ7) fun v8 μ10 =>
        (ix 160 (((40 : Int32) * x1) + x5)).bind fun j11 =>
        m_X10_film_58 x1 x2 x3 x4 n (x5 + 1) (ax_w μ10 62 j11 v8)
set_option maxRecDepth 100000 in
set_option maxHeartbeats 8000000 in
theorem a_X10_film_58 {G : ax_G} {l : Launch} {sh : List ax_E} {x1 : Int32} {x2 : Int32} {x3 : Int32} {x4 : Int32} (hs : ∀ (k : Nat) (e : ax_E), SHF[k]? = some e → sh[k]? = some e) : ∀ (n : Nat) (x5 : Int32) (μ : ax_M) (v : Int32 × ax_M), m_X10_film_58 x1 x2 x3 x4 n x5 μ = some v → ax_X G l RX10 cX10_film 6 (some .int) false 7 (some (.int v.1), sh, v.2) 58 [(0, .ref (G.1 + 51)), (1, .int x1), (2, .int x2), (3, .int x3), (4, .int x4), (5, .int x5)] [] sh μ := by
  intro n
  induction n with
  | zero =>
    intro x5 μ v h
    rw [m_X10_film_58] at h
    cases h
  | succ n ih =>
    intro x5 μ v h
    rw [m_X10_film_58] at h
    refine ax_iload (pc := 58) (q := 5) (ax_dd KX10_film 34 rfl) rfl ?_
    refine ax_bipush (pc := 60) (v := 40) (ax_dd KX10_film 35 rfl) (by decide) ?_
    by_cases c1 : 40 ≤ x5
    · rw [if_pos c1] at h
      refine ax_icmp_ge_t (pc := 62) (tgt := 118) (ax_dd KX10_film 36 rfl) (by decide) c1 ?_
      refine ax_aload_n (pc := 118) (i := 0) (q := 0) (ax_dd KX10_film 68 rfl) rfl rfl ?_
      refine ax_iload (pc := 119) (q := 4) (ax_dd KX10_film 69 rfl) rfl ?_
      refine ax_putI (pc := 121) (k := 51) (ax_dd KX10_film 70 rfl) f_X10_19 ft_X10 (hs 51 _ rfl) rfl (fun _ h9 => by cases h9; rfl) rfl rfl ?_
      refine ax_iload_n (pc := 124) (i := 3) (q := 3) (ax_dd KX10_film 71 rfl) rfl rfl ?_
      obtain rfl := Option.some.inj h
      exact ax_ireti (pc := 125) (ax_dd KX10_film 72 rfl) ⟨_, rfl, rfl⟩ rfl
    · rw [if_neg c1] at h
      refine ax_icmp_ge_f (pc := 62) (tgt := 118) (ax_dd KX10_film 36 rfl) (by decide) c1 ?_
      refine ax_aload_n (pc := 65) (i := 0) (q := 0) (ax_dd KX10_film 37 rfl) rfl rfl ?_
      refine ax_getR (pc := 66) (k := 51) (q := 62) (ax_dd KX10_film 38 rfl) f_X10_44 (hs 51 _ rfl) rfl ?_
      refine ax_bipush (pc := 69) (v := 40) (ax_dd KX10_film 39 rfl) (by decide) ?_
      refine ax_iload_n (pc := 71) (i := 1) (q := 1) (ax_dd KX10_film 40 rfl) rfl rfl ?_
      refine ax_imul (pc := 72) (ax_dd KX10_film 41 rfl) ?_
      refine ax_iload (pc := 73) (q := 5) (ax_dd KX10_film 42 rfl) rfl ?_
      refine ax_iadd (pc := 75) (ax_dd KX10_film 43 rfl) ?_
      refine ax_iconst (pc := 76) (v := 0) (ax_dd KX10_film 44 rfl) (by decide) ?_
      obtain ⟨j2, b3, h⟩ := ob_bind h
      refine ax_ist (pc := 77) (k := 62) (N := 160) (j := j2) (ax_dd KX10_film 45 rfl) (hs 62 _ rfl) b3 ?_
      refine ax_iload (pc := 78) (q := 5) (ax_dd KX10_film 46 rfl) rfl ?_
      refine ax_iload_n (pc := 80) (i := 3) (q := 3) (ax_dd KX10_film 47 rfl) rfl rfl ?_
      by_cases c4 : x3 ≤ x5
      · rw [if_pos c4] at h
        refine ax_icmp_ge_t (pc := 81) (tgt := 112) (ax_dd KX10_film 48 rfl) (by decide) c4 ?_
        refine ax_iinc (pc := 112) (q := 5) (v := (x5 + 1)) (lv' := [(5, .int (x5 + 1)), (0, .ref (G.1 + 51)), (1, .int x1), (2, .int x2), (3, .int x3), (4, .int x4)]) (ax_dd KX10_film 66 rfl) rfl rfl (by decide) rfl ?_
        refine ax_goto (pc := 115) (tgt := 58) (ax_dd KX10_film 67 rfl) (by decide) ?_
        refine ax_sub (lv' := [(0, .ref (G.1 + 51)), (1, .int x1), (2, .int x2), (3, .int x3), (4, .int x4), (5, .int (x5 + 1))]) [1, 2, 3, 4, 5, 0] rfl ?_
        exact ih _ _ _ h
      · rw [if_neg c4] at h
        refine ax_icmp_ge_f (pc := 81) (tgt := 112) (ax_dd KX10_film 48 rfl) (by decide) c4 ?_
        refine ax_aload_n (pc := 84) (i := 0) (q := 0) (ax_dd KX10_film 49 rfl) rfl rfl ?_
        refine ax_iload (pc := 85) (q := 5) (ax_dd KX10_film 50 rfl) rfl ?_
        refine ax_putI (pc := 87) (k := 51) (ax_dd KX10_film 51 rfl) f_X10_19 ft_X10 (hs 51 _ rfl) rfl (fun _ h9 => by cases h9; rfl) rfl rfl ?_
        refine ax_aload_n (pc := 90) (i := 0) (q := 0) (ax_dd KX10_film 52 rfl) rfl rfl ?_
        refine ax_iconst (pc := 91) (v := (-1)) (ax_dd KX10_film 53 rfl) (by decide) ?_
        obtain ⟨μ7, b6, h⟩ := ob_bind h
        refine ax_kV (pc := 92) (ci := 10) (k := 51) (As := [.int (-1)]) (rest := []) (st1 := []) (μ1 := μ7) (ax_dd KX10_film 54 rfl) (c_X10_rulesBut hs b6) kV_X10_198 e_X10_rulesBut (hs 51 _ rfl) cl_X10 (by decide) rfl rfl (by decide) (by decide) (Nat.le_of_ble_eq_true rfl) rfl ?_
        refine ax_aload_n (pc := 95) (i := 0) (q := 0) (ax_dd KX10_film 55 rfl) rfl rfl ?_
        refine ax_getR (pc := 96) (k := 51) (q := 62) (ax_dd KX10_film 56 rfl) f_X10_44 (hs 51 _ rfl) rfl ?_
        refine ax_bipush (pc := 99) (v := 40) (ax_dd KX10_film 57 rfl) (by decide) ?_
        refine ax_iload_n (pc := 101) (i := 1) (q := 1) (ax_dd KX10_film 58 rfl) rfl rfl ?_
        refine ax_imul (pc := 102) (ax_dd KX10_film 59 rfl) ?_
        refine ax_iload (pc := 103) (q := 5) (ax_dd KX10_film 60 rfl) rfl ?_
        refine ax_iadd (pc := 105) (ax_dd KX10_film 61 rfl) ?_
        refine ax_aload_n (pc := 106) (i := 0) (q := 0) (ax_dd KX10_film 62 rfl) rfl rfl ?_
        refine ax_iload_n (pc := 107) (i := 2) (q := 2) (ax_dd KX10_film 63 rfl) rfl rfl ?_
        obtain ⟨v8, μ10, b9, h⟩ := ob_bind2 h
        refine ax_kV (pc := 108) (ci := 10) (k := 51) (As := [.int x2]) (rest := [.int (((40 : Int32) * x1) + x5), .ref (G.1 + 62)]) (st1 := [.int v8, .int (((40 : Int32) * x1) + x5), .ref (G.1 + 62)]) (μ1 := μ10) (ax_dd KX10_film 64 rfl) (c_X10_finedAt hs b9) kV_X10_207 e_X10_finedAt (hs 51 _ rfl) cl_X10 (by decide) rfl rfl (by decide) (by decide) (Nat.le_of_ble_eq_true rfl) rfl ?_
        obtain ⟨j11, b12, h⟩ := ob_bind h
        refine ax_ist (pc := 111) (k := 62) (N := 160) (j := j11) (ax_dd KX10_film 65 rfl) (hs 62 _ rfl) b12 ?_
        refine ax_iinc (pc := 112) (q := 5) (v := (x5 + 1)) (lv' := [(5, .int (x5 + 1)), (0, .ref (G.1 + 51)), (1, .int x1), (2, .int x2), (3, .int x3), (4, .int x4)]) (ax_dd KX10_film 66 rfl) rfl rfl (by decide) rfl ?_
        refine ax_goto (pc := 115) (tgt := 58) (ax_dd KX10_film 67 rfl) (by decide) ?_
        refine ax_sub (lv' := [(0, .ref (G.1 + 51)), (1, .int x1), (2, .int x2), (3, .int x3), (4, .int x4), (5, .int (x5 + 1))]) [1, 2, 3, 4, 5, 0] rfl ?_
        exact ih _ _ _ h
def m_X10_film (x1 : Int32) (x2 : Int32) (x3 : Int32) (μ : ax_M) : Option (Int32 × ax_M) :=
  (m_X10_in x1 0 3 μ).bind fun v1 =>
  if v1 = 0 then
    some ((-2), μ)
  else
    (m_X10_isCell x2 μ).bind fun v4 =>
    if v4 = 0 then
      some ((-5), μ)
    else
      (m_X10_in x3 0 24 μ).bind fun v7 =>
      if v7 = 0 then
        some ((-7), μ)
      else
        (ix 4 x1).bind fun j10 =>
        (ix 4 x1).bind fun j12 =>
        m_X10_film_58 x1 x2 x3 (μ 51 4) fu 0 (ax_w (ax_w μ 60 j10 1) 61 j12 x3)
set_option maxRecDepth 100000 in
set_option maxHeartbeats 8000000 in
theorem c_X10_film {G : ax_G} {l : Launch} {sh : List ax_E} {x1 : Int32} {x2 : Int32} {x3 : Int32} {μ : ax_M} (hs : ∀ (k : Nat) (e : ax_E), SHF[k]? = some e → sh[k]? = some e) {v : Int32 × ax_M} (h : m_X10_film x1 x2 x3 μ = some v) : ax_A G l yX10_film cX10_film 6 (some .int) 7 [.ref (G.1 + 51), .int x1, .int x2, .int x3] sh μ (some (.int v.1), sh, v.2) := by
  refine ax_A.of false (by decide +kernel) (fun h9 => by cases h9) (Nat.le_of_ble_eq_true rfl) (?_ : ax_X G l RX10 cX10_film 6 (some .int) false 7 (some (.int v.1), sh, v.2) 0 [(0, .ref (G.1 + 51)), (1, .int x1), (2, .int x2), (3, .int x3)] [] sh μ)
  unfold m_X10_film at h
  refine ax_iload_n (pc := 0) (i := 1) (q := 1) (ax_dd KX10_film 0 rfl) rfl rfl ?_
  refine ax_iconst (pc := 1) (v := 0) (ax_dd KX10_film 1 rfl) (by decide) ?_
  refine ax_iconst (pc := 2) (v := 3) (ax_dd KX10_film 2 rfl) (by decide) ?_
  obtain ⟨v1, b2, h⟩ := ob_bind h
  refine ax_kS (pc := 3) (As := [.int x1, .int 0, .int 3]) (rest := []) (st1 := [.int v1]) (μ1 := μ) (ax_dd KX10_film 3 rfl) (c_X10_in hs b2) kS_X10_81 e_X10_in rfl rfl (by decide) (by decide) (Nat.le_of_ble_eq_true rfl) rfl ?_
  by_cases c3 : v1 = 0
  · rw [if_pos c3] at h
    refine ax_if_ne_f (pc := 6) (tgt := 12) (ax_dd KX10_film 4 rfl) (by decide) (fun z => z c3) ?_
    refine ax_bipush (pc := 9) (v := (-2)) (ax_dd KX10_film 5 rfl) (by decide) ?_
    obtain rfl := Option.some.inj h
    exact ax_ireti (pc := 11) (ax_dd KX10_film 6 rfl) ⟨_, rfl, rfl⟩ rfl
  · rw [if_neg c3] at h
    refine ax_if_ne_t (pc := 6) (tgt := 12) (ax_dd KX10_film 4 rfl) (by decide) c3 ?_
    refine ax_iload_n (pc := 12) (i := 2) (q := 2) (ax_dd KX10_film 7 rfl) rfl rfl ?_
    obtain ⟨v4, b5, h⟩ := ob_bind h
    refine ax_kS (pc := 13) (As := [.int x2]) (rest := []) (st1 := [.int v4]) (μ1 := μ) (ax_dd KX10_film 8 rfl) (c_X10_isCell hs b5) kS_X10_170 e_X10_isCell rfl rfl (by decide) (by decide) (Nat.le_of_ble_eq_true rfl) rfl ?_
    by_cases c6 : v4 = 0
    · rw [if_pos c6] at h
      refine ax_if_ne_f (pc := 16) (tgt := 22) (ax_dd KX10_film 9 rfl) (by decide) (fun z => z c6) ?_
      refine ax_bipush (pc := 19) (v := (-5)) (ax_dd KX10_film 10 rfl) (by decide) ?_
      obtain rfl := Option.some.inj h
      exact ax_ireti (pc := 21) (ax_dd KX10_film 11 rfl) ⟨_, rfl, rfl⟩ rfl
    · rw [if_neg c6] at h
      refine ax_if_ne_t (pc := 16) (tgt := 22) (ax_dd KX10_film 9 rfl) (by decide) c6 ?_
      refine ax_iload_n (pc := 22) (i := 3) (q := 3) (ax_dd KX10_film 12 rfl) rfl rfl ?_
      refine ax_iconst (pc := 23) (v := 0) (ax_dd KX10_film 13 rfl) (by decide) ?_
      refine ax_bipush (pc := 24) (v := 24) (ax_dd KX10_film 14 rfl) (by decide) ?_
      obtain ⟨v7, b8, h⟩ := ob_bind h
      refine ax_kS (pc := 26) (As := [.int x3, .int 0, .int 24]) (rest := []) (st1 := [.int v7]) (μ1 := μ) (ax_dd KX10_film 15 rfl) (c_X10_in hs b8) kS_X10_81 e_X10_in rfl rfl (by decide) (by decide) (Nat.le_of_ble_eq_true rfl) rfl ?_
      by_cases c9 : v7 = 0
      · rw [if_pos c9] at h
        refine ax_if_ne_f (pc := 29) (tgt := 35) (ax_dd KX10_film 16 rfl) (by decide) (fun z => z c9) ?_
        refine ax_bipush (pc := 32) (v := (-7)) (ax_dd KX10_film 17 rfl) (by decide) ?_
        obtain rfl := Option.some.inj h
        exact ax_ireti (pc := 34) (ax_dd KX10_film 18 rfl) ⟨_, rfl, rfl⟩ rfl
      · rw [if_neg c9] at h
        refine ax_if_ne_t (pc := 29) (tgt := 35) (ax_dd KX10_film 16 rfl) (by decide) c9 ?_
        refine ax_aload_n (pc := 35) (i := 0) (q := 0) (ax_dd KX10_film 19 rfl) rfl rfl ?_
        refine ax_getI (pc := 36) (k := 51) (ax_dd KX10_film 20 rfl) f_X10_19 (hs 51 _ rfl) rfl ?_
        refine ax_istore (pc := 39) (lv' := [(4, .int (μ 51 4)), (0, .ref (G.1 + 51)), (1, .int x1), (2, .int x2), (3, .int x3)]) (ax_dd KX10_film 21 rfl) (by decide) rfl ?_
        refine ax_aload_n (pc := 41) (i := 0) (q := 1) (ax_dd KX10_film 22 rfl) rfl rfl ?_
        refine ax_getR (pc := 42) (k := 51) (q := 60) (ax_dd KX10_film 23 rfl) f_X10_38 (hs 51 _ rfl) rfl ?_
        refine ax_iload_n (pc := 45) (i := 1) (q := 2) (ax_dd KX10_film 24 rfl) rfl rfl ?_
        refine ax_iconst (pc := 46) (v := 1) (ax_dd KX10_film 25 rfl) (by decide) ?_
        obtain ⟨j10, b11, h⟩ := ob_bind h
        refine ax_ist (pc := 47) (k := 60) (N := 4) (j := j10) (ax_dd KX10_film 26 rfl) (hs 60 _ rfl) b11 ?_
        refine ax_aload_n (pc := 48) (i := 0) (q := 1) (ax_dd KX10_film 27 rfl) rfl rfl ?_
        refine ax_getR (pc := 49) (k := 51) (q := 61) (ax_dd KX10_film 28 rfl) f_X10_41 (hs 51 _ rfl) rfl ?_
        refine ax_iload_n (pc := 52) (i := 1) (q := 2) (ax_dd KX10_film 29 rfl) rfl rfl ?_
        refine ax_iload_n (pc := 53) (i := 3) (q := 4) (ax_dd KX10_film 30 rfl) rfl rfl ?_
        obtain ⟨j12, b13, h⟩ := ob_bind h
        refine ax_ist (pc := 54) (k := 61) (N := 4) (j := j12) (ax_dd KX10_film 31 rfl) (hs 61 _ rfl) b13 ?_
        refine ax_iconst (pc := 55) (v := 0) (ax_dd KX10_film 32 rfl) (by decide) ?_
        refine ax_istore (pc := 56) (lv' := [(5, .int 0), (4, .int (μ 51 4)), (0, .ref (G.1 + 51)), (1, .int x1), (2, .int x2), (3, .int x3)]) (ax_dd KX10_film 33 rfl) (by decide) rfl ?_
        refine ax_sub (lv' := [(0, .ref (G.1 + 51)), (1, .int x1), (2, .int x2), (3, .int x3), (4, .int (μ 51 4)), (5, .int 0)]) [2, 3, 4, 5, 1, 0] rfl ?_
        exact a_X10_film_58 hs fu _ _ _ h
def m_X10_walksBy_124 (x2 : Int32) (x3 : Int64) (x5 : Int32) (x6 : Int32) (s1 : Int32) (s2 : Int32) (k32 : Int64 → Int32 → ax_M → Option (ax_M)) (μ : ax_M) : Option (ax_M) :=
  k32 x3 (x5 + 1) (ax_w (ax_w μ 51 32 (s1 + s2)) 51 36 x6)
set_option maxRecDepth 100000 in
set_option maxHeartbeats 8000000 in
theorem a_X10_walksBy_124 {G : ax_G} {l : Launch} {sh : List ax_E} {x2 : Int32} {x3 : Int64} {x5 : Int32} {x6 : Int32} {s1 : Int32} {s2 : Int32} {k32 : Int64 → Int32 → ax_M → Option (ax_M)} {μ : ax_M} (hs : ∀ (k : Nat) (e : ax_E), SHF[k]? = some e → sh[k]? = some e) (hk32 : ∀ (x3 : Int64) (x5 : Int32) (μ : ax_M) (v : ax_M), k32 x3 x5 μ = some v → ax_X G l RX10 cX10_walksBy 7 none false 7 (none, sh, v) 32 [(0, .ref (G.1 + 51)), (2, .int x2), (3, .long x3), (5, .int x5)] [] sh μ) {v : ax_M} (h : m_X10_walksBy_124 x2 x3 x5 x6 s1 s2 k32 μ = some v) : ax_X G l RX10 cX10_walksBy 7 none false 7 (none, sh, v) 124 [(0, .ref (G.1 + 51)), (2, .int x2), (3, .long x3), (5, .int x5), (6, .int x6)] [.int s2, .int s1, .ref (G.1 + 51)] sh μ := by
  unfold m_X10_walksBy_124 at h
  refine ax_iadd (pc := 124) (ax_dd KX10_walksBy 71 rfl) ?_
  refine ax_putI (pc := 125) (k := 51) (ax_dd KX10_walksBy 72 rfl) f_X10_224 ft_X10 (hs 51 _ rfl) rfl (fun _ h9 => by cases h9; rfl) rfl rfl ?_
  refine ax_aload_n (pc := 128) (i := 0) (q := 0) (ax_dd KX10_walksBy 73 rfl) rfl rfl ?_
  refine ax_iload (pc := 129) (q := 4) (ax_dd KX10_walksBy 74 rfl) rfl ?_
  refine ax_putI (pc := 131) (k := 51) (ax_dd KX10_walksBy 75 rfl) f_X10_268 ft_X10 (hs 51 _ rfl) rfl (fun _ h9 => by cases h9; rfl) rfl rfl ?_
  refine ax_iinc (pc := 134) (q := 3) (v := (x5 + 1)) (lv' := [(5, .int (x5 + 1)), (0, .ref (G.1 + 51)), (2, .int x2), (3, .long x3), (6, .int x6)]) (ax_dd KX10_walksBy 76 rfl) rfl rfl (by decide) rfl ?_
  refine ax_goto (pc := 137) (tgt := 32) (ax_dd KX10_walksBy 77 rfl) (by decide) ?_
  refine ax_sub (lv' := [(0, .ref (G.1 + 51)), (2, .int x2), (3, .long x3), (5, .int (x5 + 1))]) [1, 2, 3, 0] rfl ?_
  exact hk32 _ _ _ _ h
def m_X10_walksBy_32 (x2 : Int32) : Nat → Int64 → Int32 → ax_M → Option (ax_M)
  | 0, _, _, _ => none
  | n + 1, x3, x5, μ =>
    if (rmI x2 100) ≤ x5 then
      some μ
    else
      (m_X10_besideOf (μ 51 36) ((rmL (rmL (x3 * 48271) 2147483647) 4).toInt32) μ).bind fun v2 =>
      bind2 (m_X10_finedAt (μ 51 36) μ) fun v4 μ6 =>
      if v2 = (-1) then
        m_X10_walksBy_32 x2 n (rmL (x3 * 48271) 2147483647) (x5 + 1) (ax_w μ6 51 31 ((μ 51 31) + v4))
      else
        (ix 36 ((ax_w μ6 51 31 ((μ 51 31) + v4)) 51 36)).bind fun j8 =>
        (m_X10_within v2 0 35 (ax_w μ6 51 31 ((μ 51 31) + v4))).bind fun v10 =>
        (ix 36 v10).bind fun j12 =>
        if ((ax_w μ6 51 31 ((μ 51 31) + v4)) 68 j8) = ((ax_w μ6 51 31 ((μ 51 31) + v4)) 68 j12) then
          m_X10_walksBy_124 x2 (rmL (x3 * 48271) 2147483647) x5 v2 ((ax_w μ6 51 31 ((μ 51 31) + v4)) 51 32) 0 (m_X10_walksBy_32 x2 n) (ax_w μ6 51 31 ((μ 51 31) + v4))
        else
          m_X10_walksBy_124 x2 (rmL (x3 * 48271) 2147483647) x5 v2 ((ax_w μ6 51 31 ((μ 51 31) + v4)) 51 32) 1 (m_X10_walksBy_32 x2 n) (ax_w μ6 51 31 ((μ 51 31) + v4))
set_option maxRecDepth 100000 in
set_option maxHeartbeats 8000000 in
theorem a_X10_walksBy_32 {G : ax_G} {l : Launch} {sh : List ax_E} {x2 : Int32} (hs : ∀ (k : Nat) (e : ax_E), SHF[k]? = some e → sh[k]? = some e) : ∀ (n : Nat) (x3 : Int64) (x5 : Int32) (μ : ax_M) (v : ax_M), m_X10_walksBy_32 x2 n x3 x5 μ = some v → ax_X G l RX10 cX10_walksBy 7 none false 7 (none, sh, v) 32 [(0, .ref (G.1 + 51)), (2, .int x2), (3, .long x3), (5, .int x5)] [] sh μ := by
  intro n
  induction n with
  | zero =>
    intro x3 x5 μ v h
    rw [m_X10_walksBy_32] at h
    cases h
  | succ n ih =>
    intro x3 x5 μ v h
    rw [m_X10_walksBy_32] at h
    refine ax_iload (pc := 32) (q := 3) (ax_dd KX10_walksBy 21 rfl) rfl ?_
    refine ax_iload_n (pc := 34) (i := 2) (q := 1) (ax_dd KX10_walksBy 22 rfl) rfl rfl ?_
    refine ax_bipush (pc := 35) (v := 100) (ax_dd KX10_walksBy 23 rfl) (by decide) ?_
    refine ax_irem (pc := 37) (ax_dd KX10_walksBy 24 rfl) (by decide) ?_
    by_cases c1 : (rmI x2 100) ≤ x5
    · rw [if_pos c1] at h
      refine ax_icmp_ge_t (pc := 38) (tgt := 140) (ax_dd KX10_walksBy 25 rfl) (by decide) c1 ?_
      obtain rfl := Option.some.inj h
      exact ax_vret (pc := 140) (ax_dd KX10_walksBy 78 rfl) rfl rfl
    · rw [if_neg c1] at h
      refine ax_icmp_ge_f (pc := 38) (tgt := 140) (ax_dd KX10_walksBy 25 rfl) (by decide) c1 ?_
      refine ax_lload_n (pc := 41) (i := 3) (q := 2) (ax_dd KX10_walksBy 26 rfl) rfl rfl ?_
      refine ax_ldc2 (pc := 42) (ax_dd KX10_walksBy 27 rfl) c_X10_271 ?_
      refine ax_lmul (pc := 45) (ax_dd KX10_walksBy 28 rfl) ?_
      refine ax_ldc2 (pc := 46) (ax_dd KX10_walksBy 29 rfl) c_X10_273 ?_
      refine ax_lrem (pc := 49) (ax_dd KX10_walksBy 30 rfl) (by decide) ?_
      refine ax_lstore_n (pc := 50) (i := 3) (lv' := [(3, .long (rmL (x3 * 48271) 2147483647)), (0, .ref (G.1 + 51)), (2, .int x2), (5, .int x5)]) (ax_dd KX10_walksBy 31 rfl) rfl (by decide) rfl ?_
      refine ax_aload_n (pc := 51) (i := 0) (q := 1) (ax_dd KX10_walksBy 32 rfl) rfl rfl ?_
      refine ax_getI (pc := 52) (k := 51) (ax_dd KX10_walksBy 33 rfl) f_X10_268 (hs 51 _ rfl) rfl ?_
      refine ax_lload_n (pc := 55) (i := 3) (q := 0) (ax_dd KX10_walksBy 34 rfl) rfl rfl ?_
      refine ax_ldc2 (pc := 56) (ax_dd KX10_walksBy 35 rfl) c_X10_275 ?_
      refine ax_lrem (pc := 59) (ax_dd KX10_walksBy 36 rfl) (by decide) ?_
      refine ax_l2i (pc := 60) (ax_dd KX10_walksBy 37 rfl) ?_
      obtain ⟨v2, b3, h⟩ := ob_bind h
      refine ax_kS (pc := 61) (As := [.int (μ 51 36), .int ((rmL (rmL (x3 * 48271) 2147483647) 4).toInt32)]) (rest := []) (st1 := [.int v2]) (μ1 := μ) (ax_dd KX10_walksBy 38 rfl) (c_X10_besideOf hs b3) kS_X10_236 e_X10_besideOf rfl rfl (by decide) (by decide) (Nat.le_of_ble_eq_true rfl) rfl ?_
      refine ax_istore (pc := 64) (lv' := [(6, .int v2), (3, .long (rmL (x3 * 48271) 2147483647)), (0, .ref (G.1 + 51)), (2, .int x2), (5, .int x5)]) (ax_dd KX10_walksBy 39 rfl) (by decide) rfl ?_
      refine ax_aload_n (pc := 66) (i := 0) (q := 2) (ax_dd KX10_walksBy 40 rfl) rfl rfl ?_
      refine ax_dup (pc := 67) (ax_dd KX10_walksBy 41 rfl) rfl ?_
      refine ax_getI (pc := 68) (k := 51) (ax_dd KX10_walksBy 42 rfl) f_X10_221 (hs 51 _ rfl) rfl ?_
      refine ax_aload_n (pc := 71) (i := 0) (q := 2) (ax_dd KX10_walksBy 43 rfl) rfl rfl ?_
      refine ax_aload_n (pc := 72) (i := 0) (q := 2) (ax_dd KX10_walksBy 44 rfl) rfl rfl ?_
      refine ax_getI (pc := 73) (k := 51) (ax_dd KX10_walksBy 45 rfl) f_X10_268 (hs 51 _ rfl) rfl ?_
      obtain ⟨v4, μ6, b5, h⟩ := ob_bind2 h
      refine ax_kV (pc := 76) (ci := 10) (k := 51) (As := [.int (μ 51 36)]) (rest := [.int (μ 51 31), .ref (G.1 + 51)]) (st1 := [.int v4, .int (μ 51 31), .ref (G.1 + 51)]) (μ1 := μ6) (ax_dd KX10_walksBy 46 rfl) (c_X10_finedAt hs b5) kV_X10_207 e_X10_finedAt (hs 51 _ rfl) cl_X10 (by decide) rfl rfl (by decide) (by decide) (Nat.le_of_ble_eq_true rfl) rfl ?_
      refine ax_iadd (pc := 79) (ax_dd KX10_walksBy 47 rfl) ?_
      refine ax_putI (pc := 80) (k := 51) (ax_dd KX10_walksBy 48 rfl) f_X10_221 ft_X10 (hs 51 _ rfl) rfl (fun _ h9 => by cases h9; rfl) rfl rfl ?_
      refine ax_iload (pc := 83) (q := 0) (ax_dd KX10_walksBy 49 rfl) rfl ?_
      refine ax_iconst (pc := 85) (v := (-1)) (ax_dd KX10_walksBy 50 rfl) (by decide) ?_
      by_cases c7 : v2 = (-1)
      · rw [if_pos c7] at h
        refine ax_icmp_eq_t (pc := 86) (tgt := 134) (ax_dd KX10_walksBy 51 rfl) (by decide) c7 ?_
        refine ax_iinc (pc := 134) (q := 4) (v := (x5 + 1)) (lv' := [(5, .int (x5 + 1)), (6, .int v2), (3, .long (rmL (x3 * 48271) 2147483647)), (0, .ref (G.1 + 51)), (2, .int x2)]) (ax_dd KX10_walksBy 76 rfl) rfl rfl (by decide) rfl ?_
        refine ax_goto (pc := 137) (tgt := 32) (ax_dd KX10_walksBy 77 rfl) (by decide) ?_
        refine ax_sub (lv' := [(0, .ref (G.1 + 51)), (2, .int x2), (3, .long (rmL (x3 * 48271) 2147483647)), (5, .int (x5 + 1))]) [3, 4, 2, 0] rfl ?_
        exact ih _ _ _ _ h
      · rw [if_neg c7] at h
        refine ax_icmp_eq_f (pc := 86) (tgt := 134) (ax_dd KX10_walksBy 51 rfl) (by decide) c7 ?_
        refine ax_aload_n (pc := 89) (i := 0) (q := 2) (ax_dd KX10_walksBy 52 rfl) rfl rfl ?_
        refine ax_dup (pc := 90) (ax_dd KX10_walksBy 53 rfl) rfl ?_
        refine ax_getI (pc := 91) (k := 51) (ax_dd KX10_walksBy 54 rfl) f_X10_224 (hs 51 _ rfl) rfl ?_
        refine ax_aload_n (pc := 94) (i := 0) (q := 2) (ax_dd KX10_walksBy 55 rfl) rfl rfl ?_
        refine ax_getR (pc := 95) (k := 51) (q := 68) (ax_dd KX10_walksBy 56 rfl) f_X10_62 (hs 51 _ rfl) rfl ?_
        refine ax_aload_n (pc := 98) (i := 0) (q := 2) (ax_dd KX10_walksBy 57 rfl) rfl rfl ?_
        refine ax_getI (pc := 99) (k := 51) (ax_dd KX10_walksBy 58 rfl) f_X10_268 (hs 51 _ rfl) rfl ?_
        obtain ⟨j8, b9, h⟩ := ob_bind h
        refine ax_ild (pc := 102) (k := 68) (N := 36) (j := j8) (ax_dd KX10_walksBy 59 rfl) (hs 68 _ rfl) b9 ?_
        refine ax_aload_n (pc := 103) (i := 0) (q := 2) (ax_dd KX10_walksBy 60 rfl) rfl rfl ?_
        refine ax_getR (pc := 104) (k := 51) (q := 68) (ax_dd KX10_walksBy 61 rfl) f_X10_62 (hs 51 _ rfl) rfl ?_
        refine ax_iload (pc := 107) (q := 0) (ax_dd KX10_walksBy 62 rfl) rfl ?_
        refine ax_iconst (pc := 109) (v := 0) (ax_dd KX10_walksBy 63 rfl) (by decide) ?_
        refine ax_bipush (pc := 110) (v := 35) (ax_dd KX10_walksBy 64 rfl) (by decide) ?_
        obtain ⟨v10, b11, h⟩ := ob_bind h
        refine ax_kS (pc := 112) (As := [.int v2, .int 0, .int 35]) (rest := [.ref (G.1 + 68), .int ((ax_w μ6 51 31 ((μ 51 31) + v4)) 68 j8), .int ((ax_w μ6 51 31 ((μ 51 31) + v4)) 51 32), .ref (G.1 + 51)]) (st1 := [.int v10, .ref (G.1 + 68), .int ((ax_w μ6 51 31 ((μ 51 31) + v4)) 68 j8), .int ((ax_w μ6 51 31 ((μ 51 31) + v4)) 51 32), .ref (G.1 + 51)]) (μ1 := ax_w μ6 51 31 ((μ 51 31) + v4)) (ax_dd KX10_walksBy 65 rfl) (c_X10_within hs b11) kS_X10_164 e_X10_within rfl rfl (by decide) (by decide) (Nat.le_of_ble_eq_true rfl) rfl ?_
        obtain ⟨j12, b13, h⟩ := ob_bind h
        refine ax_ild (pc := 115) (k := 68) (N := 36) (j := j12) (ax_dd KX10_walksBy 66 rfl) (hs 68 _ rfl) b13 ?_
        by_cases c14 : ((ax_w μ6 51 31 ((μ 51 31) + v4)) 68 j8) = ((ax_w μ6 51 31 ((μ 51 31) + v4)) 68 j12)
        · rw [if_pos c14] at h
          refine ax_icmp_eq_t (pc := 116) (tgt := 123) (ax_dd KX10_walksBy 67 rfl) (by decide) c14 ?_
          refine ax_iconst (pc := 123) (v := 0) (ax_dd KX10_walksBy 70 rfl) (by decide) ?_
          refine ax_sub (lv' := [(0, .ref (G.1 + 51)), (2, .int x2), (3, .long (rmL (x3 * 48271) 2147483647)), (5, .int x5), (6, .int v2)]) [2, 3, 1, 4, 0] rfl ?_
          exact a_X10_walksBy_124 hs ih h
        · rw [if_neg c14] at h
          refine ax_icmp_eq_f (pc := 116) (tgt := 123) (ax_dd KX10_walksBy 67 rfl) (by decide) c14 ?_
          refine ax_iconst (pc := 119) (v := 1) (ax_dd KX10_walksBy 68 rfl) (by decide) ?_
          refine ax_goto (pc := 120) (tgt := 124) (ax_dd KX10_walksBy 69 rfl) (by decide) ?_
          refine ax_sub (lv' := [(0, .ref (G.1 + 51)), (2, .int x2), (3, .long (rmL (x3 * 48271) 2147483647)), (5, .int x5), (6, .int v2)]) [2, 3, 1, 4, 0] rfl ?_
          exact a_X10_walksBy_124 hs ih h
