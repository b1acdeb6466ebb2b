def m_X9_crowds_44 (x1 : Int32) (x2 : Int32) (x3 : Int32) (x4 : Int32) (μ : ax_M) : Option (Int32 × ax_M) :=
  (ix 6 x3).bind fun j1 =>
  m_X9_crowds_65 x1 x2 x3 x4 (μ 31 j1) fu 0 (-1) 99 μ
set_option maxRecDepth 100000 in
set_option maxHeartbeats 8000000 in
theorem a_X9_crowds_44 {G : ax_G} {l : Launch} {sh : List ax_E} {x1 : Int32} {x2 : Int32} {x3 : Int32} {x4 : Int32} {μ : ax_M} (hs : ∀ (k : Nat) (e : ax_E), SHc[k]? = some e → sh[k]? = some e) {v : Int32 × ax_M} (h : m_X9_crowds_44 x1 x2 x3 x4 μ = some v) : ax_X G l RX9 cX9_crowds 10 (some .int) false 8 (some (.int v.1), sh, v.2) 44 [(0, .ref (G.1 + 0)), (1, .int x1), (2, .int x2), (3, .int x3), (4, .int x4)] [] sh μ := by
  unfold m_X9_crowds_44 at h
  refine ax_aload_n (pc := 44) (i := 0) (q := 0) (ax_dd KX9_crowds 23 rfl) rfl rfl ?_
  refine ax_getR (pc := 45) (k := 0) (q := 25) (ax_dd KX9_crowds 24 rfl) f_X9_37 (hs 0 _ rfl) rfl ?_
  refine ax_getR (pc := 48) (k := 25) (q := 31) (ax_dd KX9_crowds 25 rfl) f_X9_141 (hs 25 _ rfl) rfl ?_
  refine ax_iload_n (pc := 51) (i := 3) (q := 3) (ax_dd KX9_crowds 26 rfl) rfl rfl ?_
  obtain ⟨j1, b2, h⟩ := ob_bind h
  refine ax_ild (pc := 52) (k := 31) (N := 6) (j := j1) (ax_dd KX9_crowds 27 rfl) (hs 31 _ rfl) b2 ?_
  refine ax_istore (pc := 53) (lv' := [(6, .int (μ 31 j1)), (0, .ref (G.1 + 0)), (1, .int x1), (2, .int x2), (3, .int x3), (4, .int x4)]) (ax_dd KX9_crowds 28 rfl) (by decide) rfl ?_
  refine ax_iconst (pc := 55) (v := 0) (ax_dd KX9_crowds 29 rfl) (by decide) ?_
  refine ax_istore (pc := 56) (lv' := [(7, .int 0), (6, .int (μ 31 j1)), (0, .ref (G.1 + 0)), (1, .int x1), (2, .int x2), (3, .int x3), (4, .int x4)]) (ax_dd KX9_crowds 30 rfl) (by decide) rfl ?_
  refine ax_iconst (pc := 58) (v := (-1)) (ax_dd KX9_crowds 31 rfl) (by decide) ?_
  refine ax_istore (pc := 59) (lv' := [(8, .int (-1)), (7, .int 0), (6, .int (μ 31 j1)), (0, .ref (G.1 + 0)), (1, .int x1), (2, .int x2), (3, .int x3), (4, .int x4)]) (ax_dd KX9_crowds 32 rfl) (by decide) rfl ?_
  refine ax_bipush (pc := 61) (v := 99) (ax_dd KX9_crowds 33 rfl) (by decide) ?_
  refine ax_istore (pc := 63) (lv' := [(9, .int 99), (8, .int (-1)), (7, .int 0), (6, .int (μ 31 j1)), (0, .ref (G.1 + 0)), (1, .int x1), (2, .int x2), (3, .int x3), (4, .int x4)]) (ax_dd KX9_crowds 34 rfl) (by decide) rfl ?_
  refine ax_sub (lv' := [(0, .ref (G.1 + 0)), (1, .int x1), (2, .int x2), (3, .int x3), (4, .int x4), (6, .int (μ 31 j1)), (7, .int 0), (8, .int (-1)), (9, .int 99)]) [4, 5, 6, 7, 8, 3, 2, 1, 0] rfl ?_
  exact a_X9_crowds_65 hs fu _ _ _ _ _ h
def m_X9_crowds (x1 : Int32) (x2 : Int32) (x3 : Int32) (x4 : Int32) (μ : ax_M) : Option (Int32 × ax_M) :=
  (m_X9_refusesFines x1 x2 μ).bind fun v1 =>
  if v1 = 0 then
    (m_X0_isRug x3 μ).bind fun v4 =>
    if v4 = 0 then
      some ((-6), μ)
    else
      if x4 = 0 then
        m_X9_crowds_44 x1 x2 x3 x4 μ
      else
        if x4 = 1 then
          m_X9_crowds_44 x1 x2 x3 x4 μ
        else
          some ((-7), μ)
  else
    some (v1, μ)
set_option maxRecDepth 100000 in
set_option maxHeartbeats 8000000 in
theorem c_X9_crowds {G : ax_G} {l : Launch} {sh : List ax_E} {x1 : Int32} {x2 : Int32} {x3 : Int32} {x4 : Int32} {μ : ax_M} (hs : ∀ (k : Nat) (e : ax_E), SHc[k]? = some e → sh[k]? = some e) {v : Int32 × ax_M} (h : m_X9_crowds x1 x2 x3 x4 μ = some v) : ax_A G l yX9_crowds cX9_crowds 10 (some .int) 8 [.ref (G.1 + 0), .int x1, .int x2, .int x3, .int x4] sh μ (some (.int v.1), sh, v.2) := by
  refine ax_A.of false (by decide +kernel) (fun h9 => by cases h9) (Nat.le_of_ble_eq_true rfl) (?_ : ax_X G l RX9 cX9_crowds 10 (some .int) false 8 (some (.int v.1), sh, v.2) 0 [(0, .ref (G.1 + 0)), (1, .int x1), (2, .int x2), (3, .int x3), (4, .int x4)] [] sh μ)
  unfold m_X9_crowds at h
  refine ax_aload_n (pc := 0) (i := 0) (q := 0) (ax_dd KX9_crowds 0 rfl) rfl rfl ?_
  refine ax_iload_n (pc := 1) (i := 1) (q := 1) (ax_dd KX9_crowds 1 rfl) rfl rfl ?_
  refine ax_iload_n (pc := 2) (i := 2) (q := 2) (ax_dd KX9_crowds 2 rfl) rfl rfl ?_
  obtain ⟨v1, b2, h⟩ := ob_bind h
  refine ax_kV (pc := 3) (ci := 9) (k := 0) (As := [.int x1, .int x2]) (rest := []) (st1 := [.int v1]) (μ1 := μ) (ax_dd KX9_crowds 3 rfl) (c_X9_refusesFines hs b2) kV_X9_244 e_X9_refusesFines (hs 0 _ rfl) cl_X9 (by decide) rfl rfl (by decide) (by decide) (Nat.le_of_ble_eq_true rfl) rfl ?_
  refine ax_istore (pc := 6) (lv' := [(5, .int v1), (0, .ref (G.1 + 0)), (1, .int x1), (2, .int x2), (3, .int x3), (4, .int x4)]) (ax_dd KX9_crowds 4 rfl) (by decide) rfl ?_
  refine ax_iload (pc := 8) (q := 0) (ax_dd KX9_crowds 5 rfl) rfl ?_
  by_cases c3 : v1 = 0
  · rw [if_pos c3] at h
    refine ax_if_eq_t (pc := 10) (tgt := 16) (ax_dd KX9_crowds 6 rfl) (by decide) c3 ?_
    refine ax_aload_n (pc := 16) (i := 0) (q := 1) (ax_dd KX9_crowds 9 rfl) rfl rfl ?_
    refine ax_getR (pc := 17) (k := 0) (q := 25) (ax_dd KX9_crowds 10 rfl) f_X9_37 (hs 0 _ rfl) rfl ?_
    refine ax_iload_n (pc := 20) (i := 3) (q := 4) (ax_dd KX9_crowds 11 rfl) rfl rfl ?_
    obtain ⟨v4, b5, h⟩ := ob_bind h
    refine ax_kV (pc := 21) (ci := 0) (k := 25) (As := [.int x3]) (rest := []) (st1 := [.int v4]) (μ1 := μ) (ax_dd KX9_crowds 12 rfl) (c_X0_isRug hs b5) kV_X9_117 e_X0_isRug (hs 25 _ rfl) cl_X0 (by decide) rfl rfl (by decide) (by decide) (Nat.le_of_ble_eq_true rfl) rfl ?_
    by_cases c6 : v4 = 0
    · rw [if_pos c6] at h
      refine ax_if_ne_f (pc := 24) (tgt := 30) (ax_dd KX9_crowds 13 rfl) (by decide) (fun z => z c6) ?_
      refine ax_bipush (pc := 27) (v := (-6)) (ax_dd KX9_crowds 14 rfl) (by decide) ?_
      obtain rfl := Option.some.inj h
      exact ax_ireti (pc := 29) (ax_dd KX9_crowds 15 rfl) ⟨_, rfl, rfl⟩ rfl
    · rw [if_neg c6] at h
      refine ax_if_ne_t (pc := 24) (tgt := 30) (ax_dd KX9_crowds 13 rfl) (by decide) c6 ?_
      refine ax_iload (pc := 30) (q := 5) (ax_dd KX9_crowds 16 rfl) rfl ?_
      by_cases c7 : x4 = 0
      · rw [if_pos c7] at h
        refine ax_if_eq_t (pc := 32) (tgt := 44) (ax_dd KX9_crowds 17 rfl) (by decide) c7 ?_
        refine ax_sub (lv' := [(0, .ref (G.1 + 0)), (1, .int x1), (2, .int x2), (3, .int x3), (4, .int x4)]) [1, 2, 3, 4, 5] rfl ?_
        exact a_X9_crowds_44 hs h
      · rw [if_neg c7] at h
        refine ax_if_eq_f (pc := 32) (tgt := 44) (ax_dd KX9_crowds 17 rfl) (by decide) c7 ?_
        refine ax_iload (pc := 35) (q := 5) (ax_dd KX9_crowds 18 rfl) rfl ?_
        refine ax_iconst (pc := 37) (v := 1) (ax_dd KX9_crowds 19 rfl) (by decide) ?_
        by_cases c8 : x4 = 1
        · rw [if_pos c8] at h
          refine ax_icmp_eq_t (pc := 38) (tgt := 44) (ax_dd KX9_crowds 20 rfl) (by decide) c8 ?_
          refine ax_sub (lv' := [(0, .ref (G.1 + 0)), (1, .int x1), (2, .int x2), (3, .int x3), (4, .int x4)]) [1, 2, 3, 4, 5] rfl ?_
          exact a_X9_crowds_44 hs h
        · rw [if_neg c8] at h
          refine ax_icmp_eq_f (pc := 38) (tgt := 44) (ax_dd KX9_crowds 20 rfl) (by decide) c8 ?_
          refine ax_bipush (pc := 41) (v := (-7)) (ax_dd KX9_crowds 21 rfl) (by decide) ?_
          obtain rfl := Option.some.inj h
          exact ax_ireti (pc := 43) (ax_dd KX9_crowds 22 rfl) ⟨_, rfl, rfl⟩ rfl
  · rw [if_neg c3] at h
    refine ax_if_eq_f (pc := 10) (tgt := 16) (ax_dd KX9_crowds 6 rfl) (by decide) c3 ?_
    refine ax_iload (pc := 13) (q := 0) (ax_dd KX9_crowds 7 rfl) rfl ?_
    obtain rfl := Option.some.inj h
    exact ax_ireti (pc := 15) (ax_dd KX9_crowds 8 rfl) ⟨_, rfl, rfl⟩ rfl
def m_X9_where_18 (x1 : Int32) : Nat → Int64 → Int32 → ax_M → Option (Int64 × ax_M)
  | 0, _, _, _ => none
  | n + 1, x2, x4, μ =>
    if 36 ≤ x4 then
      some (x2, μ)
    else
      (ix 4 x1).bind fun j2 =>
      (ix 4 x1).bind fun j4 =>
      bind2 (m_X0_firstOther (45 + j2) (μ 50 j4) x4 μ) fun v6 μ8 =>
      if v6 = (-1) then
        m_X9_where_18 x1 n (x2 ||| (shL (1 : Int64) x4)) (x4 + 1) μ8
      else
        m_X9_where_18 x1 n x2 (x4 + 1) μ8
set_option maxRecDepth 100000 in
set_option maxHeartbeats 8000000 in
theorem a_X9_where_18 {G : ax_G} {l : Launch} {sh : List ax_E} {x1 : Int32} (hs : ∀ (k : Nat) (e : ax_E), SHc[k]? = some e → sh[k]? = some e) : ∀ (n : Nat) (x2 : Int64) (x4 : Int32) (μ : ax_M) (v : Int64 × ax_M), m_X9_where_18 x1 n x2 x4 μ = some v → ax_X G l RX9 cX9_where 5 (some .long) false 8 (some (.long v.1), sh, v.2) 18 [(0, .ref (G.1 + 0)), (1, .int x1), (2, .long x2), (4, .int x4)] [] sh μ := by
  intro n
  induction n with
  | zero =>
    intro x2 x4 μ v h
    rw [m_X9_where_18] at h
    cases h
  | succ n ih =>
    intro x2 x4 μ v h
    rw [m_X9_where_18] at h
    refine ax_iload (pc := 18) (q := 3) (ax_dd KX9_where 11 rfl) rfl ?_
    refine ax_bipush (pc := 20) (v := 36) (ax_dd KX9_where 12 rfl) (by decide) ?_
    by_cases c1 : 36 ≤ x4
    · rw [if_pos c1] at h
      refine ax_icmp_ge_t (pc := 22) (tgt := 69) (ax_dd KX9_where 13 rfl) (by decide) c1 ?_
      refine ax_lload_n (pc := 69) (i := 2) (q := 2) (ax_dd KX9_where 38 rfl) rfl rfl ?_
      obtain rfl := Option.some.inj h
      exact ax_lret (pc := 70) (ax_dd KX9_where 39 rfl) rfl rfl
    · rw [if_neg c1] at h
      refine ax_icmp_ge_f (pc := 22) (tgt := 69) (ax_dd KX9_where 13 rfl) (by decide) c1 ?_
      refine ax_aload_n (pc := 25) (i := 0) (q := 0) (ax_dd KX9_where 14 rfl) rfl rfl ?_
      refine ax_getR (pc := 26) (k := 0) (q := 25) (ax_dd KX9_where 15 rfl) f_X9_37 (hs 0 _ rfl) rfl ?_
      refine ax_aload_n (pc := 29) (i := 0) (q := 0) (ax_dd KX9_where 16 rfl) rfl rfl ?_
      refine ax_getR (pc := 30) (k := 0) (q := 43) (ax_dd KX9_where 17 rfl) f_X9_74 (hs 0 _ rfl) rfl ?_
      refine ax_getR (pc := 33) (k := 43) (q := 44) (ax_dd KX9_where 18 rfl) f_X9_247 (hs 43 _ rfl) rfl ?_
      refine ax_iload_n (pc := 36) (i := 1) (q := 1) (ax_dd KX9_where 19 rfl) rfl rfl ?_
      obtain ⟨j2, b3, h⟩ := ob_bind h
      refine ax_ald (pc := 37) (k := 44) (b0 := 45) (N := 4) (j := j2) (ax_dd KX9_where 20 rfl) (hs 44 _ rfl) b3 ?_
      refine ax_aload_n (pc := 38) (i := 0) (q := 0) (ax_dd KX9_where 21 rfl) rfl rfl ?_
      refine ax_getR (pc := 39) (k := 0) (q := 43) (ax_dd KX9_where 22 rfl) f_X9_74 (hs 0 _ rfl) rfl ?_
      refine ax_getR (pc := 42) (k := 43) (q := 50) (ax_dd KX9_where 23 rfl) f_X9_251 (hs 43 _ rfl) rfl ?_
      refine ax_iload_n (pc := 45) (i := 1) (q := 1) (ax_dd KX9_where 24 rfl) rfl rfl ?_
      obtain ⟨j4, b5, h⟩ := ob_bind h
      refine ax_ild (pc := 46) (k := 50) (N := 4) (j := j4) (ax_dd KX9_where 25 rfl) (hs 50 _ rfl) b5 ?_
      refine ax_iload (pc := 47) (q := 3) (ax_dd KX9_where 26 rfl) rfl ?_
      obtain ⟨v6, μ8, b7, h⟩ := ob_bind2 h
      refine ax_kV (pc := 49) (ci := 0) (k := 25) (As := [.ref (G.1 + (45 + j2)), .int (μ 50 j4), .int x4]) (rest := []) (st1 := [.int v6]) (μ1 := μ8) (ax_dd KX9_where 27 rfl) (c_X0_firstOther hs b7) kV_X9_252 e_X0_firstOther (hs 25 _ rfl) cl_X0 (by decide) rfl rfl (by decide) (by decide) (Nat.le_of_ble_eq_true rfl) rfl ?_
      refine ax_iconst (pc := 52) (v := (-1)) (ax_dd KX9_where 28 rfl) (by decide) ?_
      by_cases c9 : v6 = (-1)
      · rw [if_pos c9] at h
        refine ax_icmp_ne_f (pc := 53) (tgt := 63) (ax_dd KX9_where 29 rfl) (by decide) (fun z => z c9) ?_
        refine ax_lload_n (pc := 56) (i := 2) (q := 2) (ax_dd KX9_where 30 rfl) rfl rfl ?_
        refine ax_lconst (pc := 57) (v := 1) (ax_dd KX9_where 31 rfl) (by decide) ?_
        refine ax_iload (pc := 58) (q := 3) (ax_dd KX9_where 32 rfl) rfl ?_
        refine ax_lshl (pc := 60) (ax_dd KX9_where 33 rfl) ?_
        refine ax_lor (pc := 61) (ax_dd KX9_where 34 rfl) ?_
        refine ax_lstore_n (pc := 62) (i := 2) (lv' := [(2, .long (x2 ||| (shL (1 : Int64) x4))), (0, .ref (G.1 + 0)), (1, .int x1), (4, .int x4)]) (ax_dd KX9_where 35 rfl) rfl (by decide) rfl ?_
        refine ax_iinc (pc := 63) (q := 3) (v := (x4 + 1)) (lv' := [(4, .int (x4 + 1)), (2, .long (x2 ||| (shL (1 : Int64) x4))), (0, .ref (G.1 + 0)), (1, .int x1)]) (ax_dd KX9_where 36 rfl) rfl rfl (by decide) rfl ?_
        refine ax_goto (pc := 66) (tgt := 18) (ax_dd KX9_where 37 rfl) (by decide) ?_
        refine ax_sub (lv' := [(0, .ref (G.1 + 0)), (1, .int x1), (2, .long (x2 ||| (shL (1 : Int64) x4))), (4, .int (x4 + 1))]) [2, 3, 1, 0] rfl ?_
        exact ih _ _ _ _ h
      · rw [if_neg c9] at h
        refine ax_icmp_ne_t (pc := 53) (tgt := 63) (ax_dd KX9_where 29 rfl) (by decide) c9 ?_
        refine ax_iinc (pc := 63) (q := 3) (v := (x4 + 1)) (lv' := [(4, .int (x4 + 1)), (0, .ref (G.1 + 0)), (1, .int x1), (2, .long x2)]) (ax_dd KX9_where 36 rfl) rfl rfl (by decide) rfl ?_
        refine ax_goto (pc := 66) (tgt := 18) (ax_dd KX9_where 37 rfl) (by decide) ?_
        refine ax_sub (lv' := [(0, .ref (G.1 + 0)), (1, .int x1), (2, .long x2), (4, .int (x4 + 1))]) [1, 2, 3, 0] rfl ?_
        exact ih _ _ _ _ h
def m_X9_where (x1 : Int32) (μ : ax_M) : Option (Int64 × ax_M) :=
  (m_X9_refusesFines x1 0 μ).bind fun v1 =>
  if v1 = 0 then
    m_X9_where_18 x1 fu 0 0 μ
  else
    some ((-4611686018427387904), μ)
set_option maxRecDepth 100000 in
set_option maxHeartbeats 8000000 in
theorem c_X9_where {G : ax_G} {l : Launch} {sh : List ax_E} {x1 : Int32} {μ : ax_M} (hs : ∀ (k : Nat) (e : ax_E), SHc[k]? = some e → sh[k]? = some e) {v : Int64 × ax_M} (h : m_X9_where x1 μ = some v) : ax_A G l yX9_where cX9_where 5 (some .long) 8 [.ref (G.1 + 0), .int x1] sh μ (some (.long v.1), sh, v.2) := by
  refine ax_A.of false (by decide +kernel) (fun h9 => by cases h9) (Nat.le_of_ble_eq_true rfl) (?_ : ax_X G l RX9 cX9_where 5 (some .long) false 8 (some (.long v.1), sh, v.2) 0 [(0, .ref (G.1 + 0)), (1, .int x1)] [] sh μ)
  unfold m_X9_where at h
  refine ax_aload_n (pc := 0) (i := 0) (q := 0) (ax_dd KX9_where 0 rfl) rfl rfl ?_
  refine ax_iload_n (pc := 1) (i := 1) (q := 1) (ax_dd KX9_where 1 rfl) rfl rfl ?_
  refine ax_iconst (pc := 2) (v := 0) (ax_dd KX9_where 2 rfl) (by decide) ?_
  obtain ⟨v1, b2, h⟩ := ob_bind h
  refine ax_kV (pc := 3) (ci := 9) (k := 0) (As := [.int x1, .int 0]) (rest := []) (st1 := [.int v1]) (μ1 := μ) (ax_dd KX9_where 3 rfl) (c_X9_refusesFines hs b2) kV_X9_244 e_X9_refusesFines (hs 0 _ rfl) cl_X9 (by decide) rfl rfl (by decide) (by decide) (Nat.le_of_ble_eq_true rfl) rfl ?_
  by_cases c3 : v1 = 0
  · rw [if_pos c3] at h
    refine ax_if_eq_t (pc := 6) (tgt := 13) (ax_dd KX9_where 4 rfl) (by decide) c3 ?_
    refine ax_lconst (pc := 13) (v := 0) (ax_dd KX9_where 7 rfl) (by decide) ?_
    refine ax_lstore_n (pc := 14) (i := 2) (lv' := [(2, .long 0), (0, .ref (G.1 + 0)), (1, .int x1)]) (ax_dd KX9_where 8 rfl) rfl (by decide) rfl ?_
    refine ax_iconst (pc := 15) (v := 0) (ax_dd KX9_where 9 rfl) (by decide) ?_
    refine ax_istore (pc := 16) (lv' := [(4, .int 0), (2, .long 0), (0, .ref (G.1 + 0)), (1, .int x1)]) (ax_dd KX9_where 10 rfl) (by decide) rfl ?_
    refine ax_sub (lv' := [(0, .ref (G.1 + 0)), (1, .int x1), (2, .long 0), (4, .int 0)]) [2, 3, 1, 0] rfl ?_
    exact a_X9_where_18 hs fu _ _ _ _ h
  · rw [if_neg c3] at h
    refine ax_if_eq_f (pc := 6) (tgt := 13) (ax_dd KX9_where 4 rfl) (by decide) c3 ?_
    refine ax_ldc2 (pc := 9) (ax_dd KX9_where 5 rfl) c_X9_175 ?_
    obtain rfl := Option.some.inj h
    exact ax_lret (pc := 12) (ax_dd KX9_where 6 rfl) rfl rfl
def m_X9_laws_28 (x1 : Int32) (x2 : Int32) (x4 : Int32) : Nat → Int32 → Int32 → ax_M → Option (Int32 × ax_M)
  | 0, _, _, _ => none
  | n + 1, x5, x6, μ =>
    if (μ 1 0) ≤ x6 then
      some (x5, ax_w μ 25 3 x4)
    else
      (ix 4 x1).bind fun j2 =>
      (ix 4 x1).bind fun j4 =>
      bind2 (m_X0_firstOther (45 + j2) ((ax_w μ 25 3 x6) 50 j4) x2 (ax_w μ 25 3 x6)) fun v6 μ8 =>
      if v6 = (-1) then
        m_X9_laws_28 x1 x2 x4 n (x5 ||| (shI (1 : Int32) x6)) (x6 + 1) μ8
      else
        m_X9_laws_28 x1 x2 x4 n x5 (x6 + 1) μ8
set_option maxRecDepth 100000 in
set_option maxHeartbeats 8000000 in
theorem a_X9_laws_28 {G : ax_G} {l : Launch} {sh : List ax_E} {x1 : Int32} {x2 : Int32} {x4 : Int32} (hs : ∀ (k : Nat) (e : ax_E), SHc[k]? = some e → sh[k]? = some e) : ∀ (n : Nat) (x5 : Int32) (x6 : Int32) (μ : ax_M) (v : Int32 × ax_M), m_X9_laws_28 x1 x2 x4 n x5 x6 μ = some v → ax_X G l RX9 cX9_laws 7 (some .int) false 8 (some (.int v.1), sh, v.2) 28 [(0, .ref (G.1 + 0)), (1, .int x1), (2, .int x2), (4, .int x4), (5, .int x5), (6, .int x6)] [] sh μ := by
  intro n
  induction n with
  | zero =>
    intro x5 x6 μ v h
    rw [m_X9_laws_28] at h
    cases h
  | succ n ih =>
    intro x5 x6 μ v h
    rw [m_X9_laws_28] at h
    refine ax_iload (pc := 28) (q := 5) (ax_dd KX9_laws 17 rfl) rfl ?_
    refine ax_aload_n (pc := 30) (i := 0) (q := 0) (ax_dd KX9_laws 18 rfl) rfl rfl ?_
    refine ax_getR (pc := 31) (k := 0) (q := 1) (ax_dd KX9_laws 19 rfl) f_X9_10 (hs 0 _ rfl) rfl ?_
    refine ax_getI (pc := 34) (k := 1) (ax_dd KX9_laws 20 rfl) f_X9_104 (hs 1 _ rfl) rfl ?_
    by_cases c1 : (μ 1 0) ≤ x6
    · rw [if_pos c1] at h
      refine ax_icmp_ge_t (pc := 37) (tgt := 94) (ax_dd KX9_laws 21 rfl) (by decide) c1 ?_
      refine ax_aload_n (pc := 94) (i := 0) (q := 0) (ax_dd KX9_laws 50 rfl) rfl rfl ?_
      refine ax_getR (pc := 95) (k := 0) (q := 25) (ax_dd KX9_laws 51 rfl) f_X9_37 (hs 0 _ rfl) rfl ?_
      refine ax_iload (pc := 98) (q := 3) (ax_dd KX9_laws 52 rfl) rfl ?_
      refine ax_putI (pc := 100) (k := 25) (ax_dd KX9_laws 53 rfl) f_X9_107 ft_X0 (hs 25 _ rfl) rfl (fun _ h9 => by cases h9; rfl) rfl rfl ?_
      refine ax_iload (pc := 103) (q := 4) (ax_dd KX9_laws 54 rfl) rfl ?_
      obtain rfl := Option.some.inj h
      exact ax_ireti (pc := 105) (ax_dd KX9_laws 55 rfl) ⟨_, rfl, rfl⟩ rfl
    · rw [if_neg c1] at h
      refine ax_icmp_ge_f (pc := 37) (tgt := 94) (ax_dd KX9_laws 21 rfl) (by decide) c1 ?_
      refine ax_aload_n (pc := 40) (i := 0) (q := 0) (ax_dd KX9_laws 22 rfl) rfl rfl ?_
      refine ax_getR (pc := 41) (k := 0) (q := 25) (ax_dd KX9_laws 23 rfl) f_X9_37 (hs 0 _ rfl) rfl ?_
      refine ax_iload (pc := 44) (q := 5) (ax_dd KX9_laws 24 rfl) rfl ?_
      refine ax_putI (pc := 46) (k := 25) (ax_dd KX9_laws 25 rfl) f_X9_107 ft_X0 (hs 25 _ rfl) rfl (fun _ h9 => by cases h9; rfl) rfl rfl ?_
      refine ax_aload_n (pc := 49) (i := 0) (q := 0) (ax_dd KX9_laws 26 rfl) rfl rfl ?_
      refine ax_getR (pc := 50) (k := 0) (q := 25) (ax_dd KX9_laws 27 rfl) f_X9_37 (hs 0 _ rfl) rfl ?_
      refine ax_aload_n (pc := 53) (i := 0) (q := 0) (ax_dd KX9_laws 28 rfl) rfl rfl ?_
      refine ax_getR (pc := 54) (k := 0) (q := 43) (ax_dd KX9_laws 29 rfl) f_X9_74 (hs 0 _ rfl) rfl ?_
      refine ax_getR (pc := 57) (k := 43) (q := 44) (ax_dd KX9_laws 30 rfl) f_X9_247 (hs 43 _ rfl) rfl ?_
      refine ax_iload_n (pc := 60) (i := 1) (q := 1) (ax_dd KX9_laws 31 rfl) rfl rfl ?_
      obtain ⟨j2, b3, h⟩ := ob_bind h
      refine ax_ald (pc := 61) (k := 44) (b0 := 45) (N := 4) (j := j2) (ax_dd KX9_laws 32 rfl) (hs 44 _ rfl) b3 ?_
      refine ax_aload_n (pc := 62) (i := 0) (q := 0) (ax_dd KX9_laws 33 rfl) rfl rfl ?_
      refine ax_getR (pc := 63) (k := 0) (q := 43) (ax_dd KX9_laws 34 rfl) f_X9_74 (hs 0 _ rfl) rfl ?_
      refine ax_getR (pc := 66) (k := 43) (q := 50) (ax_dd KX9_laws 35 rfl) f_X9_251 (hs 43 _ rfl) rfl ?_
      refine ax_iload_n (pc := 69) (i := 1) (q := 1) (ax_dd KX9_laws 36 rfl) rfl rfl ?_
      obtain ⟨j4, b5, h⟩ := ob_bind h
      refine ax_ild (pc := 70) (k := 50) (N := 4) (j := j4) (ax_dd KX9_laws 37 rfl) (hs 50 _ rfl) b5 ?_
      refine ax_iload_n (pc := 71) (i := 2) (q := 2) (ax_dd KX9_laws 38 rfl) rfl rfl ?_
      obtain ⟨v6, μ8, b7, h⟩ := ob_bind2 h
      refine ax_kV (pc := 72) (ci := 0) (k := 25) (As := [.ref (G.1 + (45 + j2)), .int ((ax_w μ 25 3 x6) 50 j4), .int x2]) (rest := []) (st1 := [.int v6]) (μ1 := μ8) (ax_dd KX9_laws 39 rfl) (c_X0_firstOther hs b7) kV_X9_252 e_X0_firstOther (hs 25 _ rfl) cl_X0 (by decide) rfl rfl (by decide) (by decide) (Nat.le_of_ble_eq_true rfl) rfl ?_
      refine ax_iconst (pc := 75) (v := (-1)) (ax_dd KX9_laws 40 rfl) (by decide) ?_
      by_cases c9 : v6 = (-1)
      · rw [if_pos c9] at h
        refine ax_icmp_ne_f (pc := 76) (tgt := 88) (ax_dd KX9_laws 41 rfl) (by decide) (fun z => z c9) ?_
        refine ax_iload (pc := 79) (q := 4) (ax_dd KX9_laws 42 rfl) rfl ?_
        refine ax_iconst (pc := 81) (v := 1) (ax_dd KX9_laws 43 rfl) (by decide) ?_
        refine ax_iload (pc := 82) (q := 5) (ax_dd KX9_laws 44 rfl) rfl ?_
        refine ax_ishl (pc := 84) (ax_dd KX9_laws 45 rfl) ?_
        refine ax_ior (pc := 85) (ax_dd KX9_laws 46 rfl) ?_
        refine ax_istore (pc := 86) (lv' := [(5, .int (x5 ||| (shI (1 : Int32) x6))), (0, .ref (G.1 + 0)), (1, .int x1), (2, .int x2), (4, .int x4), (6, .int x6)]) (ax_dd KX9_laws 47 rfl) (by decide) rfl ?_
        refine ax_iinc (pc := 88) (q := 5) (v := (x6 + 1)) (lv' := [(6, .int (x6 + 1)), (5, .int (x5 ||| (shI (1 : Int32) x6))), (0, .ref (G.1 + 0)), (1, .int x1), (2, .int x2), (4, .int x4)]) (ax_dd KX9_laws 48 rfl) rfl rfl (by decide) rfl ?_
        refine ax_goto (pc := 91) (tgt := 28) (ax_dd KX9_laws 49 rfl) (by decide) ?_
        refine ax_sub (lv' := [(0, .ref (G.1 + 0)), (1, .int x1), (2, .int x2), (4, .int x4), (5, .int (x5 ||| (shI (1 : Int32) x6))), (6, .int (x6 + 1))]) [2, 3, 4, 5, 1, 0] rfl ?_
        exact ih _ _ _ _ h
      · rw [if_neg c9] at h
        refine ax_icmp_ne_t (pc := 76) (tgt := 88) (ax_dd KX9_laws 41 rfl) (by decide) c9 ?_
        refine ax_iinc (pc := 88) (q := 5) (v := (x6 + 1)) (lv' := [(6, .int (x6 + 1)), (0, .ref (G.1 + 0)), (1, .int x1), (2, .int x2), (4, .int x4), (5, .int x5)]) (ax_dd KX9_laws 48 rfl) rfl rfl (by decide) rfl ?_
        refine ax_goto (pc := 91) (tgt := 28) (ax_dd KX9_laws 49 rfl) (by decide) ?_
        refine ax_sub (lv' := [(0, .ref (G.1 + 0)), (1, .int x1), (2, .int x2), (4, .int x4), (5, .int x5), (6, .int (x6 + 1))]) [1, 2, 3, 4, 5, 0] rfl ?_
        exact ih _ _ _ _ h
def m_X9_laws (x1 : Int32) (x2 : Int32) (μ : ax_M) : Option (Int32 × ax_M) :=
  (m_X9_refusesFines x1 x2 μ).bind fun v1 =>
  if v1 = 0 then
    m_X9_laws_28 x1 x2 (μ 25 3) fu 0 0 μ
  else
    some (v1, μ)
set_option maxRecDepth 100000 in
set_option maxHeartbeats 8000000 in
theorem c_X9_laws {G : ax_G} {l : Launch} {sh : List ax_E} {x1 : Int32} {x2 : Int32} {μ : ax_M} (hs : ∀ (k : Nat) (e : ax_E), SHc[k]? = some e → sh[k]? = some e) {v : Int32 × ax_M} (h : m_X9_laws x1 x2 μ = some v) : ax_A G l yX9_laws cX9_laws 7 (some .int) 8 [.ref (G.1 + 0), .int x1, .int x2] sh μ (some (.int v.1), sh, v.2) := by
  refine ax_A.of false (by decide +kernel) (fun h9 => by cases h9) (Nat.le_of_ble_eq_true rfl) (?_ : ax_X G l RX9 cX9_laws 7 (some .int) false 8 (some (.int v.1), sh, v.2) 0 [(0, .ref (G.1 + 0)), (1, .int x1), (2, .int x2)] [] sh μ)
  unfold m_X9_laws at h
  refine ax_aload_n (pc := 0) (i := 0) (q := 0) (ax_dd KX9_laws 0 rfl) rfl rfl ?_
  refine ax_iload_n (pc := 1) (i := 1) (q := 1) (ax_dd KX9_laws 1 rfl) rfl rfl ?_
  refine ax_iload_n (pc := 2) (i := 2) (q := 2) (ax_dd KX9_laws 2 rfl) rfl rfl ?_
  obtain ⟨v1, b2, h⟩ := ob_bind h
  refine ax_kV (pc := 3) (ci := 9) (k := 0) (As := [.int x1, .int x2]) (rest := []) (st1 := [.int v1]) (μ1 := μ) (ax_dd KX9_laws 3 rfl) (c_X9_refusesFines hs b2) kV_X9_244 e_X9_refusesFines (hs 0 _ rfl) cl_X9 (by decide) rfl rfl (by decide) (by decide) (Nat.le_of_ble_eq_true rfl) rfl ?_
  refine ax_istore_n (pc := 6) (i := 3) (lv' := [(3, .int v1), (0, .ref (G.1 + 0)), (1, .int x1), (2, .int x2)]) (ax_dd KX9_laws 4 rfl) rfl (by decide) rfl ?_
  refine ax_iload_n (pc := 7) (i := 3) (q := 0) (ax_dd KX9_laws 5 rfl) rfl rfl ?_
  by_cases c3 : v1 = 0
  · rw [if_pos c3] at h
    refine ax_if_eq_t (pc := 8) (tgt := 13) (ax_dd KX9_laws 6 rfl) (by decide) c3 ?_
    refine ax_aload_n (pc := 13) (i := 0) (q := 1) (ax_dd KX9_laws 9 rfl) rfl rfl ?_
    refine ax_getR (pc := 14) (k := 0) (q := 25) (ax_dd KX9_laws 10 rfl) f_X9_37 (hs 0 _ rfl) rfl ?_
    refine ax_getI (pc := 17) (k := 25) (ax_dd KX9_laws 11 rfl) f_X9_107 (hs 25 _ rfl) rfl ?_
    refine ax_istore (pc := 20) (lv' := [(4, .int (μ 25 3)), (3, .int v1), (0, .ref (G.1 + 0)), (1, .int x1), (2, .int x2)]) (ax_dd KX9_laws 12 rfl) (by decide) rfl ?_
    refine ax_iconst (pc := 22) (v := 0) (ax_dd KX9_laws 13 rfl) (by decide) ?_
    refine ax_istore (pc := 23) (lv' := [(5, .int 0), (4, .int (μ 25 3)), (3, .int v1), (0, .ref (G.1 + 0)), (1, .int x1), (2, .int x2)]) (ax_dd KX9_laws 14 rfl) (by decide) rfl ?_
    refine ax_iconst (pc := 25) (v := 0) (ax_dd KX9_laws 15 rfl) (by decide) ?_
    refine ax_istore (pc := 26) (lv' := [(6, .int 0), (5, .int 0), (4, .int (μ 25 3)), (3, .int v1), (0, .ref (G.1 + 0)), (1, .int x1), (2, .int x2)]) (ax_dd KX9_laws 16 rfl) (by decide) rfl ?_
    refine ax_sub (lv' := [(0, .ref (G.1 + 0)), (1, .int x1), (2, .int x2), (4, .int (μ 25 3)), (5, .int 0), (6, .int 0)]) [4, 5, 6, 2, 1, 0] rfl ?_
    exact a_X9_laws_28 hs fu _ _ _ _ h
  · rw [if_neg c3] at h
    refine ax_if_eq_f (pc := 8) (tgt := 13) (ax_dd KX9_laws 6 rfl) (by decide) c3 ?_
    refine ax_iload_n (pc := 11) (i := 3) (q := 0) (ax_dd KX9_laws 7 rfl) rfl rfl ?_
    obtain rfl := Option.some.inj h
    exact ax_ireti (pc := 12) (ax_dd KX9_laws 8 rfl) ⟨_, rfl, rfl⟩ rfl
def m_X9_film_48 (x1 : Int32) (x2 : Int32) (x3 : Int32) : Nat → Int32 → ax_M → Option (Int32 × ax_M)
  | 0, _, _ => none
  | n + 1, x4, μ =>
    if x3 ≤ x4 then
      some (x3, μ)
    else
      bind2 (m_X0_fineWere x2 x4 μ) fun v2 μ4 =>
      (m_X4_write x1 x4 v2 μ4).bind fun μ7 =>
      m_X9_film_48 x1 x2 x3 n (x4 + 1) μ7
set_option maxRecDepth 100000 in
set_option maxHeartbeats 8000000 in
theorem a_X9_film_48 {G : ax_G} {l : Launch} {sh : List ax_E} {x1 : Int32} {x2 : Int32} {x3 : Int32} (hs : ∀ (k : Nat) (e : ax_E), SHc[k]? = some e → sh[k]? = some e) : ∀ (n : Nat) (x4 : Int32) (μ : ax_M) (v : Int32 × ax_M), m_X9_film_48 x1 x2 x3 n x4 μ = some v → ax_X G l RX9 cX9_film 5 (some .int) false 7 (some (.int v.1), sh, v.2) 48 [(0, .ref (G.1 + 0)), (1, .int x1), (2, .int x2), (3, .int x3), (4, .int x4)] [] sh μ := by
  intro n
  induction n with
  | zero =>
    intro x4 μ v h
    rw [m_X9_film_48] at h
    cases h
  | succ n ih =>
    intro x4 μ v h
    rw [m_X9_film_48] at h
    refine ax_iload (pc := 48) (q := 4) (ax_dd KX9_film 27 rfl) rfl ?_
    refine ax_iload_n (pc := 50) (i := 3) (q := 3) (ax_dd KX9_film 28 rfl) rfl rfl ?_
    by_cases c1 : x3 ≤ x4
    · rw [if_pos c1] at h
      refine ax_icmp_ge_t (pc := 51) (tgt := 80) (ax_dd KX9_film 29 rfl) (by decide) c1 ?_
      refine ax_iload_n (pc := 80) (i := 3) (q := 3) (ax_dd KX9_film 42 rfl) rfl rfl ?_
      obtain rfl := Option.some.inj h
      exact ax_ireti (pc := 81) (ax_dd KX9_film 43 rfl) ⟨_, rfl, rfl⟩ rfl
    · rw [if_neg c1] at h
      refine ax_icmp_ge_f (pc := 51) (tgt := 80) (ax_dd KX9_film 29 rfl) (by decide) c1 ?_
      refine ax_aload_n (pc := 54) (i := 0) (q := 0) (ax_dd KX9_film 30 rfl) rfl rfl ?_
      refine ax_getR (pc := 55) (k := 0) (q := 43) (ax_dd KX9_film 31 rfl) f_X9_74 (hs 0 _ rfl) rfl ?_
      refine ax_iload_n (pc := 58) (i := 1) (q := 1) (ax_dd KX9_film 32 rfl) rfl rfl ?_
      refine ax_iload (pc := 59) (q := 4) (ax_dd KX9_film 33 rfl) rfl ?_
      refine ax_aload_n (pc := 61) (i := 0) (q := 0) (ax_dd KX9_film 34 rfl) rfl rfl ?_
      refine ax_getR (pc := 62) (k := 0) (q := 25) (ax_dd KX9_film 35 rfl) f_X9_37 (hs 0 _ rfl) rfl ?_
      refine ax_iload_n (pc := 65) (i := 2) (q := 2) (ax_dd KX9_film 36 rfl) rfl rfl ?_
      refine ax_iload (pc := 66) (q := 4) (ax_dd KX9_film 37 rfl) rfl ?_
      obtain ⟨v2, μ4, b3, h⟩ := ob_bind2 h
      refine ax_kV (pc := 68) (ci := 0) (k := 25) (As := [.int x2, .int x4]) (rest := [.int x4, .int x1, .ref (G.1 + 43)]) (st1 := [.int v2, .int x4, .int x1, .ref (G.1 + 43)]) (μ1 := μ4) (ax_dd KX9_film 38 rfl) (c_X0_fineWere hs b3) kV_X9_259 e_X0_fineWere (hs 25 _ rfl) cl_X0 (by decide) rfl rfl (by decide) (by decide) (Nat.le_of_ble_eq_true rfl) rfl ?_
      obtain ⟨μ7, b6, h⟩ := ob_bind h
      refine ax_kV (pc := 71) (ci := 4) (k := 43) (As := [.int x1, .int x4, .int v2]) (rest := []) (st1 := []) (μ1 := μ7) (ax_dd KX9_film 39 rfl) (c_X4_write hs b6) kV_X9_262 e_X4_write (hs 43 _ rfl) cl_X4 (by decide) rfl rfl (by decide) (by decide) (Nat.le_of_ble_eq_true rfl) rfl ?_
      refine ax_iinc (pc := 74) (q := 4) (v := (x4 + 1)) (lv' := [(4, .int (x4 + 1)), (0, .ref (G.1 + 0)), (1, .int x1), (2, .int x2), (3, .int x3)]) (ax_dd KX9_film 40 rfl) rfl rfl (by decide) rfl ?_
      refine ax_goto (pc := 77) (tgt := 48) (ax_dd KX9_film 41 rfl) (by decide) ?_
      refine ax_sub (lv' := [(0, .ref (G.1 + 0)), (1, .int x1), (2, .int x2), (3, .int x3), (4, .int (x4 + 1))]) [1, 2, 3, 4, 0] rfl ?_
      exact ih _ _ _ h
def m_X9_film (x1 : Int32) (x2 : Int32) (x3 : Int32) (μ : ax_M) : Option (Int32 × ax_M) :=
  if x1 < 0 then
    some ((-2), μ)
  else
    if x1 < 4 then
      (m_X9_isCell x2 μ).bind fun v3 =>
      if v3 = 0 then
        some ((-5), μ)
      else
        if x3 < 0 then
          some ((-7), μ)
        else
          if x3 ≤ 24 then
            (m_X4_renew x1 1 x3 μ).bind fun μ10 =>
            m_X9_film_48 x1 x2 x3 fu 0 μ10
          else
            some ((-7), μ)
    else
      some ((-2), μ)
set_option maxRecDepth 100000 in
set_option maxHeartbeats 8000000 in
theorem c_X9_film {G : ax_G} {l : Launch} {sh : List ax_E} {x1 : Int32} {x2 : Int32} {x3 : Int32} {μ : ax_M} (hs : ∀ (k : Nat) (e : ax_E), SHc[k]? = some e → sh[k]? = some e) {v : Int32 × ax_M} (h : m_X9_film x1 x2 x3 μ = some v) : ax_A G l yX9_film cX9_film 5 (some .int) 7 [.ref (G.1 + 0), .int x1, .int x2, .int x3] sh μ (some (.int v.1), sh, v.2) := by
  refine ax_A.of false (by decide +kernel) (fun h9 => by cases h9) (Nat.le_of_ble_eq_true rfl) (?_ : ax_X G l RX9 cX9_film 5 (some .int) false 7 (some (.int v.1), sh, v.2) 0 [(0, .ref (G.1 + 0)), (1, .int x1), (2, .int x2), (3, .int x3)] [] sh μ)
  unfold m_X9_film at h
  refine ax_iload_n (pc := 0) (i := 1) (q := 1) (ax_dd KX9_film 0 rfl) rfl rfl ?_
  by_cases c1 : x1 < 0
  · rw [if_pos c1] at h
    refine ax_if_lt_t (pc := 1) (tgt := 9) (ax_dd KX9_film 1 rfl) (by decide) c1 ?_
    refine ax_bipush (pc := 9) (v := (-2)) (ax_dd KX9_film 5 rfl) (by decide) ?_
    obtain rfl := Option.some.inj h
    exact ax_ireti (pc := 11) (ax_dd KX9_film 6 rfl) ⟨_, rfl, rfl⟩ rfl
  · rw [if_neg c1] at h
    refine ax_if_lt_f (pc := 1) (tgt := 9) (ax_dd KX9_film 1 rfl) (by decide) c1 ?_
    refine ax_iload_n (pc := 4) (i := 1) (q := 1) (ax_dd KX9_film 2 rfl) rfl rfl ?_
    refine ax_iconst (pc := 5) (v := 4) (ax_dd KX9_film 3 rfl) (by decide) ?_
    by_cases c2 : x1 < 4
    · rw [if_pos c2] at h
      refine ax_icmp_lt_t (pc := 6) (tgt := 12) (ax_dd KX9_film 4 rfl) (by decide) c2 ?_
      refine ax_iload_n (pc := 12) (i := 2) (q := 2) (ax_dd KX9_film 7 rfl) rfl rfl ?_
      obtain ⟨v3, b4, h⟩ := ob_bind h
      refine ax_kS (pc := 13) (As := [.int x2]) (rest := []) (st1 := [.int v3]) (μ1 := μ) (ax_dd KX9_film 8 rfl) (c_X9_isCell hs b4) kS_X9_120 e_X9_isCell rfl rfl (by decide) (by decide) (Nat.le_of_ble_eq_true rfl) rfl ?_
      by_cases c5 : v3 = 0
      · rw [if_pos c5] at h
        refine ax_if_ne_f (pc := 16) (tgt := 22) (ax_dd KX9_film 9 rfl) (by decide) (fun z => z c5) ?_
        refine ax_bipush (pc := 19) (v := (-5)) (ax_dd KX9_film 10 rfl) (by decide) ?_
        obtain rfl := Option.some.inj h
        exact ax_ireti (pc := 21) (ax_dd KX9_film 11 rfl) ⟨_, rfl, rfl⟩ rfl
      · rw [if_neg c5] at h
        refine ax_if_ne_t (pc := 16) (tgt := 22) (ax_dd KX9_film 9 rfl) (by decide) c5 ?_
        refine ax_iload_n (pc := 22) (i := 3) (q := 3) (ax_dd KX9_film 12 rfl) rfl rfl ?_
        by_cases c6 : x3 < 0
        · rw [if_pos c6] at h
          refine ax_if_lt_t (pc := 23) (tgt := 32) (ax_dd KX9_film 13 rfl) (by decide) c6 ?_
          refine ax_bipush (pc := 32) (v := (-7)) (ax_dd KX9_film 17 rfl) (by decide) ?_
          obtain rfl := Option.some.inj h
          exact ax_ireti (pc := 34) (ax_dd KX9_film 18 rfl) ⟨_, rfl, rfl⟩ rfl
        · rw [if_neg c6] at h
          refine ax_if_lt_f (pc := 23) (tgt := 32) (ax_dd KX9_film 13 rfl) (by decide) c6 ?_
          refine ax_iload_n (pc := 26) (i := 3) (q := 3) (ax_dd KX9_film 14 rfl) rfl rfl ?_
          refine ax_bipush (pc := 27) (v := 24) (ax_dd KX9_film 15 rfl) (by decide) ?_
          by_cases c7 : x3 ≤ 24
          · rw [if_pos c7] at h
            refine ax_icmp_le_t (pc := 29) (tgt := 35) (ax_dd KX9_film 16 rfl) (by decide) c7 ?_
            refine ax_aload_n (pc := 35) (i := 0) (q := 0) (ax_dd KX9_film 19 rfl) rfl rfl ?_
            refine ax_getR (pc := 36) (k := 0) (q := 43) (ax_dd KX9_film 20 rfl) f_X9_74 (hs 0 _ rfl) rfl ?_
            refine ax_iload_n (pc := 39) (i := 1) (q := 1) (ax_dd KX9_film 21 rfl) rfl rfl ?_
            refine ax_iconst (pc := 40) (v := 1) (ax_dd KX9_film 22 rfl) (by decide) ?_
            refine ax_iload_n (pc := 41) (i := 3) (q := 3) (ax_dd KX9_film 23 rfl) rfl rfl ?_
            obtain ⟨μ10, b9, h⟩ := ob_bind h
            refine ax_kV (pc := 42) (ci := 4) (k := 43) (As := [.int x1, .int 1, .int x3]) (rest := []) (st1 := []) (μ1 := μ10) (ax_dd KX9_film 24 rfl) (c_X4_renew hs b9) kV_X9_256 e_X4_renew (hs 43 _ rfl) cl_X4 (by decide) rfl rfl (by decide) (by decide) (Nat.le_of_ble_eq_true rfl) rfl ?_
            refine ax_iconst (pc := 45) (v := 0) (ax_dd KX9_film 25 rfl) (by decide) ?_
            refine ax_istore (pc := 46) (lv' := [(4, .int 0), (0, .ref (G.1 + 0)), (1, .int x1), (2, .int x2), (3, .int x3)]) (ax_dd KX9_film 26 rfl) (by decide) rfl ?_
            refine ax_sub (lv' := [(0, .ref (G.1 + 0)), (1, .int x1), (2, .int x2), (3, .int x3), (4, .int 0)]) [1, 2, 3, 4, 0] rfl ?_
            exact a_X9_film_48 hs fu _ _ _ h
          · rw [if_neg c7] at h
            refine ax_icmp_le_f (pc := 29) (tgt := 35) (ax_dd KX9_film 16 rfl) (by decide) c7 ?_
            refine ax_bipush (pc := 32) (v := (-7)) (ax_dd KX9_film 17 rfl) (by decide) ?_
            obtain rfl := Option.some.inj h
            exact ax_ireti (pc := 34) (ax_dd KX9_film 18 rfl) ⟨_, rfl, rfl⟩ rfl
    · rw [if_neg c2] at h
      refine ax_icmp_lt_f (pc := 6) (tgt := 12) (ax_dd KX9_film 4 rfl) (by decide) c2 ?_
      refine ax_bipush (pc := 9) (v := (-2)) (ax_dd KX9_film 5 rfl) (by decide) ?_
      obtain rfl := Option.some.inj h
      exact ax_ireti (pc := 11) (ax_dd KX9_film 6 rfl) ⟨_, rfl, rfl⟩ rfl
def m_X9_isSeed (x0 : Int32) (μ : ax_M) : Option (Int32) :=
  if x0 < 0 then
    some 0
  else
    if 100000 ≤ x0 then
      some 0
    else
      some 1
set_option maxRecDepth 100000 in
set_option maxHeartbeats 8000000 in
theorem c_X9_isSeed {G : ax_G} {l : Launch} {sh : List ax_E} {x0 : Int32} {μ : ax_M} (hs : ∀ (k : Nat) (e : ax_E), SHc[k]? = some e → sh[k]? = some e) {v : Int32} (h : m_X9_isSeed x0 μ = some v) : ax_A G l yX9_isSeed cX9_isSeed 1 (some .boolean) 2 [.int x0] sh μ (some (.int v), sh, μ) := by
  refine ax_A.of false (by decide +kernel) (fun h9 => by cases h9) (Nat.le_of_ble_eq_true rfl) (?_ : ax_X G l RX9 cX9_isSeed 1 (some .boolean) false 2 (some (.int v), sh, μ) 0 [(0, .int x0)] [] sh μ)
  unfold m_X9_isSeed at h
  refine ax_iload_n (pc := 0) (i := 0) (q := 0) (ax_dd KX9_isSeed 0 rfl) rfl rfl ?_
  by_cases c1 : x0 < 0
  · rw [if_pos c1] at h
    refine ax_if_lt_t (pc := 1) (tgt := 15) (ax_dd KX9_isSeed 1 rfl) (by decide) c1 ?_
    refine ax_iconst (pc := 15) (v := 0) (ax_dd KX9_isSeed 7 rfl) (by decide) ?_
    obtain rfl := Option.some.inj h
    exact ax_ireti (pc := 16) (ax_dd KX9_isSeed 8 rfl) ⟨_, rfl, rfl⟩ rfl
  · rw [if_neg c1] at h
    refine ax_if_lt_f (pc := 1) (tgt := 15) (ax_dd KX9_isSeed 1 rfl) (by decide) c1 ?_
    refine ax_iload_n (pc := 4) (i := 0) (q := 0) (ax_dd KX9_isSeed 2 rfl) rfl rfl ?_
    refine ax_ldcw (pc := 5) (ax_dd KX9_isSeed 3 rfl) c_X9_329 ?_
    by_cases c2 : 100000 ≤ x0
    · rw [if_pos c2] at h
      refine ax_icmp_ge_t (pc := 8) (tgt := 15) (ax_dd KX9_isSeed 4 rfl) (by decide) c2 ?_
      refine ax_iconst (pc := 15) (v := 0) (ax_dd KX9_isSeed 7 rfl) (by decide) ?_
      obtain rfl := Option.some.inj h
      exact ax_ireti (pc := 16) (ax_dd KX9_isSeed 8 rfl) ⟨_, rfl, rfl⟩ rfl
    · rw [if_neg c2] at h
      refine ax_icmp_ge_f (pc := 8) (tgt := 15) (ax_dd KX9_isSeed 4 rfl) (by decide) c2 ?_
      refine ax_iconst (pc := 11) (v := 1) (ax_dd KX9_isSeed 5 rfl) (by decide) ?_
      refine ax_goto (pc := 12) (tgt := 16) (ax_dd KX9_isSeed 6 rfl) (by decide) ?_
      obtain rfl := Option.some.inj h
      exact ax_ireti (pc := 16) (ax_dd KX9_isSeed 8 rfl) ⟨_, rfl, rfl⟩ rfl
def m_X9_isCellSteps (x0 : Int32) (μ : ax_M) : Option (Int32) :=
  if x0 < 0 then
    some 0
  else
    if 3600 ≤ x0 then
      some 0
    else
      some 1
set_option maxRecDepth 100000 in
set_option maxHeartbeats 8000000 in
theorem c_X9_isCellSteps {G : ax_G} {l : Launch} {sh : List ax_E} {x0 : Int32} {μ : ax_M} (hs : ∀ (k : Nat) (e : ax_E), SHc[k]? = some e → sh[k]? = some e) {v : Int32} (h : m_X9_isCellSteps x0 μ = some v) : ax_A G l yX9_isCellSteps cX9_isCellSteps 1 (some .boolean) 2 [.int x0] sh μ (some (.int v), sh, μ) := by
  refine ax_A.of false (by decide +kernel) (fun h9 => by cases h9) (Nat.le_of_ble_eq_true rfl) (?_ : ax_X G l RX9 cX9_isCellSteps 1 (some .boolean) false 2 (some (.int v), sh, μ) 0 [(0, .int x0)] [] sh μ)
  unfold m_X9_isCellSteps at h
  refine ax_iload_n (pc := 0) (i := 0) (q := 0) (ax_dd KX9_isCellSteps 0 rfl) rfl rfl ?_
  by_cases c1 : x0 < 0
  · rw [if_pos c1] at h
    refine ax_if_lt_t (pc := 1) (tgt := 15) (ax_dd KX9_isCellSteps 1 rfl) (by decide) c1 ?_
    refine ax_iconst (pc := 15) (v := 0) (ax_dd KX9_isCellSteps 7 rfl) (by decide) ?_
    obtain rfl := Option.some.inj h
    exact ax_ireti (pc := 16) (ax_dd KX9_isCellSteps 8 rfl) ⟨_, rfl, rfl⟩ rfl
  · rw [if_neg c1] at h
    refine ax_if_lt_f (pc := 1) (tgt := 15) (ax_dd KX9_isCellSteps 1 rfl) (by decide) c1 ?_
    refine ax_iload_n (pc := 4) (i := 0) (q := 0) (ax_dd KX9_isCellSteps 2 rfl) rfl rfl ?_
    refine ax_sipush (pc := 5) (v := 3600) (ax_dd KX9_isCellSteps 3 rfl) (by decide) ?_
    by_cases c2 : 3600 ≤ x0
    · rw [if_pos c2] at h
      refine ax_icmp_ge_t (pc := 8) (tgt := 15) (ax_dd KX9_isCellSteps 4 rfl) (by decide) c2 ?_
      refine ax_iconst (pc := 15) (v := 0) (ax_dd KX9_isCellSteps 7 rfl) (by decide) ?_
      obtain rfl := Option.some.inj h
      exact ax_ireti (pc := 16) (ax_dd KX9_isCellSteps 8 rfl) ⟨_, rfl, rfl⟩ rfl
    · rw [if_neg c2] at h
      refine ax_icmp_ge_f (pc := 8) (tgt := 15) (ax_dd KX9_isCellSteps 4 rfl) (by decide) c2 ?_
      refine ax_iconst (pc := 11) (v := 1) (ax_dd KX9_isCellSteps 5 rfl) (by decide) ?_
      refine ax_goto (pc := 12) (tgt := 16) (ax_dd KX9_isCellSteps 6 rfl) (by decide) ?_
      obtain rfl := Option.some.inj h
      exact ax_ireti (pc := 16) (ax_dd KX9_isCellSteps 8 rfl) ⟨_, rfl, rfl⟩ rfl
def m_X9_drawn (x1 : Int32) (x2 : Int32) (x3 : Int32) (μ : ax_M) : Option (Int32 × ax_M) :=
  (m_X9_isSeed x1 μ).bind fun v1 =>
  if v1 = 0 then
    some ((-2), μ)
  else
    (m_X9_isCellSteps x2 μ).bind fun v4 =>
    if v4 = 0 then
      some ((-2), μ)
    else
      (m_X0_look μ).bind fun μ9 =>
      (m_X2_stroll x1 (x2 / 100) (rmI x2 100) μ9).bind fun μ12 =>
      if x3 = 0 then
        some ((μ12 38 2), μ12)
      else
        if x3 = 1 then
          some ((μ12 38 1), μ12)
        else
          if x3 = 2 then
            some ((μ12 38 3), μ12)
          else
            some ((-2), μ12)
set_option maxRecDepth 100000 in
set_option maxHeartbeats 8000000 in
theorem c_X9_drawn {G : ax_G} {l : Launch} {sh : List ax_E} {x1 : Int32} {x2 : Int32} {x3 : Int32} {μ : ax_M} (hs : ∀ (k : Nat) (e : ax_E), SHc[k]? = some e → sh[k]? = some e) {v : Int32 × ax_M} (h : m_X9_drawn x1 x2 x3 μ = some v) : ax_A G l yX9_drawn cX9_drawn 4 (some .int) 8 [.ref (G.1 + 0), .int x1, .int x2, .int x3] sh μ (some (.int v.1), sh, v.2) := by
  refine ax_A.of false (by decide +kernel) (fun h9 => by cases h9) (Nat.le_of_ble_eq_true rfl) (?_ : ax_X G l RX9 cX9_drawn 4 (some .int) false 8 (some (.int v.1), sh, v.2) 0 [(0, .ref (G.1 + 0)), (1, .int x1), (2, .int x2), (3, .int x3)] [] sh μ)
  unfold m_X9_drawn at h
  refine ax_iload_n (pc := 0) (i := 1) (q := 1) (ax_dd KX9_drawn 0 rfl) rfl rfl ?_
  obtain ⟨v1, b2, h⟩ := ob_bind h
  refine ax_kS (pc := 1) (As := [.int x1]) (rest := []) (st1 := [.int v1]) (μ1 := μ) (ax_dd KX9_drawn 1 rfl) (c_X9_isSeed hs b2) kS_X9_265 e_X9_isSeed rfl rfl (by decide) (by decide) (Nat.le_of_ble_eq_true rfl) rfl ?_
  by_cases c3 : v1 = 0
  · rw [if_pos c3] at h
    refine ax_if_eq_t (pc := 4) (tgt := 14) (ax_dd KX9_drawn 2 rfl) (by decide) c3 ?_
    refine ax_bipush (pc := 14) (v := (-2)) (ax_dd KX9_drawn 6 rfl) (by decide) ?_
    obtain rfl := Option.some.inj h
    exact ax_ireti (pc := 16) (ax_dd KX9_drawn 7 rfl) ⟨_, rfl, rfl⟩ rfl
  · rw [if_neg c3] at h
    refine ax_if_eq_f (pc := 4) (tgt := 14) (ax_dd KX9_drawn 2 rfl) (by decide) c3 ?_
    refine ax_iload_n (pc := 7) (i := 2) (q := 2) (ax_dd KX9_drawn 3 rfl) rfl rfl ?_
    obtain ⟨v4, b5, h⟩ := ob_bind h
    refine ax_kS (pc := 8) (As := [.int x2]) (rest := []) (st1 := [.int v4]) (μ1 := μ) (ax_dd KX9_drawn 4 rfl) (c_X9_isCellSteps hs b5) kS_X9_268 e_X9_isCellSteps rfl rfl (by decide) (by decide) (Nat.le_of_ble_eq_true rfl) rfl ?_
    by_cases c6 : v4 = 0
    · rw [if_pos c6] at h
      refine ax_if_ne_f (pc := 11) (tgt := 17) (ax_dd KX9_drawn 5 rfl) (by decide) (fun z => z c6) ?_
      refine ax_bipush (pc := 14) (v := (-2)) (ax_dd KX9_drawn 6 rfl) (by decide) ?_
      obtain rfl := Option.some.inj h
      exact ax_ireti (pc := 16) (ax_dd KX9_drawn 7 rfl) ⟨_, rfl, rfl⟩ rfl
    · rw [if_neg c6] at h
      refine ax_if_ne_t (pc := 11) (tgt := 17) (ax_dd KX9_drawn 5 rfl) (by decide) c6 ?_
      refine ax_aload_n (pc := 17) (i := 0) (q := 0) (ax_dd KX9_drawn 8 rfl) rfl rfl ?_
      refine ax_getR (pc := 18) (k := 0) (q := 25) (ax_dd KX9_drawn 9 rfl) f_X9_37 (hs 0 _ rfl) rfl ?_
      obtain ⟨μ9, b8, h⟩ := ob_bind h
      refine ax_kV (pc := 21) (ci := 0) (k := 25) (As := []) (rest := []) (st1 := []) (μ1 := μ9) (ax_dd KX9_drawn 10 rfl) (c_X0_look hs b8) kV_X9_160 e_X0_look (hs 25 _ rfl) cl_X0 (by decide) rfl rfl (by decide) (by decide) (Nat.le_of_ble_eq_true rfl) rfl ?_
      refine ax_aload_n (pc := 24) (i := 0) (q := 0) (ax_dd KX9_drawn 11 rfl) rfl rfl ?_
      refine ax_getR (pc := 25) (k := 0) (q := 38) (ax_dd KX9_drawn 12 rfl) f_X9_60 (hs 0 _ rfl) rfl ?_
      refine ax_iload_n (pc := 28) (i := 1) (q := 1) (ax_dd KX9_drawn 13 rfl) rfl rfl ?_
      refine ax_iload_n (pc := 29) (i := 2) (q := 2) (ax_dd KX9_drawn 14 rfl) rfl rfl ?_
      refine ax_bipush (pc := 30) (v := 100) (ax_dd KX9_drawn 15 rfl) (by decide) ?_
      refine ax_idiv (pc := 32) (ax_dd KX9_drawn 16 rfl) (by decide) ?_
      refine ax_iload_n (pc := 33) (i := 2) (q := 2) (ax_dd KX9_drawn 17 rfl) rfl rfl ?_
      refine ax_bipush (pc := 34) (v := 100) (ax_dd KX9_drawn 18 rfl) (by decide) ?_
      refine ax_irem (pc := 36) (ax_dd KX9_drawn 19 rfl) (by decide) ?_
      obtain ⟨μ12, b11, h⟩ := ob_bind h
      refine ax_kV (pc := 37) (ci := 2) (k := 38) (As := [.int x1, .int (x2 / 100), .int (rmI x2 100)]) (rest := []) (st1 := []) (μ1 := μ12) (ax_dd KX9_drawn 20 rfl) (c_X2_stroll hs b11) kV_X9_271 e_X2_stroll (hs 38 _ rfl) cl_X2 (by decide) rfl rfl (by decide) (by decide) (Nat.le_of_ble_eq_true rfl) rfl ?_
      refine ax_iload_n (pc := 40) (i := 3) (q := 3) (ax_dd KX9_drawn 21 rfl) rfl rfl ?_
      by_cases c13 : x3 = 0
      · rw [if_pos c13] at h
        refine ax_tab (pc := 41) (off := 27) (tgt := 68) (ax_dd KX9_drawn 22 rfl) (by rw [c13]; decide) (by rw [c13]; decide) (by rw [c13]; rfl) (by decide) ?_
        refine ax_aload_n (pc := 68) (i := 0) (q := 0) (ax_dd KX9_drawn 23 rfl) rfl rfl ?_
        refine ax_getR (pc := 69) (k := 0) (q := 38) (ax_dd KX9_drawn 24 rfl) f_X9_60 (hs 0 _ rfl) rfl ?_
        refine ax_getI (pc := 72) (k := 38) (ax_dd KX9_drawn 25 rfl) f_X9_274 (hs 38 _ rfl) rfl ?_
        obtain rfl := Option.some.inj h
        exact ax_ireti (pc := 75) (ax_dd KX9_drawn 26 rfl) ⟨_, rfl, rfl⟩ rfl
      · rw [if_neg c13] at h
        by_cases c14 : x3 = 1
        · rw [if_pos c14] at h
          refine ax_tab (pc := 41) (off := 35) (tgt := 76) (ax_dd KX9_drawn 22 rfl) (by rw [c14]; decide) (by rw [c14]; decide) (by rw [c14]; rfl) (by decide) ?_
          refine ax_aload_n (pc := 76) (i := 0) (q := 0) (ax_dd KX9_drawn 27 rfl) rfl rfl ?_
          refine ax_getR (pc := 77) (k := 0) (q := 38) (ax_dd KX9_drawn 28 rfl) f_X9_60 (hs 0 _ rfl) rfl ?_
          refine ax_getI (pc := 80) (k := 38) (ax_dd KX9_drawn 29 rfl) f_X9_275 (hs 38 _ rfl) rfl ?_
          obtain rfl := Option.some.inj h
          exact ax_ireti (pc := 83) (ax_dd KX9_drawn 30 rfl) ⟨_, rfl, rfl⟩ rfl
        · rw [if_neg c14] at h
          by_cases c15 : x3 = 2
          · rw [if_pos c15] at h
            refine ax_tab (pc := 41) (off := 43) (tgt := 84) (ax_dd KX9_drawn 22 rfl) (by rw [c15]; decide) (by rw [c15]; decide) (by rw [c15]; rfl) (by decide) ?_
            refine ax_aload_n (pc := 84) (i := 0) (q := 0) (ax_dd KX9_drawn 31 rfl) rfl rfl ?_
            refine ax_getR (pc := 85) (k := 0) (q := 38) (ax_dd KX9_drawn 32 rfl) f_X9_60 (hs 0 _ rfl) rfl ?_
            refine ax_getI (pc := 88) (k := 38) (ax_dd KX9_drawn 33 rfl) f_X9_278 (hs 38 _ rfl) rfl ?_
            obtain rfl := Option.some.inj h
            exact ax_ireti (pc := 91) (ax_dd KX9_drawn 34 rfl) ⟨_, rfl, rfl⟩ rfl
          · rw [if_neg c15] at h
            refine ax_tabD (pc := 41) (tgt := 92) (ax_dd KX9_drawn 22 rfl) (by have e0 := ax_ne c13 (a := 0) rfl; have e1 := ax_ne c14 (a := 1) rfl; have e2 := ax_ne c15 (a := 2) rfl; omega) (by decide) ?_
            refine ax_bipush (pc := 92) (v := (-2)) (ax_dd KX9_drawn 35 rfl) (by decide) ?_
            obtain rfl := Option.some.inj h
            exact ax_ireti (pc := 94) (ax_dd KX9_drawn 36 rfl) ⟨_, rfl, rfl⟩ rfl
def m_X9_odds_70 (x1 : Int32) (x2 : Int32) (x3 : Int32) (x4 : Int32) (x5 : Int32) : Nat → Int32 → Int32 → ax_M → Option (Int64 × ax_M)
  | 0, _, _, _ => none
  | n + 1, x6, x7, μ =>
    if x2 ≤ x7 then
      (m_X9_inLowestTerms x6 x2 x5 μ).bind fun v2 =>
      some (v2, μ)
    else
      (m_X2_stroll (x1 + x7) (x3 / 100) (rmI x3 100) μ).bind fun μ6 =>
      if (μ6 38 2) < x4 then
        m_X9_odds_70 x1 x2 x3 x4 x5 n x6 (x7 + 1) μ6
      else
        m_X9_odds_70 x1 x2 x3 x4 x5 n (x6 + 1) (x7 + 1) μ6
set_option maxRecDepth 100000 in
set_option maxHeartbeats 8000000 in
theorem a_X9_odds_70 {G : ax_G} {l : Launch} {sh : List ax_E} {x1 : Int32} {x2 : Int32} {x3 : Int32} {x4 : Int32} {x5 : Int32} (hs : ∀ (k : Nat) (e : ax_E), SHc[k]? = some e → sh[k]? = some e) : ∀ (n : Nat) (x6 : Int32) (x7 : Int32) (μ : ax_M) (v : Int64 × ax_M), m_X9_odds_70 x1 x2 x3 x4 x5 n x6 x7 μ = some v → ax_X G l RX9 cX9_odds 8 (some .long) false 8 (some (.long v.1), sh, v.2) 70 [(0, .ref (G.1 + 0)), (1, .int x1), (2, .int x2), (3, .int x3), (4, .int x4), (5, .int x5), (6, .int x6), (7, .int x7)] [] sh μ := by
  intro n
  induction n with
  | zero =>
    intro x6 x7 μ v h
    rw [m_X9_odds_70] at h
    cases h
  | succ n ih =>
    intro x6 x7 μ v h
    rw [m_X9_odds_70] at h
    refine ax_iload (pc := 70) (q := 7) (ax_dd KX9_odds 33 rfl) rfl ?_
    refine ax_iload_n (pc := 72) (i := 2) (q := 2) (ax_dd KX9_odds 34 rfl) rfl rfl ?_
    by_cases c1 : x2 ≤ x7
    · rw [if_pos c1] at h
      refine ax_icmp_ge_t (pc := 73) (tgt := 116) (ax_dd KX9_odds 35 rfl) (by decide) c1 ?_
      refine ax_iload (pc := 116) (q := 6) (ax_dd KX9_odds 56 rfl) rfl ?_
      refine ax_iload_n (pc := 118) (i := 2) (q := 2) (ax_dd KX9_odds 57 rfl) rfl rfl ?_
      refine ax_iload (pc := 119) (q := 5) (ax_dd KX9_odds 58 rfl) rfl ?_
      obtain ⟨v2, b3, h⟩ := ob_bind h
      refine ax_kS (pc := 121) (As := [.int x6, .int x2, .int x5]) (rest := []) (st1 := [.long v2]) (μ1 := μ) (ax_dd KX9_odds 59 rfl) (c_X9_inLowestTerms hs b3) kS_X9_237 e_X9_inLowestTerms rfl rfl (by decide) (by decide) (Nat.le_of_ble_eq_true rfl) rfl ?_
      obtain rfl := Option.some.inj h
      exact ax_lret (pc := 124) (ax_dd KX9_odds 60 rfl) rfl rfl
    · rw [if_neg c1] at h
      refine ax_icmp_ge_f (pc := 73) (tgt := 116) (ax_dd KX9_odds 35 rfl) (by decide) c1 ?_
      refine ax_aload_n (pc := 76) (i := 0) (q := 0) (ax_dd KX9_odds 36 rfl) rfl rfl ?_
      refine ax_getR (pc := 77) (k := 0) (q := 38) (ax_dd KX9_odds 37 rfl) f_X9_60 (hs 0 _ rfl) rfl ?_
      refine ax_iload_n (pc := 80) (i := 1) (q := 1) (ax_dd KX9_odds 38 rfl) rfl rfl ?_
      refine ax_iload (pc := 81) (q := 7) (ax_dd KX9_odds 39 rfl) rfl ?_
      refine ax_iadd (pc := 83) (ax_dd KX9_odds 40 rfl) ?_
      refine ax_iload_n (pc := 84) (i := 3) (q := 3) (ax_dd KX9_odds 41 rfl) rfl rfl ?_
      refine ax_bipush (pc := 85) (v := 100) (ax_dd KX9_odds 42 rfl) (by decide) ?_
      refine ax_idiv (pc := 87) (ax_dd KX9_odds 43 rfl) (by decide) ?_
      refine ax_iload_n (pc := 88) (i := 3) (q := 3) (ax_dd KX9_odds 44 rfl) rfl rfl ?_
      refine ax_bipush (pc := 89) (v := 100) (ax_dd KX9_odds 45 rfl) (by decide) ?_
      refine ax_irem (pc := 91) (ax_dd KX9_odds 46 rfl) (by decide) ?_
      obtain ⟨μ6, b5, h⟩ := ob_bind h
      refine ax_kV (pc := 92) (ci := 2) (k := 38) (As := [.int (x1 + x7), .int (x3 / 100), .int (rmI x3 100)]) (rest := []) (st1 := []) (μ1 := μ6) (ax_dd KX9_odds 47 rfl) (c_X2_stroll hs b5) kV_X9_271 e_X2_stroll (hs 38 _ rfl) cl_X2 (by decide) rfl rfl (by decide) (by decide) (Nat.le_of_ble_eq_true rfl) rfl ?_
      refine ax_aload_n (pc := 95) (i := 0) (q := 0) (ax_dd KX9_odds 48 rfl) rfl rfl ?_
      refine ax_getR (pc := 96) (k := 0) (q := 38) (ax_dd KX9_odds 49 rfl) f_X9_60 (hs 0 _ rfl) rfl ?_
      refine ax_getI (pc := 99) (k := 38) (ax_dd KX9_odds 50 rfl) f_X9_274 (hs 38 _ rfl) rfl ?_
      refine ax_iload (pc := 102) (q := 4) (ax_dd KX9_odds 51 rfl) rfl ?_
      by_cases c7 : (μ6 38 2) < x4
      · rw [if_pos c7] at h
        refine ax_icmp_lt_t (pc := 104) (tgt := 110) (ax_dd KX9_odds 52 rfl) (by decide) c7 ?_
        refine ax_iinc (pc := 110) (q := 7) (v := (x7 + 1)) (lv' := [(7, .int (x7 + 1)), (0, .ref (G.1 + 0)), (1, .int x1), (2, .int x2), (3, .int x3), (4, .int x4), (5, .int x5), (6, .int x6)]) (ax_dd KX9_odds 54 rfl) rfl rfl (by decide) rfl ?_
        refine ax_goto (pc := 113) (tgt := 70) (ax_dd KX9_odds 55 rfl) (by decide) ?_
        refine ax_sub (lv' := [(0, .ref (G.1 + 0)), (1, .int x1), (2, .int x2), (3, .int x3), (4, .int x4), (5, .int x5), (6, .int x6), (7, .int (x7 + 1))]) [1, 2, 3, 4, 5, 6, 7, 0] rfl ?_
        exact ih _ _ _ _ h
      · rw [if_neg c7] at h
        refine ax_icmp_lt_f (pc := 104) (tgt := 110) (ax_dd KX9_odds 52 rfl) (by decide) c7 ?_
        refine ax_iinc (pc := 107) (q := 6) (v := (x6 + 1)) (lv' := [(6, .int (x6 + 1)), (0, .ref (G.1 + 0)), (1, .int x1), (2, .int x2), (3, .int x3), (4, .int x4), (5, .int x5), (7, .int x7)]) (ax_dd KX9_odds 53 rfl) rfl rfl (by decide) rfl ?_
        refine ax_iinc (pc := 110) (q := 7) (v := (x7 + 1)) (lv' := [(7, .int (x7 + 1)), (6, .int (x6 + 1)), (0, .ref (G.1 + 0)), (1, .int x1), (2, .int x2), (3, .int x3), (4, .int x4), (5, .int x5)]) (ax_dd KX9_odds 54 rfl) rfl rfl (by decide) rfl ?_
        refine ax_goto (pc := 113) (tgt := 70) (ax_dd KX9_odds 55 rfl) (by decide) ?_
        refine ax_sub (lv' := [(0, .ref (G.1 + 0)), (1, .int x1), (2, .int x2), (3, .int x3), (4, .int x4), (5, .int x5), (6, .int (x6 + 1)), (7, .int (x7 + 1))]) [2, 3, 4, 5, 6, 7, 1, 0] rfl ?_
        exact ih _ _ _ _ h
def m_X9_odds (x1 : Int32) (x2 : Int32) (x3 : Int32) (x4 : Int32) (x5 : Int32) (μ : ax_M) : Option (Int64 × ax_M) :=
  (m_X9_isSeed x1 μ).bind fun v1 =>
  if v1 = 0 then
    some ((-4611686018427387904), μ)
  else
    if x2 < 1 then
      some ((-4611686018427387904), μ)
    else
      if 40 < x2 then
        some ((-4611686018427387904), μ)
      else
        (m_X9_isCellSteps x3 μ).bind fun v6 =>
        if v6 = 0 then
          some ((-4611686018427387904), μ)
        else
          if x4 < 0 then
            some ((-4611686018427387904), μ)
          else
            if 99999 < x4 then
              some ((-4611686018427387904), μ)
            else
              if x5 < 0 then
                some ((-4611686018427387904), μ)
              else
                if x5 ≤ 1 then
                  (m_X0_look μ).bind fun μ15 =>
                  m_X9_odds_70 x1 x2 x3 x4 x5 fu 0 0 μ15
                else
                  some ((-4611686018427387904), μ)
set_option maxRecDepth 100000 in
set_option maxHeartbeats 8000000 in
theorem c_X9_odds {G : ax_G} {l : Launch} {sh : List ax_E} {x1 : Int32} {x2 : Int32} {x3 : Int32} {x4 : Int32} {x5 : Int32} {μ : ax_M} (hs : ∀ (k : Nat) (e : ax_E), SHc[k]? = some e → sh[k]? = some e) {v : Int64 × ax_M} (h : m_X9_odds x1 x2 x3 x4 x5 μ = some v) : ax_A G l yX9_odds cX9_odds 8 (some .long) 8 [.ref (G.1 + 0), .int x1, .int x2, .int x3, .int x4, .int x5] sh μ (some (.long v.1), sh, v.2) := by
  refine ax_A.of false (by decide +kernel) (fun h9 => by cases h9) (Nat.le_of_ble_eq_true rfl) (?_ : ax_X G l RX9 cX9_odds 8 (some .long) false 8 (some (.long v.1), sh, v.2) 0 [(0, .ref (G.1 + 0)), (1, .int x1), (2, .int x2), (3, .int x3), (4, .int x4), (5, .int x5)] [] sh μ)
  unfold m_X9_odds at h
  refine ax_iload_n (pc := 0) (i := 1) (q := 1) (ax_dd KX9_odds 0 rfl) rfl rfl ?_
  obtain ⟨v1, b2, h⟩ := ob_bind h
  refine ax_kS (pc := 1) (As := [.int x1]) (rest := []) (st1 := [.int v1]) (μ1 := μ) (ax_dd KX9_odds 1 rfl) (c_X9_isSeed hs b2) kS_X9_265 e_X9_isSeed rfl rfl (by decide) (by decide) (Nat.le_of_ble_eq_true rfl) rfl ?_
  by_cases c3 : v1 = 0
  · rw [if_pos c3] at h
    refine ax_if_eq_t (pc := 4) (tgt := 25) (ax_dd KX9_odds 2 rfl) (by decide) c3 ?_
    refine ax_ldc2 (pc := 25) (ax_dd KX9_odds 12 rfl) c_X9_175 ?_
    obtain rfl := Option.some.inj h
    exact ax_lret (pc := 28) (ax_dd KX9_odds 13 rfl) rfl rfl
  · rw [if_neg c3] at h
    refine ax_if_eq_f (pc := 4) (tgt := 25) (ax_dd KX9_odds 2 rfl) (by decide) c3 ?_
    refine ax_iload_n (pc := 7) (i := 2) (q := 2) (ax_dd KX9_odds 3 rfl) rfl rfl ?_
    refine ax_iconst (pc := 8) (v := 1) (ax_dd KX9_odds 4 rfl) (by decide) ?_
    by_cases c4 : x2 < 1
    · rw [if_pos c4] at h
      refine ax_icmp_lt_t (pc := 9) (tgt := 25) (ax_dd KX9_odds 5 rfl) (by decide) c4 ?_
      refine ax_ldc2 (pc := 25) (ax_dd KX9_odds 12 rfl) c_X9_175 ?_
      obtain rfl := Option.some.inj h
      exact ax_lret (pc := 28) (ax_dd KX9_odds 13 rfl) rfl rfl
    · rw [if_neg c4] at h
      refine ax_icmp_lt_f (pc := 9) (tgt := 25) (ax_dd KX9_odds 5 rfl) (by decide) c4 ?_
      refine ax_iload_n (pc := 12) (i := 2) (q := 2) (ax_dd KX9_odds 6 rfl) rfl rfl ?_
      refine ax_bipush (pc := 13) (v := 40) (ax_dd KX9_odds 7 rfl) (by decide) ?_
      by_cases c5 : 40 < x2
      · rw [if_pos c5] at h
        refine ax_icmp_gt_t (pc := 15) (tgt := 25) (ax_dd KX9_odds 8 rfl) (by decide) c5 ?_
        refine ax_ldc2 (pc := 25) (ax_dd KX9_odds 12 rfl) c_X9_175 ?_
        obtain rfl := Option.some.inj h
        exact ax_lret (pc := 28) (ax_dd KX9_odds 13 rfl) rfl rfl
      · rw [if_neg c5] at h
        refine ax_icmp_gt_f (pc := 15) (tgt := 25) (ax_dd KX9_odds 8 rfl) (by decide) c5 ?_
        refine ax_iload_n (pc := 18) (i := 3) (q := 3) (ax_dd KX9_odds 9 rfl) rfl rfl ?_
        obtain ⟨v6, b7, h⟩ := ob_bind h
        refine ax_kS (pc := 19) (As := [.int x3]) (rest := []) (st1 := [.int v6]) (μ1 := μ) (ax_dd KX9_odds 10 rfl) (c_X9_isCellSteps hs b7) kS_X9_268 e_X9_isCellSteps rfl rfl (by decide) (by decide) (Nat.le_of_ble_eq_true rfl) rfl ?_
        by_cases c8 : v6 = 0
        · rw [if_pos c8] at h
          refine ax_if_ne_f (pc := 22) (tgt := 29) (ax_dd KX9_odds 11 rfl) (by decide) (fun z => z c8) ?_
          refine ax_ldc2 (pc := 25) (ax_dd KX9_odds 12 rfl) c_X9_175 ?_
          obtain rfl := Option.some.inj h
          exact ax_lret (pc := 28) (ax_dd KX9_odds 13 rfl) rfl rfl
        · rw [if_neg c8] at h
          refine ax_if_ne_t (pc := 22) (tgt := 29) (ax_dd KX9_odds 11 rfl) (by decide) c8 ?_
          refine ax_iload (pc := 29) (q := 4) (ax_dd KX9_odds 14 rfl) rfl ?_
          by_cases c9 : x4 < 0
          · rw [if_pos c9] at h
            refine ax_if_lt_t (pc := 31) (tgt := 53) (ax_dd KX9_odds 15 rfl) (by decide) c9 ?_
            refine ax_ldc2 (pc := 53) (ax_dd KX9_odds 24 rfl) c_X9_175 ?_
            obtain rfl := Option.some.inj h
            exact ax_lret (pc := 56) (ax_dd KX9_odds 25 rfl) rfl rfl
          · rw [if_neg c9] at h
            refine ax_if_lt_f (pc := 31) (tgt := 53) (ax_dd KX9_odds 15 rfl) (by decide) c9 ?_
            refine ax_iload (pc := 34) (q := 4) (ax_dd KX9_odds 16 rfl) rfl ?_
            refine ax_ldcw (pc := 36) (ax_dd KX9_odds 17 rfl) c_X9_281 ?_
            by_cases c10 : 99999 < x4
            · rw [if_pos c10] at h
              refine ax_icmp_gt_t (pc := 39) (tgt := 53) (ax_dd KX9_odds 18 rfl) (by decide) c10 ?_
              refine ax_ldc2 (pc := 53) (ax_dd KX9_odds 24 rfl) c_X9_175 ?_
              obtain rfl := Option.some.inj h
              exact ax_lret (pc := 56) (ax_dd KX9_odds 25 rfl) rfl rfl
            · rw [if_neg c10] at h
              refine ax_icmp_gt_f (pc := 39) (tgt := 53) (ax_dd KX9_odds 18 rfl) (by decide) c10 ?_
              refine ax_iload (pc := 42) (q := 5) (ax_dd KX9_odds 19 rfl) rfl ?_
              by_cases c11 : x5 < 0
              · rw [if_pos c11] at h
                refine ax_if_lt_t (pc := 44) (tgt := 53) (ax_dd KX9_odds 20 rfl) (by decide) c11 ?_
                refine ax_ldc2 (pc := 53) (ax_dd KX9_odds 24 rfl) c_X9_175 ?_
                obtain rfl := Option.some.inj h
                exact ax_lret (pc := 56) (ax_dd KX9_odds 25 rfl) rfl rfl
              · rw [if_neg c11] at h
                refine ax_if_lt_f (pc := 44) (tgt := 53) (ax_dd KX9_odds 20 rfl) (by decide) c11 ?_
                refine ax_iload (pc := 47) (q := 5) (ax_dd KX9_odds 21 rfl) rfl ?_
                refine ax_iconst (pc := 49) (v := 1) (ax_dd KX9_odds 22 rfl) (by decide) ?_
                by_cases c12 : x5 ≤ 1
                · rw [if_pos c12] at h
                  refine ax_icmp_le_t (pc := 50) (tgt := 57) (ax_dd KX9_odds 23 rfl) (by decide) c12 ?_
                  refine ax_aload_n (pc := 57) (i := 0) (q := 0) (ax_dd KX9_odds 26 rfl) rfl rfl ?_
                  refine ax_getR (pc := 58) (k := 0) (q := 25) (ax_dd KX9_odds 27 rfl) f_X9_37 (hs 0 _ rfl) rfl ?_
                  obtain ⟨μ15, b14, h⟩ := ob_bind h
                  refine ax_kV (pc := 61) (ci := 0) (k := 25) (As := []) (rest := []) (st1 := []) (μ1 := μ15) (ax_dd KX9_odds 28 rfl) (c_X0_look hs b14) kV_X9_160 e_X0_look (hs 25 _ rfl) cl_X0 (by decide) rfl rfl (by decide) (by decide) (Nat.le_of_ble_eq_true rfl) rfl ?_
                  refine ax_iconst (pc := 64) (v := 0) (ax_dd KX9_odds 29 rfl) (by decide) ?_
                  refine ax_istore (pc := 65) (lv' := [(6, .int 0), (0, .ref (G.1 + 0)), (1, .int x1), (2, .int x2), (3, .int x3), (4, .int x4), (5, .int x5)]) (ax_dd KX9_odds 30 rfl) (by decide) rfl ?_
                  refine ax_iconst (pc := 67) (v := 0) (ax_dd KX9_odds 31 rfl) (by decide) ?_
                  refine ax_istore (pc := 68) (lv' := [(7, .int 0), (6, .int 0), (0, .ref (G.1 + 0)), (1, .int x1), (2, .int x2), (3, .int x3), (4, .int x4), (5, .int x5)]) (ax_dd KX9_odds 32 rfl) (by decide) rfl ?_
                  refine ax_sub (lv' := [(0, .ref (G.1 + 0)), (1, .int x1), (2, .int x2), (3, .int x3), (4, .int x4), (5, .int x5), (6, .int 0), (7, .int 0)]) [2, 3, 4, 5, 6, 7, 1, 0] rfl ?_
                  exact a_X9_odds_70 hs fu _ _ _ _ h
                · rw [if_neg c12] at h
                  refine ax_icmp_le_f (pc := 50) (tgt := 57) (ax_dd KX9_odds 23 rfl) (by decide) c12 ?_
                  refine ax_ldc2 (pc := 53) (ax_dd KX9_odds 24 rfl) c_X9_175 ?_
                  obtain rfl := Option.some.inj h
                  exact ax_lret (pc := 56) (ax_dd KX9_odds 25 rfl) rfl rfl
def m_X9_image (μ : ax_M) : Option (Int32 × ax_M) :=
  (m_X1_keep μ).bind fun μ3 =>
  some ((μ3 25 1), μ3)
set_option maxRecDepth 100000 in
set_option maxHeartbeats 8000000 in
theorem c_X9_image {G : ax_G} {l : Launch} {sh : List ax_E} {μ : ax_M} (hs : ∀ (k : Nat) (e : ax_E), SHc[k]? = some e → sh[k]? = some e) {v : Int32 × ax_M} (h : m_X9_image μ = some v) : ax_A G l yX9_image cX9_image 1 (some .int) 3 [.ref (G.1 + 0)] sh μ (some (.int v.1), sh, v.2) := by
  refine ax_A.of false (by decide +kernel) (fun h9 => by cases h9) (Nat.le_of_ble_eq_true rfl) (?_ : ax_X G l RX9 cX9_image 1 (some .int) false 3 (some (.int v.1), sh, v.2) 0 [(0, .ref (G.1 + 0))] [] sh μ)
  unfold m_X9_image at h
  refine ax_aload_n (pc := 0) (i := 0) (q := 0) (ax_dd KX9_image 0 rfl) rfl rfl ?_
  refine ax_getR (pc := 1) (k := 0) (q := 39) (ax_dd KX9_image 1 rfl) f_X9_67 (hs 0 _ rfl) rfl ?_
  refine ax_aload_n (pc := 4) (i := 0) (q := 0) (ax_dd KX9_image 2 rfl) rfl rfl ?_
  refine ax_getR (pc := 5) (k := 0) (q := 25) (ax_dd KX9_image 3 rfl) f_X9_37 (hs 0 _ rfl) rfl ?_
  obtain ⟨μ3, b2, h⟩ := ob_bind h
  refine ax_kV (pc := 8) (ci := 1) (k := 39) (As := [.ref (G.1 + 25)]) (rest := []) (st1 := []) (μ1 := μ3) (ax_dd KX9_image 4 rfl) (c_X1_keep hs b2) kV_X9_282 e_X1_keep (hs 39 _ rfl) cl_X1 (by decide) rfl rfl (by decide) (by decide) (Nat.le_of_ble_eq_true rfl) rfl ?_
  refine ax_aload_n (pc := 11) (i := 0) (q := 0) (ax_dd KX9_image 5 rfl) rfl rfl ?_
  refine ax_getR (pc := 12) (k := 0) (q := 25) (ax_dd KX9_image 6 rfl) f_X9_37 (hs 0 _ rfl) rfl ?_
  refine ax_getI (pc := 15) (k := 25) (ax_dd KX9_image 7 rfl) f_X9_97 (hs 25 _ rfl) rfl ?_
  obtain rfl := Option.some.inj h
  exact ax_ireti (pc := 18) (ax_dd KX9_image 8 rfl) ⟨_, rfl, rfl⟩ rfl
def m_X9_back (μ : ax_M) : Option (Int32 × ax_M) :=
  if (μ 39 0) = 0 then
    some ((-3), μ)
  else
    (m_X1_restore μ).bind fun μ4 =>
    some ((μ4 25 1), μ4)
set_option maxRecDepth 100000 in
set_option maxHeartbeats 8000000 in
theorem c_X9_back {G : ax_G} {l : Launch} {sh : List ax_E} {μ : ax_M} (hs : ∀ (k : Nat) (e : ax_E), SHc[k]? = some e → sh[k]? = some e) {v : Int32 × ax_M} (h : m_X9_back μ = some v) : ax_A G l yX9_back cX9_back 1 (some .int) 5 [.ref (G.1 + 0)] sh μ (some (.int v.1), sh, v.2) := by
  refine ax_A.of false (by decide +kernel) (fun h9 => by cases h9) (Nat.le_of_ble_eq_true rfl) (?_ : ax_X G l RX9 cX9_back 1 (some .int) false 5 (some (.int v.1), sh, v.2) 0 [(0, .ref (G.1 + 0))] [] sh μ)
  unfold m_X9_back at h
  refine ax_aload_n (pc := 0) (i := 0) (q := 0) (ax_dd KX9_back 0 rfl) rfl rfl ?_
  refine ax_getR (pc := 1) (k := 0) (q := 39) (ax_dd KX9_back 1 rfl) f_X9_67 (hs 0 _ rfl) rfl ?_
  refine ax_getI (pc := 4) (k := 39) (ax_dd KX9_back 2 rfl) f_X9_285 (hs 39 _ rfl) rfl ?_
  by_cases c1 : (μ 39 0) = 0
  · rw [if_pos c1] at h
    refine ax_if_ne_f (pc := 7) (tgt := 13) (ax_dd KX9_back 3 rfl) (by decide) (fun z => z c1) ?_
    refine ax_bipush (pc := 10) (v := (-3)) (ax_dd KX9_back 4 rfl) (by decide) ?_
    obtain rfl := Option.some.inj h
    exact ax_ireti (pc := 12) (ax_dd KX9_back 5 rfl) ⟨_, rfl, rfl⟩ rfl
  · rw [if_neg c1] at h
    refine ax_if_ne_t (pc := 7) (tgt := 13) (ax_dd KX9_back 3 rfl) (by decide) c1 ?_
    refine ax_aload_n (pc := 13) (i := 0) (q := 0) (ax_dd KX9_back 6 rfl) rfl rfl ?_
    refine ax_getR (pc := 14) (k := 0) (q := 39) (ax_dd KX9_back 7 rfl) f_X9_67 (hs 0 _ rfl) rfl ?_
    refine ax_aload_n (pc := 17) (i := 0) (q := 0) (ax_dd KX9_back 8 rfl) rfl rfl ?_
    refine ax_getR (pc := 18) (k := 0) (q := 25) (ax_dd KX9_back 9 rfl) f_X9_37 (hs 0 _ rfl) rfl ?_
    obtain ⟨μ4, b3, h⟩ := ob_bind h
    refine ax_kV (pc := 21) (ci := 1) (k := 39) (As := [.ref (G.1 + 25)]) (rest := []) (st1 := []) (μ1 := μ4) (ax_dd KX9_back 10 rfl) (c_X1_restore hs b3) kV_X9_289 e_X1_restore (hs 39 _ rfl) cl_X1 (by decide) rfl rfl (by decide) (by decide) (Nat.le_of_ble_eq_true rfl) rfl ?_
    refine ax_aload_n (pc := 24) (i := 0) (q := 0) (ax_dd KX9_back 11 rfl) rfl rfl ?_
    refine ax_getR (pc := 25) (k := 0) (q := 25) (ax_dd KX9_back 12 rfl) f_X9_37 (hs 0 _ rfl) rfl ?_
    refine ax_getI (pc := 28) (k := 25) (ax_dd KX9_back 13 rfl) f_X9_97 (hs 25 _ rfl) rfl ?_
    obtain rfl := Option.some.inj h
    exact ax_ireti (pc := 31) (ax_dd KX9_back 14 rfl) ⟨_, rfl, rfl⟩ rfl
def m_X9_sheet (x1 : Int32) (x2 : Int32) (x3 : Int32) (μ : ax_M) : Option (Int32 × ax_M) :=
  if x1 < 0 then
    some ((-2), μ)
  else
    if 4 ≤ x1 then
      some ((-2), μ)
    else
      if x2 < (-1) then
        some ((-2), μ)
      else
        if x2 < 3 then
          if x2 = (-1) then
            (m_X4_renew x1 (-1) 0 μ).bind fun μ8 =>
            some (1, μ8)
          else
            if x3 ≤ 40 then
              if 0 ≤ x3 then
                (m_X4_renew x1 x2 x3 μ).bind fun μ13 =>
                some (1, μ13)
              else
                some ((-14), μ)
            else
              some ((-2), μ)
        else
          some ((-2), μ)
set_option maxRecDepth 100000 in
set_option maxHeartbeats 8000000 in
theorem c_X9_sheet {G : ax_G} {l : Launch} {sh : List ax_E} {x1 : Int32} {x2 : Int32} {x3 : Int32} {μ : ax_M} (hs : ∀ (k : Nat) (e : ax_E), SHc[k]? = some e → sh[k]? = some e) {v : Int32 × ax_M} (h : m_X9_sheet x1 x2 x3 μ = some v) : ax_A G l yX9_sheet cX9_sheet 4 (some .int) 3 [.ref (G.1 + 0), .int x1, .int x2, .int x3] sh μ (some (.int v.1), sh, v.2) := by
  refine ax_A.of false (by decide +kernel) (fun h9 => by cases h9) (Nat.le_of_ble_eq_true rfl) (?_ : ax_X G l RX9 cX9_sheet 4 (some .int) false 3 (some (.int v.1), sh, v.2) 0 [(0, .ref (G.1 + 0)), (1, .int x1), (2, .int x2), (3, .int x3)] [] sh μ)
  unfold m_X9_sheet at h
  refine ax_iload_n (pc := 0) (i := 1) (q := 1) (ax_dd KX9_sheet 0 rfl) rfl rfl ?_
  by_cases c1 : x1 < 0
  · rw [if_pos c1] at h
    refine ax_if_lt_t (pc := 1) (tgt := 19) (ax_dd KX9_sheet 1 rfl) (by decide) c1 ?_
    refine ax_bipush (pc := 19) (v := (-2)) (ax_dd KX9_sheet 11 rfl) (by decide) ?_
    obtain rfl := Option.some.inj h
    exact ax_ireti (pc := 21) (ax_dd KX9_sheet 12 rfl) ⟨_, rfl, rfl⟩ rfl
  · rw [if_neg c1] at h
    refine ax_if_lt_f (pc := 1) (tgt := 19) (ax_dd KX9_sheet 1 rfl) (by decide) c1 ?_
    refine ax_iload_n (pc := 4) (i := 1) (q := 1) (ax_dd KX9_sheet 2 rfl) rfl rfl ?_
    refine ax_iconst (pc := 5) (v := 4) (ax_dd KX9_sheet 3 rfl) (by decide) ?_
    by_cases c2 : 4 ≤ x1
    · rw [if_pos c2] at h
      refine ax_icmp_ge_t (pc := 6) (tgt := 19) (ax_dd KX9_sheet 4 rfl) (by decide) c2 ?_
      refine ax_bipush (pc := 19) (v := (-2)) (ax_dd KX9_sheet 11 rfl) (by decide) ?_
      obtain rfl := Option.some.inj h
      exact ax_ireti (pc := 21) (ax_dd KX9_sheet 12 rfl) ⟨_, rfl, rfl⟩ rfl
    · rw [if_neg c2] at h
      refine ax_icmp_ge_f (pc := 6) (tgt := 19) (ax_dd KX9_sheet 4 rfl) (by decide) c2 ?_
      refine ax_iload_n (pc := 9) (i := 2) (q := 2) (ax_dd KX9_sheet 5 rfl) rfl rfl ?_
      refine ax_iconst (pc := 10) (v := (-1)) (ax_dd KX9_sheet 6 rfl) (by decide) ?_
      by_cases c3 : x2 < (-1)
      · rw [if_pos c3] at h
        refine ax_icmp_lt_t (pc := 11) (tgt := 19) (ax_dd KX9_sheet 7 rfl) (by decide) c3 ?_
        refine ax_bipush (pc := 19) (v := (-2)) (ax_dd KX9_sheet 11 rfl) (by decide) ?_
        obtain rfl := Option.some.inj h
        exact ax_ireti (pc := 21) (ax_dd KX9_sheet 12 rfl) ⟨_, rfl, rfl⟩ rfl
      · rw [if_neg c3] at h
        refine ax_icmp_lt_f (pc := 11) (tgt := 19) (ax_dd KX9_sheet 7 rfl) (by decide) c3 ?_
        refine ax_iload_n (pc := 14) (i := 2) (q := 2) (ax_dd KX9_sheet 8 rfl) rfl rfl ?_
        refine ax_iconst (pc := 15) (v := 3) (ax_dd KX9_sheet 9 rfl) (by decide) ?_
        by_cases c4 : x2 < 3
        · rw [if_pos c4] at h
          refine ax_icmp_lt_t (pc := 16) (tgt := 22) (ax_dd KX9_sheet 10 rfl) (by decide) c4 ?_
          refine ax_iload_n (pc := 22) (i := 2) (q := 2) (ax_dd KX9_sheet 13 rfl) rfl rfl ?_
          refine ax_iconst (pc := 23) (v := (-1)) (ax_dd KX9_sheet 14 rfl) (by decide) ?_
          by_cases c5 : x2 = (-1)
          · rw [if_pos c5] at h
            refine ax_icmp_ne_f (pc := 24) (tgt := 39) (ax_dd KX9_sheet 15 rfl) (by decide) (fun z => z c5) ?_
            refine ax_aload_n (pc := 27) (i := 0) (q := 0) (ax_dd KX9_sheet 16 rfl) rfl rfl ?_
            refine ax_getR (pc := 28) (k := 0) (q := 43) (ax_dd KX9_sheet 17 rfl) f_X9_74 (hs 0 _ rfl) rfl ?_
            refine ax_iload_n (pc := 31) (i := 1) (q := 1) (ax_dd KX9_sheet 18 rfl) rfl rfl ?_
            refine ax_iconst (pc := 32) (v := (-1)) (ax_dd KX9_sheet 19 rfl) (by decide) ?_
            refine ax_iconst (pc := 33) (v := 0) (ax_dd KX9_sheet 20 rfl) (by decide) ?_
            obtain ⟨μ8, b7, h⟩ := ob_bind h
            refine ax_kV (pc := 34) (ci := 4) (k := 43) (As := [.int x1, .int (-1), .int 0]) (rest := []) (st1 := []) (μ1 := μ8) (ax_dd KX9_sheet 21 rfl) (c_X4_renew hs b7) kV_X9_256 e_X4_renew (hs 43 _ rfl) cl_X4 (by decide) rfl rfl (by decide) (by decide) (Nat.le_of_ble_eq_true rfl) rfl ?_
            refine ax_iconst (pc := 37) (v := 1) (ax_dd KX9_sheet 22 rfl) (by decide) ?_
            obtain rfl := Option.some.inj h
            exact ax_ireti (pc := 38) (ax_dd KX9_sheet 23 rfl) ⟨_, rfl, rfl⟩ rfl
          · rw [if_neg c5] at h
            refine ax_icmp_ne_t (pc := 24) (tgt := 39) (ax_dd KX9_sheet 15 rfl) (by decide) c5 ?_
            refine ax_iload_n (pc := 39) (i := 3) (q := 3) (ax_dd KX9_sheet 24 rfl) rfl rfl ?_
            refine ax_bipush (pc := 40) (v := 40) (ax_dd KX9_sheet 25 rfl) (by decide) ?_
            by_cases c9 : x3 ≤ 40
            · rw [if_pos c9] at h
              refine ax_icmp_le_t (pc := 42) (tgt := 48) (ax_dd KX9_sheet 26 rfl) (by decide) c9 ?_
              refine ax_iload_n (pc := 48) (i := 3) (q := 3) (ax_dd KX9_sheet 29 rfl) rfl rfl ?_
              by_cases c10 : 0 ≤ x3
              · rw [if_pos c10] at h
                refine ax_if_ge_t (pc := 49) (tgt := 55) (ax_dd KX9_sheet 30 rfl) (by decide) c10 ?_
                refine ax_aload_n (pc := 55) (i := 0) (q := 0) (ax_dd KX9_sheet 33 rfl) rfl rfl ?_
                refine ax_getR (pc := 56) (k := 0) (q := 43) (ax_dd KX9_sheet 34 rfl) f_X9_74 (hs 0 _ rfl) rfl ?_
                refine ax_iload_n (pc := 59) (i := 1) (q := 1) (ax_dd KX9_sheet 35 rfl) rfl rfl ?_
                refine ax_iload_n (pc := 60) (i := 2) (q := 2) (ax_dd KX9_sheet 36 rfl) rfl rfl ?_
                refine ax_iload_n (pc := 61) (i := 3) (q := 3) (ax_dd KX9_sheet 37 rfl) rfl rfl ?_
                obtain ⟨μ13, b12, h⟩ := ob_bind h
                refine ax_kV (pc := 62) (ci := 4) (k := 43) (As := [.int x1, .int x2, .int x3]) (rest := []) (st1 := []) (μ1 := μ13) (ax_dd KX9_sheet 38 rfl) (c_X4_renew hs b12) kV_X9_256 e_X4_renew (hs 43 _ rfl) cl_X4 (by decide) rfl rfl (by decide) (by decide) (Nat.le_of_ble_eq_true rfl) rfl ?_
                refine ax_iconst (pc := 65) (v := 1) (ax_dd KX9_sheet 39 rfl) (by decide) ?_
                obtain rfl := Option.some.inj h
                exact ax_ireti (pc := 66) (ax_dd KX9_sheet 40 rfl) ⟨_, rfl, rfl⟩ rfl
              · rw [if_neg c10] at h
                refine ax_if_ge_f (pc := 49) (tgt := 55) (ax_dd KX9_sheet 30 rfl) (by decide) c10 ?_
                refine ax_bipush (pc := 52) (v := (-14)) (ax_dd KX9_sheet 31 rfl) (by decide) ?_
                obtain rfl := Option.some.inj h
                exact ax_ireti (pc := 54) (ax_dd KX9_sheet 32 rfl) ⟨_, rfl, rfl⟩ rfl
            · rw [if_neg c9] at h
              refine ax_icmp_le_f (pc := 42) (tgt := 48) (ax_dd KX9_sheet 26 rfl) (by decide) c9 ?_
              refine ax_bipush (pc := 45) (v := (-2)) (ax_dd KX9_sheet 27 rfl) (by decide) ?_
              obtain rfl := Option.some.inj h
              exact ax_ireti (pc := 47) (ax_dd KX9_sheet 28 rfl) ⟨_, rfl, rfl⟩ rfl
        · rw [if_neg c4] at h
          refine ax_icmp_lt_f (pc := 16) (tgt := 22) (ax_dd KX9_sheet 10 rfl) (by decide) c4 ?_
          refine ax_bipush (pc := 19) (v := (-2)) (ax_dd KX9_sheet 11 rfl) (by decide) ?_
          obtain rfl := Option.some.inj h
          exact ax_ireti (pc := 21) (ax_dd KX9_sheet 12 rfl) ⟨_, rfl, rfl⟩ rfl
