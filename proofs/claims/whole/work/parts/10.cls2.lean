def m_X0_awakeAt_4 (x1 : Int32) : Nat → Int32 → Int32 → ax_M → Option (Int32 × ax_M)
  | 0, _, _, _ => none
  | n + 1, x2, x3, μ =>
    if (μ 25 1) ≤ x3 then
      some (x2, μ)
    else
      bind2 (m_X0_isAsleep x3 x1 μ) fun v2 μ4 =>
      if v2 = 0 then
        m_X0_awakeAt_4 x1 n (x2 ||| (shI (1 : Int32) x3)) (x3 + 1) μ4
      else
        m_X0_awakeAt_4 x1 n x2 (x3 + 1) μ4
set_option maxRecDepth 100000 in
set_option maxHeartbeats 8000000 in
theorem a_X0_awakeAt_4 {G : ax_G} {l : Launch} {sh : List ax_E} {x1 : Int32} (hs : ∀ (k : Nat) (e : ax_E), SHc[k]? = some e → sh[k]? = some e) : ∀ (n : Nat) (x2 : Int32) (x3 : Int32) (μ : ax_M) (v : Int32 × ax_M), m_X0_awakeAt_4 x1 n x2 x3 μ = some v → ax_X G l RX0 cX0_awakeAt 4 (some .int) false 5 (some (.int v.1), sh, v.2) 4 [(0, .ref (G.1 + 25)), (1, .int x1), (2, .int x2), (3, .int x3)] [] sh μ := by
  intro n
  induction n with
  | zero =>
    intro x2 x3 μ v h
    rw [m_X0_awakeAt_4] at h
    cases h
  | succ n ih =>
    intro x2 x3 μ v h
    rw [m_X0_awakeAt_4] at h
    refine ax_iload_n (pc := 4) (i := 3) (q := 3) (ax_dd KX0_awakeAt 4 rfl) rfl rfl ?_
    refine ax_aload_n (pc := 5) (i := 0) (q := 0) (ax_dd KX0_awakeAt 5 rfl) rfl rfl ?_
    refine ax_getI (pc := 6) (k := 25) (ax_dd KX0_awakeAt 6 rfl) f_X0_44 (hs 25 _ rfl) rfl ?_
    by_cases c1 : (μ 25 1) ≤ x3
    · rw [if_pos c1] at h
      refine ax_icmp_ge_t (pc := 9) (tgt := 33) (ax_dd KX0_awakeAt 7 rfl) (by decide) c1 ?_
      refine ax_iload_n (pc := 33) (i := 2) (q := 2) (ax_dd KX0_awakeAt 21 rfl) rfl rfl ?_
      obtain rfl := Option.some.inj h
      exact ax_ireti (pc := 34) (ax_dd KX0_awakeAt 22 rfl) ⟨_, rfl, rfl⟩ rfl
    · rw [if_neg c1] at h
      refine ax_icmp_ge_f (pc := 9) (tgt := 33) (ax_dd KX0_awakeAt 7 rfl) (by decide) c1 ?_
      refine ax_aload_n (pc := 12) (i := 0) (q := 0) (ax_dd KX0_awakeAt 8 rfl) rfl rfl ?_
      refine ax_iload_n (pc := 13) (i := 3) (q := 3) (ax_dd KX0_awakeAt 9 rfl) rfl rfl ?_
      refine ax_iload_n (pc := 14) (i := 1) (q := 1) (ax_dd KX0_awakeAt 10 rfl) rfl rfl ?_
      obtain ⟨v2, μ4, b3, h⟩ := ob_bind2 h
      refine ax_kV (pc := 15) (ci := 0) (k := 25) (As := [.int x3, .int x1]) (rest := []) (st1 := [.int v2]) (μ1 := μ4) (ax_dd KX0_awakeAt 11 rfl) (c_X0_isAsleep hs b3) kV_X0_92 e_X0_isAsleep (hs 25 _ rfl) cl_X0 (by decide) rfl rfl (by decide) (by decide) (Nat.le_of_ble_eq_true rfl) rfl ?_
      by_cases c5 : v2 = 0
      · rw [if_pos c5] at h
        refine ax_if_ne_f (pc := 18) (tgt := 27) (ax_dd KX0_awakeAt 12 rfl) (by decide) (fun z => z c5) ?_
        refine ax_iload_n (pc := 21) (i := 2) (q := 2) (ax_dd KX0_awakeAt 13 rfl) rfl rfl ?_
        refine ax_iconst (pc := 22) (v := 1) (ax_dd KX0_awakeAt 14 rfl) (by decide) ?_
        refine ax_iload_n (pc := 23) (i := 3) (q := 3) (ax_dd KX0_awakeAt 15 rfl) rfl rfl ?_
        refine ax_ishl (pc := 24) (ax_dd KX0_awakeAt 16 rfl) ?_
        refine ax_ior (pc := 25) (ax_dd KX0_awakeAt 17 rfl) ?_
        refine ax_istore_n (pc := 26) (i := 2) (lv' := [(2, .int (x2 ||| (shI (1 : Int32) x3))), (0, .ref (G.1 + 25)), (1, .int x1), (3, .int x3)]) (ax_dd KX0_awakeAt 18 rfl) rfl (by decide) rfl ?_
        refine ax_iinc (pc := 27) (q := 3) (v := (x3 + 1)) (lv' := [(3, .int (x3 + 1)), (2, .int (x2 ||| (shI (1 : Int32) x3))), (0, .ref (G.1 + 25)), (1, .int x1)]) (ax_dd KX0_awakeAt 19 rfl) rfl rfl (by decide) rfl ?_
        refine ax_goto (pc := 30) (tgt := 4) (ax_dd KX0_awakeAt 20 rfl) (by decide) ?_
        refine ax_sub (lv' := [(0, .ref (G.1 + 25)), (1, .int x1), (2, .int (x2 ||| (shI (1 : Int32) x3))), (3, .int (x3 + 1))]) [2, 3, 1, 0] rfl ?_
        exact ih _ _ _ _ h
      · rw [if_neg c5] at h
        refine ax_if_ne_t (pc := 18) (tgt := 27) (ax_dd KX0_awakeAt 12 rfl) (by decide) c5 ?_
        refine ax_iinc (pc := 27) (q := 3) (v := (x3 + 1)) (lv' := [(3, .int (x3 + 1)), (0, .ref (G.1 + 25)), (1, .int x1), (2, .int x2)]) (ax_dd KX0_awakeAt 19 rfl) rfl rfl (by decide) rfl ?_
        refine ax_goto (pc := 30) (tgt := 4) (ax_dd KX0_awakeAt 20 rfl) (by decide) ?_
        refine ax_sub (lv' := [(0, .ref (G.1 + 25)), (1, .int x1), (2, .int x2), (3, .int (x3 + 1))]) [1, 2, 3, 0] rfl ?_
        exact ih _ _ _ _ h
def m_X0_awakeAt (x1 : Int32) (μ : ax_M) : Option (Int32 × ax_M) :=
  m_X0_awakeAt_4 x1 fu 0 0 μ
set_option maxRecDepth 100000 in
set_option maxHeartbeats 8000000 in
theorem c_X0_awakeAt {G : ax_G} {l : Launch} {sh : List ax_E} {x1 : Int32} {μ : ax_M} (hs : ∀ (k : Nat) (e : ax_E), SHc[k]? = some e → sh[k]? = some e) {v : Int32 × ax_M} (h : m_X0_awakeAt x1 μ = some v) : ax_A G l yX0_awakeAt cX0_awakeAt 4 (some .int) 5 [.ref (G.1 + 25), .int x1] sh μ (some (.int v.1), sh, v.2) := by
  refine ax_A.of false (by decide +kernel) (fun h9 => by cases h9) (Nat.le_of_ble_eq_true rfl) (?_ : ax_X G l RX0 cX0_awakeAt 4 (some .int) false 5 (some (.int v.1), sh, v.2) 0 [(0, .ref (G.1 + 25)), (1, .int x1)] [] sh μ)
  unfold m_X0_awakeAt at h
  refine ax_iconst (pc := 0) (v := 0) (ax_dd KX0_awakeAt 0 rfl) (by decide) ?_
  refine ax_istore_n (pc := 1) (i := 2) (lv' := [(2, .int 0), (0, .ref (G.1 + 25)), (1, .int x1)]) (ax_dd KX0_awakeAt 1 rfl) rfl (by decide) rfl ?_
  refine ax_iconst (pc := 2) (v := 0) (ax_dd KX0_awakeAt 2 rfl) (by decide) ?_
  refine ax_istore_n (pc := 3) (i := 3) (lv' := [(3, .int 0), (2, .int 0), (0, .ref (G.1 + 25)), (1, .int x1)]) (ax_dd KX0_awakeAt 3 rfl) rfl (by decide) rfl ?_
  refine ax_sub (lv' := [(0, .ref (G.1 + 25)), (1, .int x1), (2, .int 0), (3, .int 0)]) [2, 3, 1, 0] rfl ?_
  exact a_X0_awakeAt_4 hs fu _ _ _ _ h
def m_X0_rulerAmong_7 (x1 : Int32) (x2 : Int32) (μ : ax_M) : Nat → Int32 → Option (Int32)
  | 0, _ => none
  | n + 1, x3 =>
    if x3 < 0 then
      some (-1)
    else
      if ((srI x1 x3) &&& 1) = 0 then
        m_X0_rulerAmong_7 x1 x2 μ n (x3 + (-1))
      else
        (m_X0_liesOn x3 x2 μ).bind fun v3 =>
        if v3 = 0 then
          m_X0_rulerAmong_7 x1 x2 μ n (x3 + (-1))
        else
          some x3
set_option maxRecDepth 100000 in
set_option maxHeartbeats 8000000 in
theorem a_X0_rulerAmong_7 {G : ax_G} {l : Launch} {sh : List ax_E} {x1 : Int32} {x2 : Int32} {μ : ax_M} (hs : ∀ (k : Nat) (e : ax_E), SHc[k]? = some e → sh[k]? = some e) : ∀ (n : Nat) (x3 : Int32) (v : Int32), m_X0_rulerAmong_7 x1 x2 μ n x3 = some v → ax_X G l RX0 cX0_rulerAmong 4 (some .int) false 4 (some (.int v), sh, μ) 7 [(0, .ref (G.1 + 25)), (1, .int x1), (2, .int x2), (3, .int x3)] [] sh μ := by
  intro n
  induction n with
  | zero =>
    intro x3 v h
    rw [m_X0_rulerAmong_7] at h
    cases h
  | succ n ih =>
    intro x3 v h
    rw [m_X0_rulerAmong_7] at h
    refine ax_iload_n (pc := 7) (i := 3) (q := 3) (ax_dd KX0_rulerAmong 5 rfl) rfl rfl ?_
    by_cases c1 : x3 < 0
    · rw [if_pos c1] at h
      refine ax_if_lt_t (pc := 8) (tgt := 36) (ax_dd KX0_rulerAmong 6 rfl) (by decide) c1 ?_
      refine ax_iconst (pc := 36) (v := (-1)) (ax_dd KX0_rulerAmong 22 rfl) (by decide) ?_
      obtain rfl := Option.some.inj h
      exact ax_ireti (pc := 37) (ax_dd KX0_rulerAmong 23 rfl) ⟨_, rfl, rfl⟩ rfl
    · rw [if_neg c1] at h
      refine ax_if_lt_f (pc := 8) (tgt := 36) (ax_dd KX0_rulerAmong 6 rfl) (by decide) c1 ?_
      refine ax_iload_n (pc := 11) (i := 1) (q := 1) (ax_dd KX0_rulerAmong 7 rfl) rfl rfl ?_
      refine ax_iload_n (pc := 12) (i := 3) (q := 3) (ax_dd KX0_rulerAmong 8 rfl) rfl rfl ?_
      refine ax_ishr (pc := 13) (ax_dd KX0_rulerAmong 9 rfl) ?_
      refine ax_iconst (pc := 14) (v := 1) (ax_dd KX0_rulerAmong 10 rfl) (by decide) ?_
      refine ax_iand (pc := 15) (ax_dd KX0_rulerAmong 11 rfl) ?_
      by_cases c2 : ((srI x1 x3) &&& 1) = 0
      · rw [if_pos c2] at h
        refine ax_if_eq_t (pc := 16) (tgt := 30) (ax_dd KX0_rulerAmong 12 rfl) (by decide) c2 ?_
        refine ax_iinc (pc := 30) (q := 3) (v := (x3 + (-1))) (lv' := [(3, .int (x3 + (-1))), (0, .ref (G.1 + 25)), (1, .int x1), (2, .int x2)]) (ax_dd KX0_rulerAmong 20 rfl) rfl rfl (by decide) rfl ?_
        refine ax_goto (pc := 33) (tgt := 7) (ax_dd KX0_rulerAmong 21 rfl) (by decide) ?_
        refine ax_sub (lv' := [(0, .ref (G.1 + 25)), (1, .int x1), (2, .int x2), (3, .int (x3 + (-1)))]) [1, 2, 3, 0] rfl ?_
        exact ih _ _ h
      · rw [if_neg c2] at h
        refine ax_if_eq_f (pc := 16) (tgt := 30) (ax_dd KX0_rulerAmong 12 rfl) (by decide) c2 ?_
        refine ax_aload_n (pc := 19) (i := 0) (q := 0) (ax_dd KX0_rulerAmong 13 rfl) rfl rfl ?_
        refine ax_iload_n (pc := 20) (i := 3) (q := 3) (ax_dd KX0_rulerAmong 14 rfl) rfl rfl ?_
        refine ax_iload_n (pc := 21) (i := 2) (q := 2) (ax_dd KX0_rulerAmong 15 rfl) rfl rfl ?_
        obtain ⟨v3, b4, h⟩ := ob_bind h
        refine ax_kV (pc := 22) (ci := 0) (k := 25) (As := [.int x3, .int x2]) (rest := []) (st1 := [.int v3]) (μ1 := μ) (ax_dd KX0_rulerAmong 16 rfl) (c_X0_liesOn hs b4) kV_X0_58 e_X0_liesOn (hs 25 _ rfl) cl_X0 (by decide) rfl rfl (by decide) (by decide) (Nat.le_of_ble_eq_true rfl) rfl ?_
        by_cases c5 : v3 = 0
        · rw [if_pos c5] at h
          refine ax_if_eq_t (pc := 25) (tgt := 30) (ax_dd KX0_rulerAmong 17 rfl) (by decide) c5 ?_
          refine ax_iinc (pc := 30) (q := 3) (v := (x3 + (-1))) (lv' := [(3, .int (x3 + (-1))), (0, .ref (G.1 + 25)), (1, .int x1), (2, .int x2)]) (ax_dd KX0_rulerAmong 20 rfl) rfl rfl (by decide) rfl ?_
          refine ax_goto (pc := 33) (tgt := 7) (ax_dd KX0_rulerAmong 21 rfl) (by decide) ?_
          refine ax_sub (lv' := [(0, .ref (G.1 + 25)), (1, .int x1), (2, .int x2), (3, .int (x3 + (-1)))]) [1, 2, 3, 0] rfl ?_
          exact ih _ _ h
        · rw [if_neg c5] at h
          refine ax_if_eq_f (pc := 25) (tgt := 30) (ax_dd KX0_rulerAmong 17 rfl) (by decide) c5 ?_
          refine ax_iload_n (pc := 28) (i := 3) (q := 3) (ax_dd KX0_rulerAmong 18 rfl) rfl rfl ?_
          obtain rfl := Option.some.inj h
          exact ax_ireti (pc := 29) (ax_dd KX0_rulerAmong 19 rfl) ⟨_, rfl, rfl⟩ rfl
def m_X0_rulerAmong (x1 : Int32) (x2 : Int32) (μ : ax_M) : Option (Int32) :=
  m_X0_rulerAmong_7 x1 x2 μ fu ((μ 25 1) - 1)
set_option maxRecDepth 100000 in
set_option maxHeartbeats 8000000 in
theorem c_X0_rulerAmong {G : ax_G} {l : Launch} {sh : List ax_E} {x1 : Int32} {x2 : Int32} {μ : ax_M} (hs : ∀ (k : Nat) (e : ax_E), SHc[k]? = some e → sh[k]? = some e) {v : Int32} (h : m_X0_rulerAmong x1 x2 μ = some v) : ax_A G l yX0_rulerAmong cX0_rulerAmong 4 (some .int) 4 [.ref (G.1 + 25), .int x1, .int x2] sh μ (some (.int v), sh, μ) := by
  refine ax_A.of false (by decide +kernel) (fun h9 => by cases h9) (Nat.le_of_ble_eq_true rfl) (?_ : ax_X G l RX0 cX0_rulerAmong 4 (some .int) false 4 (some (.int v), sh, μ) 0 [(0, .ref (G.1 + 25)), (1, .int x1), (2, .int x2)] [] sh μ)
  unfold m_X0_rulerAmong at h
  refine ax_aload_n (pc := 0) (i := 0) (q := 0) (ax_dd KX0_rulerAmong 0 rfl) rfl rfl ?_
  refine ax_getI (pc := 1) (k := 25) (ax_dd KX0_rulerAmong 1 rfl) f_X0_44 (hs 25 _ rfl) rfl ?_
  refine ax_iconst (pc := 4) (v := 1) (ax_dd KX0_rulerAmong 2 rfl) (by decide) ?_
  refine ax_isub (pc := 5) (ax_dd KX0_rulerAmong 3 rfl) ?_
  refine ax_istore_n (pc := 6) (i := 3) (lv' := [(3, .int ((μ 25 1) - 1)), (0, .ref (G.1 + 25)), (1, .int x1), (2, .int x2)]) (ax_dd KX0_rulerAmong 4 rfl) rfl (by decide) rfl ?_
  refine ax_sub (lv' := [(0, .ref (G.1 + 25)), (1, .int x1), (2, .int x2), (3, .int ((μ 25 1) - 1))]) [1, 2, 3, 0] rfl ?_
  exact a_X0_rulerAmong_7 hs fu _ _ h
def m_X0_findRulers_11 (x1 : Int32) : Nat → Int32 → ax_M → Option (ax_M)
  | 0, _, _ => none
  | n + 1, x2, μ =>
    if 36 ≤ x2 then
      some μ
    else
      (m_X0_rulerAmong x1 x2 μ).bind fun v2 =>
      (ix 36 x2).bind fun j4 =>
      m_X0_findRulers_11 x1 n (x2 + 1) (ax_w μ 32 j4 v2)
set_option maxRecDepth 100000 in
set_option maxHeartbeats 8000000 in
theorem a_X0_findRulers_11 {G : ax_G} {l : Launch} {sh : List ax_E} {x1 : Int32} (hs : ∀ (k : Nat) (e : ax_E), SHc[k]? = some e → sh[k]? = some e) : ∀ (n : Nat) (x2 : Int32) (μ : ax_M) (v : ax_M), m_X0_findRulers_11 x1 n x2 μ = some v → ax_X G l RX0 cX0_findRulers 3 none false 6 (none, sh, v) 11 [(0, .ref (G.1 + 25)), (1, .int x1), (2, .int x2)] [] sh μ := by
  intro n
  induction n with
  | zero =>
    intro x2 μ v h
    rw [m_X0_findRulers_11] at h
    cases h
  | succ n ih =>
    intro x2 μ v h
    rw [m_X0_findRulers_11] at h
    refine ax_iload_n (pc := 11) (i := 2) (q := 2) (ax_dd KX0_findRulers 7 rfl) rfl rfl ?_
    refine ax_bipush (pc := 12) (v := 36) (ax_dd KX0_findRulers 8 rfl) (by decide) ?_
    by_cases c1 : 36 ≤ x2
    · rw [if_pos c1] at h
      refine ax_icmp_ge_t (pc := 14) (tgt := 35) (ax_dd KX0_findRulers 9 rfl) (by decide) c1 ?_
      obtain rfl := Option.some.inj h
      exact ax_vret (pc := 35) (ax_dd KX0_findRulers 20 rfl) rfl rfl
    · rw [if_neg c1] at h
      refine ax_icmp_ge_f (pc := 14) (tgt := 35) (ax_dd KX0_findRulers 9 rfl) (by decide) c1 ?_
      refine ax_aload_n (pc := 17) (i := 0) (q := 0) (ax_dd KX0_findRulers 10 rfl) rfl rfl ?_
      refine ax_getR (pc := 18) (k := 25) (q := 32) (ax_dd KX0_findRulers 11 rfl) f_X0_34 (hs 25 _ rfl) rfl ?_
      refine ax_iload_n (pc := 21) (i := 2) (q := 2) (ax_dd KX0_findRulers 12 rfl) rfl rfl ?_
      refine ax_aload_n (pc := 22) (i := 0) (q := 0) (ax_dd KX0_findRulers 13 rfl) rfl rfl ?_
      refine ax_iload_n (pc := 23) (i := 1) (q := 1) (ax_dd KX0_findRulers 14 rfl) rfl rfl ?_
      refine ax_iload_n (pc := 24) (i := 2) (q := 2) (ax_dd KX0_findRulers 15 rfl) rfl rfl ?_
      obtain ⟨v2, b3, h⟩ := ob_bind h
      refine ax_kV (pc := 25) (ci := 0) (k := 25) (As := [.int x1, .int x2]) (rest := [.int x2, .ref (G.1 + 32)]) (st1 := [.int v2, .int x2, .ref (G.1 + 32)]) (μ1 := μ) (ax_dd KX0_findRulers 16 rfl) (c_X0_rulerAmong hs b3) kV_X0_105 e_X0_rulerAmong (hs 25 _ rfl) cl_X0 (by decide) rfl rfl (by decide) (by decide) (Nat.le_of_ble_eq_true rfl) rfl ?_
      obtain ⟨j4, b5, h⟩ := ob_bind h
      refine ax_ist (pc := 28) (k := 32) (N := 36) (j := j4) (ax_dd KX0_findRulers 17 rfl) (hs 32 _ rfl) b5 ?_
      refine ax_iinc (pc := 29) (q := 2) (v := (x2 + 1)) (lv' := [(2, .int (x2 + 1)), (0, .ref (G.1 + 25)), (1, .int x1)]) (ax_dd KX0_findRulers 18 rfl) rfl rfl (by decide) rfl ?_
      refine ax_goto (pc := 32) (tgt := 11) (ax_dd KX0_findRulers 19 rfl) (by decide) ?_
      refine ax_sub (lv' := [(0, .ref (G.1 + 25)), (1, .int x1), (2, .int (x2 + 1))]) [1, 2, 0] rfl ?_
      exact ih _ _ _ h
def m_X0_findRulers (μ : ax_M) : Option (ax_M) :=
  bind2 (m_X0_awakeAt (μ 25 2) μ) fun v1 μ3 =>
  m_X0_findRulers_11 v1 fu 0 μ3
set_option maxRecDepth 100000 in
set_option maxHeartbeats 8000000 in
theorem c_X0_findRulers {G : ax_G} {l : Launch} {sh : List ax_E} {μ : ax_M} (hs : ∀ (k : Nat) (e : ax_E), SHc[k]? = some e → sh[k]? = some e) {v : ax_M} (h : m_X0_findRulers μ = some v) : ax_A G l yX0_findRulers cX0_findRulers 3 none 6 [.ref (G.1 + 25)] sh μ (none, sh, v) := by
  refine ax_A.of false (by decide +kernel) (fun h9 => by cases h9) (Nat.le_of_ble_eq_true rfl) (?_ : ax_X G l RX0 cX0_findRulers 3 none false 6 (none, sh, v) 0 [(0, .ref (G.1 + 25))] [] sh μ)
  unfold m_X0_findRulers at h
  refine ax_aload_n (pc := 0) (i := 0) (q := 0) (ax_dd KX0_findRulers 0 rfl) rfl rfl ?_
  refine ax_aload_n (pc := 1) (i := 0) (q := 0) (ax_dd KX0_findRulers 1 rfl) rfl rfl ?_
  refine ax_getI (pc := 2) (k := 25) (ax_dd KX0_findRulers 2 rfl) f_X0_9 (hs 25 _ rfl) rfl ?_
  obtain ⟨v1, μ3, b2, h⟩ := ob_bind2 h
  refine ax_kV (pc := 5) (ci := 0) (k := 25) (As := [.int (μ 25 2)]) (rest := []) (st1 := [.int v1]) (μ1 := μ3) (ax_dd KX0_findRulers 3 rfl) (c_X0_awakeAt hs b2) kV_X0_102 e_X0_awakeAt (hs 25 _ rfl) cl_X0 (by decide) rfl rfl (by decide) (by decide) (Nat.le_of_ble_eq_true rfl) rfl ?_
  refine ax_istore_n (pc := 8) (i := 1) (lv' := [(1, .int v1), (0, .ref (G.1 + 25))]) (ax_dd KX0_findRulers 4 rfl) rfl (by decide) rfl ?_
  refine ax_iconst (pc := 9) (v := 0) (ax_dd KX0_findRulers 5 rfl) (by decide) ?_
  refine ax_istore_n (pc := 10) (i := 2) (lv' := [(2, .int 0), (1, .int v1), (0, .ref (G.1 + 25))]) (ax_dd KX0_findRulers 6 rfl) rfl (by decide) rfl ?_
  refine ax_sub (lv' := [(0, .ref (G.1 + 25)), (1, .int v1), (2, .int 0)]) [2, 1, 0] rfl ?_
  exact a_X0_findRulers_11 hs fu _ _ _ h
def m_X0_look_6 : Nat → Int32 → ax_M → Option (ax_M)
  | 0, _, _ => none
  | n + 1, x1, μ =>
    if 36 ≤ x1 then
      some μ
    else
      (ix 36 x1).bind fun j2 =>
      bind2 (m_X0_fineOf (μ 32 j2) x1 (μ 25 2) μ) fun v4 μ6 =>
      (ix 36 x1).bind fun j7 =>
      m_X0_look_6 n (x1 + 1) (ax_w μ6 33 j7 v4)
set_option maxRecDepth 100000 in
set_option maxHeartbeats 8000000 in
theorem a_X0_look_6 {G : ax_G} {l : Launch} {sh : List ax_E} (hs : ∀ (k : Nat) (e : ax_E), SHc[k]? = some e → sh[k]? = some e) : ∀ (n : Nat) (x1 : Int32) (μ : ax_M) (v : ax_M), m_X0_look_6 n x1 μ = some v → ax_X G l RX0 cX0_look 2 none false 7 (none, sh, v) 6 [(0, .ref (G.1 + 25)), (1, .int x1)] [] sh μ := by
  intro n
  induction n with
  | zero =>
    intro x1 μ v h
    rw [m_X0_look_6] at h
    cases h
  | succ n ih =>
    intro x1 μ v h
    rw [m_X0_look_6] at h
    refine ax_iload_n (pc := 6) (i := 1) (q := 1) (ax_dd KX0_look 4 rfl) rfl rfl ?_
    refine ax_bipush (pc := 7) (v := 36) (ax_dd KX0_look 5 rfl) (by decide) ?_
    by_cases c1 : 36 ≤ x1
    · rw [if_pos c1] at h
      refine ax_icmp_ge_t (pc := 9) (tgt := 39) (ax_dd KX0_look 6 rfl) (by decide) c1 ?_
      obtain rfl := Option.some.inj h
      exact ax_vret (pc := 39) (ax_dd KX0_look 22 rfl) rfl rfl
    · rw [if_neg c1] at h
      refine ax_icmp_ge_f (pc := 9) (tgt := 39) (ax_dd KX0_look 6 rfl) (by decide) c1 ?_
      refine ax_aload_n (pc := 12) (i := 0) (q := 0) (ax_dd KX0_look 7 rfl) rfl rfl ?_
      refine ax_getR (pc := 13) (k := 25) (q := 33) (ax_dd KX0_look 8 rfl) f_X0_37 (hs 25 _ rfl) rfl ?_
      refine ax_iload_n (pc := 16) (i := 1) (q := 1) (ax_dd KX0_look 9 rfl) rfl rfl ?_
      refine ax_aload_n (pc := 17) (i := 0) (q := 0) (ax_dd KX0_look 10 rfl) rfl rfl ?_
      refine ax_aload_n (pc := 18) (i := 0) (q := 0) (ax_dd KX0_look 11 rfl) rfl rfl ?_
      refine ax_getR (pc := 19) (k := 25) (q := 32) (ax_dd KX0_look 12 rfl) f_X0_34 (hs 25 _ rfl) rfl ?_
      refine ax_iload_n (pc := 22) (i := 1) (q := 1) (ax_dd KX0_look 13 rfl) rfl rfl ?_
      obtain ⟨j2, b3, h⟩ := ob_bind h
      refine ax_ild (pc := 23) (k := 32) (N := 36) (j := j2) (ax_dd KX0_look 14 rfl) (hs 32 _ rfl) b3 ?_
      refine ax_iload_n (pc := 24) (i := 1) (q := 1) (ax_dd KX0_look 15 rfl) rfl rfl ?_
      refine ax_aload_n (pc := 25) (i := 0) (q := 0) (ax_dd KX0_look 16 rfl) rfl rfl ?_
      refine ax_getI (pc := 26) (k := 25) (ax_dd KX0_look 17 rfl) f_X0_9 (hs 25 _ rfl) rfl ?_
      obtain ⟨v4, μ6, b5, h⟩ := ob_bind2 h
      refine ax_kV (pc := 29) (ci := 0) (k := 25) (As := [.int (μ 32 j2), .int x1, .int (μ 25 2)]) (rest := [.int x1, .ref (G.1 + 33)]) (st1 := [.int v4, .int x1, .ref (G.1 + 33)]) (μ1 := μ6) (ax_dd KX0_look 18 rfl) (c_X0_fineOf hs b5) kV_X0_98 e_X0_fineOf (hs 25 _ rfl) cl_X0 (by decide) rfl rfl (by decide) (by decide) (Nat.le_of_ble_eq_true rfl) rfl ?_
      obtain ⟨j7, b8, h⟩ := ob_bind h
      refine ax_ist (pc := 32) (k := 33) (N := 36) (j := j7) (ax_dd KX0_look 19 rfl) (hs 33 _ rfl) b8 ?_
      refine ax_iinc (pc := 33) (q := 1) (v := (x1 + 1)) (lv' := [(1, .int (x1 + 1)), (0, .ref (G.1 + 25))]) (ax_dd KX0_look 20 rfl) rfl rfl (by decide) rfl ?_
      refine ax_goto (pc := 36) (tgt := 6) (ax_dd KX0_look 21 rfl) (by decide) ?_
      refine ax_sub (lv' := [(0, .ref (G.1 + 25)), (1, .int (x1 + 1))]) [1, 0] rfl ?_
      exact ih _ _ _ h
def m_X0_look (μ : ax_M) : Option (ax_M) :=
  (m_X0_findRulers μ).bind fun μ3 =>
  m_X0_look_6 fu 0 μ3
set_option maxRecDepth 100000 in
set_option maxHeartbeats 8000000 in
theorem c_X0_look {G : ax_G} {l : Launch} {sh : List ax_E} {μ : ax_M} (hs : ∀ (k : Nat) (e : ax_E), SHc[k]? = some e → sh[k]? = some e) {v : ax_M} (h : m_X0_look μ = some v) : ax_A G l yX0_look cX0_look 2 none 7 [.ref (G.1 + 25)] sh μ (none, sh, v) := by
  refine ax_A.of false (by decide +kernel) (fun h9 => by cases h9) (Nat.le_of_ble_eq_true rfl) (?_ : ax_X G l RX0 cX0_look 2 none false 7 (none, sh, v) 0 [(0, .ref (G.1 + 25))] [] sh μ)
  unfold m_X0_look at h
  refine ax_aload_n (pc := 0) (i := 0) (q := 0) (ax_dd KX0_look 0 rfl) rfl rfl ?_
  obtain ⟨μ3, b2, h⟩ := ob_bind h
  refine ax_kV (pc := 1) (ci := 0) (k := 25) (As := []) (rest := []) (st1 := []) (μ1 := μ3) (ax_dd KX0_look 1 rfl) (c_X0_findRulers hs b2) kV_X0_95 e_X0_findRulers (hs 25 _ rfl) cl_X0 (by decide) rfl rfl (by decide) (by decide) (Nat.le_of_ble_eq_true rfl) rfl ?_
  refine ax_iconst (pc := 4) (v := 0) (ax_dd KX0_look 2 rfl) (by decide) ?_
  refine ax_istore_n (pc := 5) (i := 1) (lv' := [(1, .int 0), (0, .ref (G.1 + 25))]) (ax_dd KX0_look 3 rfl) rfl (by decide) rfl ?_
  refine ax_sub (lv' := [(0, .ref (G.1 + 25)), (1, .int 0)]) [1, 0] rfl ?_
  exact a_X0_look_6 hs fu _ _ _ h
def m_X0_letsOn (x1 : Int32) (μ : ax_M) : Option (Int32 × ax_M) :=
  (ix 36 x1).bind fun j1 =>
  if (μ 32 j1) = (-1) then
    some (1, μ)
  else
    (ix 36 x1).bind fun j4 =>
    bind2 (m_X0_admits (μ 32 j4) x1 μ) fun v6 μ8 =>
    if v6 = 0 then
      some (0, μ8)
    else
      some (1, μ8)
set_option maxRecDepth 100000 in
set_option maxHeartbeats 8000000 in
theorem c_X0_letsOn {G : ax_G} {l : Launch} {sh : List ax_E} {x1 : Int32} {μ : ax_M} (hs : ∀ (k : Nat) (e : ax_E), SHc[k]? = some e → sh[k]? = some e) {v : Int32 × ax_M} (h : m_X0_letsOn x1 μ = some v) : ax_A G l yX0_letsOn cX0_letsOn 2 (some .boolean) 5 [.ref (G.1 + 25), .int x1] sh μ (some (.int v.1), sh, v.2) := by
  refine ax_A.of false (by decide +kernel) (fun h9 => by cases h9) (Nat.le_of_ble_eq_true rfl) (?_ : ax_X G l RX0 cX0_letsOn 2 (some .boolean) false 5 (some (.int v.1), sh, v.2) 0 [(0, .ref (G.1 + 25)), (1, .int x1)] [] sh μ)
  unfold m_X0_letsOn at h
  refine ax_aload_n (pc := 0) (i := 0) (q := 0) (ax_dd KX0_letsOn 0 rfl) rfl rfl ?_
  refine ax_getR (pc := 1) (k := 25) (q := 32) (ax_dd KX0_letsOn 1 rfl) f_X0_34 (hs 25 _ rfl) rfl ?_
  refine ax_iload_n (pc := 4) (i := 1) (q := 1) (ax_dd KX0_letsOn 2 rfl) rfl rfl ?_
  obtain ⟨j1, b2, h⟩ := ob_bind h
  refine ax_ild (pc := 5) (k := 32) (N := 36) (j := j1) (ax_dd KX0_letsOn 3 rfl) (hs 32 _ rfl) b2 ?_
  refine ax_iconst (pc := 6) (v := (-1)) (ax_dd KX0_letsOn 4 rfl) (by decide) ?_
  by_cases c3 : (μ 32 j1) = (-1)
  · rw [if_pos c3] at h
    refine ax_icmp_eq_t (pc := 7) (tgt := 24) (ax_dd KX0_letsOn 5 rfl) (by decide) c3 ?_
    refine ax_iconst (pc := 24) (v := 1) (ax_dd KX0_letsOn 14 rfl) (by decide) ?_
    refine ax_goto (pc := 25) (tgt := 29) (ax_dd KX0_letsOn 15 rfl) (by decide) ?_
    obtain rfl := Option.some.inj h
    exact ax_ireti (pc := 29) (ax_dd KX0_letsOn 17 rfl) ⟨_, rfl, rfl⟩ rfl
  · rw [if_neg c3] at h
    refine ax_icmp_eq_f (pc := 7) (tgt := 24) (ax_dd KX0_letsOn 5 rfl) (by decide) c3 ?_
    refine ax_aload_n (pc := 10) (i := 0) (q := 0) (ax_dd KX0_letsOn 6 rfl) rfl rfl ?_
    refine ax_aload_n (pc := 11) (i := 0) (q := 0) (ax_dd KX0_letsOn 7 rfl) rfl rfl ?_
    refine ax_getR (pc := 12) (k := 25) (q := 32) (ax_dd KX0_letsOn 8 rfl) f_X0_34 (hs 25 _ rfl) rfl ?_
    refine ax_iload_n (pc := 15) (i := 1) (q := 1) (ax_dd KX0_letsOn 9 rfl) rfl rfl ?_
    obtain ⟨j4, b5, h⟩ := ob_bind h
    refine ax_ild (pc := 16) (k := 32) (N := 36) (j := j4) (ax_dd KX0_letsOn 10 rfl) (hs 32 _ rfl) b5 ?_
    refine ax_iload_n (pc := 17) (i := 1) (q := 1) (ax_dd KX0_letsOn 11 rfl) rfl rfl ?_
    obtain ⟨v6, μ8, b7, h⟩ := ob_bind2 h
    refine ax_kV (pc := 18) (ci := 0) (k := 25) (As := [.int (μ 32 j4), .int x1]) (rest := []) (st1 := [.int v6]) (μ1 := μ8) (ax_dd KX0_letsOn 12 rfl) (c_X0_admits hs b7) kV_X0_108 e_X0_admits (hs 25 _ rfl) cl_X0 (by decide) rfl rfl (by decide) (by decide) (Nat.le_of_ble_eq_true rfl) rfl ?_
    by_cases c9 : v6 = 0
    · rw [if_pos c9] at h
      refine ax_if_eq_t (pc := 21) (tgt := 28) (ax_dd KX0_letsOn 13 rfl) (by decide) c9 ?_
      refine ax_iconst (pc := 28) (v := 0) (ax_dd KX0_letsOn 16 rfl) (by decide) ?_
      obtain rfl := Option.some.inj h
      exact ax_ireti (pc := 29) (ax_dd KX0_letsOn 17 rfl) ⟨_, rfl, rfl⟩ rfl
    · rw [if_neg c9] at h
      refine ax_if_eq_f (pc := 21) (tgt := 28) (ax_dd KX0_letsOn 13 rfl) (by decide) c9 ?_
      refine ax_iconst (pc := 24) (v := 1) (ax_dd KX0_letsOn 14 rfl) (by decide) ?_
      refine ax_goto (pc := 25) (tgt := 29) (ax_dd KX0_letsOn 15 rfl) (by decide) ?_
      obtain rfl := Option.some.inj h
      exact ax_ireti (pc := 29) (ax_dd KX0_letsOn 17 rfl) ⟨_, rfl, rfl⟩ rfl
def m_X0_realm_5 (x1 : Int32) (μ : ax_M) : Nat → Int64 → Int32 → Option (Int64)
  | 0, _, _ => none
  | n + 1, x2, x4 =>
    if 36 ≤ x4 then
      some x2
    else
      (ix 36 x4).bind fun j2 =>
      if (μ 32 j2) = x1 then
        m_X0_realm_5 x1 μ n (x2 ||| (shL (1 : Int64) x4)) (x4 + 1)
      else
        m_X0_realm_5 x1 μ n x2 (x4 + 1)
set_option maxRecDepth 100000 in
set_option maxHeartbeats 8000000 in
theorem a_X0_realm_5 {G : ax_G} {l : Launch} {sh : List ax_E} {x1 : Int32} {μ : ax_M} (hs : ∀ (k : Nat) (e : ax_E), SHc[k]? = some e → sh[k]? = some e) : ∀ (n : Nat) (x2 : Int64) (x4 : Int32) (v : Int64), m_X0_realm_5 x1 μ n x2 x4 = some v → ax_X G l RX0 cX0_realm 5 (some .long) false 2 (some (.long v), sh, μ) 5 [(0, .ref (G.1 + 25)), (1, .int x1), (2, .long x2), (4, .int x4)] [] sh μ := by
  intro n
  induction n with
  | zero =>
    intro x2 x4 v h
    rw [m_X0_realm_5] at h
    cases h
  | succ n ih =>
    intro x2 x4 v h
    rw [m_X0_realm_5] at h
    refine ax_iload (pc := 5) (q := 3) (ax_dd KX0_realm 4 rfl) rfl ?_
    refine ax_bipush (pc := 7) (v := 36) (ax_dd KX0_realm 5 rfl) (by decide) ?_
    by_cases c1 : 36 ≤ x4
    · rw [if_pos c1] at h
      refine ax_icmp_ge_t (pc := 9) (tgt := 36) (ax_dd KX0_realm 6 rfl) (by decide) c1 ?_
      refine ax_lload_n (pc := 36) (i := 2) (q := 2) (ax_dd KX0_realm 21 rfl) rfl rfl ?_
      obtain rfl := Option.some.inj h
      exact ax_lret (pc := 37) (ax_dd KX0_realm 22 rfl) rfl rfl
    · rw [if_neg c1] at h
      refine ax_icmp_ge_f (pc := 9) (tgt := 36) (ax_dd KX0_realm 6 rfl) (by decide) c1 ?_
      refine ax_aload_n (pc := 12) (i := 0) (q := 0) (ax_dd KX0_realm 7 rfl) rfl rfl ?_
      refine ax_getR (pc := 13) (k := 25) (q := 32) (ax_dd KX0_realm 8 rfl) f_X0_34 (hs 25 _ rfl) rfl ?_
      refine ax_iload (pc := 16) (q := 3) (ax_dd KX0_realm 9 rfl) rfl ?_
      obtain ⟨j2, b3, h⟩ := ob_bind h
      refine ax_ild (pc := 18) (k := 32) (N := 36) (j := j2) (ax_dd KX0_realm 10 rfl) (hs 32 _ rfl) b3 ?_
      refine ax_iload_n (pc := 19) (i := 1) (q := 1) (ax_dd KX0_realm 11 rfl) rfl rfl ?_
      by_cases c4 : (μ 32 j2) = x1
      · rw [if_pos c4] at h
        refine ax_icmp_ne_f (pc := 20) (tgt := 30) (ax_dd KX0_realm 12 rfl) (by decide) (fun z => z c4) ?_
        refine ax_lload_n (pc := 23) (i := 2) (q := 2) (ax_dd KX0_realm 13 rfl) rfl rfl ?_
        refine ax_lconst (pc := 24) (v := 1) (ax_dd KX0_realm 14 rfl) (by decide) ?_
        refine ax_iload (pc := 25) (q := 3) (ax_dd KX0_realm 15 rfl) rfl ?_
        refine ax_lshl (pc := 27) (ax_dd KX0_realm 16 rfl) ?_
        refine ax_lor (pc := 28) (ax_dd KX0_realm 17 rfl) ?_
        refine ax_lstore_n (pc := 29) (i := 2) (lv' := [(2, .long (x2 ||| (shL (1 : Int64) x4))), (0, .ref (G.1 + 25)), (1, .int x1), (4, .int x4)]) (ax_dd KX0_realm 18 rfl) rfl (by decide) rfl ?_
        refine ax_iinc (pc := 30) (q := 3) (v := (x4 + 1)) (lv' := [(4, .int (x4 + 1)), (2, .long (x2 ||| (shL (1 : Int64) x4))), (0, .ref (G.1 + 25)), (1, .int x1)]) (ax_dd KX0_realm 19 rfl) rfl rfl (by decide) rfl ?_
        refine ax_goto (pc := 33) (tgt := 5) (ax_dd KX0_realm 20 rfl) (by decide) ?_
        refine ax_sub (lv' := [(0, .ref (G.1 + 25)), (1, .int x1), (2, .long (x2 ||| (shL (1 : Int64) x4))), (4, .int (x4 + 1))]) [2, 3, 1, 0] rfl ?_
        exact ih _ _ _ h
      · rw [if_neg c4] at h
        refine ax_icmp_ne_t (pc := 20) (tgt := 30) (ax_dd KX0_realm 12 rfl) (by decide) c4 ?_
        refine ax_iinc (pc := 30) (q := 3) (v := (x4 + 1)) (lv' := [(4, .int (x4 + 1)), (0, .ref (G.1 + 25)), (1, .int x1), (2, .long x2)]) (ax_dd KX0_realm 19 rfl) rfl rfl (by decide) rfl ?_
        refine ax_goto (pc := 33) (tgt := 5) (ax_dd KX0_realm 20 rfl) (by decide) ?_
        refine ax_sub (lv' := [(0, .ref (G.1 + 25)), (1, .int x1), (2, .long x2), (4, .int (x4 + 1))]) [1, 2, 3, 0] rfl ?_
        exact ih _ _ _ h
def m_X0_realm (x1 : Int32) (μ : ax_M) : Option (Int64) :=
  m_X0_realm_5 x1 μ fu 0 0
set_option maxRecDepth 100000 in
set_option maxHeartbeats 8000000 in
theorem c_X0_realm {G : ax_G} {l : Launch} {sh : List ax_E} {x1 : Int32} {μ : ax_M} (hs : ∀ (k : Nat) (e : ax_E), SHc[k]? = some e → sh[k]? = some e) {v : Int64} (h : m_X0_realm x1 μ = some v) : ax_A G l yX0_realm cX0_realm 5 (some .long) 2 [.ref (G.1 + 25), .int x1] sh μ (some (.long v), sh, μ) := by
  refine ax_A.of false (by decide +kernel) (fun h9 => by cases h9) (Nat.le_of_ble_eq_true rfl) (?_ : ax_X G l RX0 cX0_realm 5 (some .long) false 2 (some (.long v), sh, μ) 0 [(0, .ref (G.1 + 25)), (1, .int x1)] [] sh μ)
  unfold m_X0_realm at h
  refine ax_lconst (pc := 0) (v := 0) (ax_dd KX0_realm 0 rfl) (by decide) ?_
  refine ax_lstore_n (pc := 1) (i := 2) (lv' := [(2, .long 0), (0, .ref (G.1 + 25)), (1, .int x1)]) (ax_dd KX0_realm 1 rfl) rfl (by decide) rfl ?_
  refine ax_iconst (pc := 2) (v := 0) (ax_dd KX0_realm 2 rfl) (by decide) ?_
  refine ax_istore (pc := 3) (lv' := [(4, .int 0), (2, .long 0), (0, .ref (G.1 + 25)), (1, .int x1)]) (ax_dd KX0_realm 3 rfl) (by decide) rfl ?_
  refine ax_sub (lv' := [(0, .ref (G.1 + 25)), (1, .int x1), (2, .long 0), (4, .int 0)]) [2, 3, 1, 0] rfl ?_
  exact a_X0_realm_5 hs fu _ _ _ h
def m_X0_fineOfRealm_4 (x1 : Int32) (μ : ax_M) : Nat → Int32 → Int32 → Option (Int32)
  | 0, _, _ => none
  | n + 1, x2, x3 =>
    if 36 ≤ x3 then
      some x2
    else
      (ix 36 x3).bind fun j2 =>
      if (μ 32 j2) = x1 then
        (ix 36 x3).bind fun j5 =>
        m_X0_fineOfRealm_4 x1 μ n (x2 + (μ 33 j5)) (x3 + 1)
      else
        m_X0_fineOfRealm_4 x1 μ n x2 (x3 + 1)
set_option maxRecDepth 100000 in
set_option maxHeartbeats 8000000 in
theorem a_X0_fineOfRealm_4 {G : ax_G} {l : Launch} {sh : List ax_E} {x1 : Int32} {μ : ax_M} (hs : ∀ (k : Nat) (e : ax_E), SHc[k]? = some e → sh[k]? = some e) : ∀ (n : Nat) (x2 : Int32) (x3 : Int32) (v : Int32), m_X0_fineOfRealm_4 x1 μ n x2 x3 = some v → ax_X G l RX0 cX0_fineOfRealm 4 (some .int) false 2 (some (.int v), sh, μ) 4 [(0, .ref (G.1 + 25)), (1, .int x1), (2, .int x2), (3, .int x3)] [] sh μ := by
  intro n
  induction n with
  | zero =>
    intro x2 x3 v h
    rw [m_X0_fineOfRealm_4] at h
    cases h
  | succ n ih =>
    intro x2 x3 v h
    rw [m_X0_fineOfRealm_4] at h
    refine ax_iload_n (pc := 4) (i := 3) (q := 3) (ax_dd KX0_fineOfRealm 4 rfl) rfl rfl ?_
    refine ax_bipush (pc := 5) (v := 36) (ax_dd KX0_fineOfRealm 5 rfl) (by decide) ?_
    by_cases c1 : 36 ≤ x3
    · rw [if_pos c1] at h
      refine ax_icmp_ge_t (pc := 7) (tgt := 35) (ax_dd KX0_fineOfRealm 6 rfl) (by decide) c1 ?_
      refine ax_iload_n (pc := 35) (i := 2) (q := 2) (ax_dd KX0_fineOfRealm 22 rfl) rfl rfl ?_
      obtain rfl := Option.some.inj h
      exact ax_ireti (pc := 36) (ax_dd KX0_fineOfRealm 23 rfl) ⟨_, rfl, rfl⟩ rfl
    · rw [if_neg c1] at h
      refine ax_icmp_ge_f (pc := 7) (tgt := 35) (ax_dd KX0_fineOfRealm 6 rfl) (by decide) c1 ?_
      refine ax_aload_n (pc := 10) (i := 0) (q := 0) (ax_dd KX0_fineOfRealm 7 rfl) rfl rfl ?_
      refine ax_getR (pc := 11) (k := 25) (q := 32) (ax_dd KX0_fineOfRealm 8 rfl) f_X0_34 (hs 25 _ rfl) rfl ?_
      refine ax_iload_n (pc := 14) (i := 3) (q := 3) (ax_dd KX0_fineOfRealm 9 rfl) rfl rfl ?_
      obtain ⟨j2, b3, h⟩ := ob_bind h
      refine ax_ild (pc := 15) (k := 32) (N := 36) (j := j2) (ax_dd KX0_fineOfRealm 10 rfl) (hs 32 _ rfl) b3 ?_
      refine ax_iload_n (pc := 16) (i := 1) (q := 1) (ax_dd KX0_fineOfRealm 11 rfl) rfl rfl ?_
      by_cases c4 : (μ 32 j2) = x1
      · rw [if_pos c4] at h
        refine ax_icmp_ne_f (pc := 17) (tgt := 29) (ax_dd KX0_fineOfRealm 12 rfl) (by decide) (fun z => z c4) ?_
        refine ax_iload_n (pc := 20) (i := 2) (q := 2) (ax_dd KX0_fineOfRealm 13 rfl) rfl rfl ?_
        refine ax_aload_n (pc := 21) (i := 0) (q := 0) (ax_dd KX0_fineOfRealm 14 rfl) rfl rfl ?_
        refine ax_getR (pc := 22) (k := 25) (q := 33) (ax_dd KX0_fineOfRealm 15 rfl) f_X0_37 (hs 25 _ rfl) rfl ?_
        refine ax_iload_n (pc := 25) (i := 3) (q := 3) (ax_dd KX0_fineOfRealm 16 rfl) rfl rfl ?_
        obtain ⟨j5, b6, h⟩ := ob_bind h
        refine ax_ild (pc := 26) (k := 33) (N := 36) (j := j5) (ax_dd KX0_fineOfRealm 17 rfl) (hs 33 _ rfl) b6 ?_
        refine ax_iadd (pc := 27) (ax_dd KX0_fineOfRealm 18 rfl) ?_
        refine ax_istore_n (pc := 28) (i := 2) (lv' := [(2, .int (x2 + (μ 33 j5))), (0, .ref (G.1 + 25)), (1, .int x1), (3, .int x3)]) (ax_dd KX0_fineOfRealm 19 rfl) rfl (by decide) rfl ?_
        refine ax_iinc (pc := 29) (q := 3) (v := (x3 + 1)) (lv' := [(3, .int (x3 + 1)), (2, .int (x2 + (μ 33 j5))), (0, .ref (G.1 + 25)), (1, .int x1)]) (ax_dd KX0_fineOfRealm 20 rfl) rfl rfl (by decide) rfl ?_
        refine ax_goto (pc := 32) (tgt := 4) (ax_dd KX0_fineOfRealm 21 rfl) (by decide) ?_
        refine ax_sub (lv' := [(0, .ref (G.1 + 25)), (1, .int x1), (2, .int (x2 + (μ 33 j5))), (3, .int (x3 + 1))]) [2, 3, 1, 0] rfl ?_
        exact ih _ _ _ h
      · rw [if_neg c4] at h
        refine ax_icmp_ne_t (pc := 17) (tgt := 29) (ax_dd KX0_fineOfRealm 12 rfl) (by decide) c4 ?_
        refine ax_iinc (pc := 29) (q := 3) (v := (x3 + 1)) (lv' := [(3, .int (x3 + 1)), (0, .ref (G.1 + 25)), (1, .int x1), (2, .int x2)]) (ax_dd KX0_fineOfRealm 20 rfl) rfl rfl (by decide) rfl ?_
        refine ax_goto (pc := 32) (tgt := 4) (ax_dd KX0_fineOfRealm 21 rfl) (by decide) ?_
        refine ax_sub (lv' := [(0, .ref (G.1 + 25)), (1, .int x1), (2, .int x2), (3, .int (x3 + 1))]) [1, 2, 3, 0] rfl ?_
        exact ih _ _ _ h
def m_X0_fineOfRealm (x1 : Int32) (μ : ax_M) : Option (Int32) :=
  m_X0_fineOfRealm_4 x1 μ fu 0 0
set_option maxRecDepth 100000 in
set_option maxHeartbeats 8000000 in
theorem c_X0_fineOfRealm {G : ax_G} {l : Launch} {sh : List ax_E} {x1 : Int32} {μ : ax_M} (hs : ∀ (k : Nat) (e : ax_E), SHc[k]? = some e → sh[k]? = some e) {v : Int32} (h : m_X0_fineOfRealm x1 μ = some v) : ax_A G l yX0_fineOfRealm cX0_fineOfRealm 4 (some .int) 2 [.ref (G.1 + 25), .int x1] sh μ (some (.int v), sh, μ) := by
  refine ax_A.of false (by decide +kernel) (fun h9 => by cases h9) (Nat.le_of_ble_eq_true rfl) (?_ : ax_X G l RX0 cX0_fineOfRealm 4 (some .int) false 2 (some (.int v), sh, μ) 0 [(0, .ref (G.1 + 25)), (1, .int x1)] [] sh μ)
  unfold m_X0_fineOfRealm at h
  refine ax_iconst (pc := 0) (v := 0) (ax_dd KX0_fineOfRealm 0 rfl) (by decide) ?_
  refine ax_istore_n (pc := 1) (i := 2) (lv' := [(2, .int 0), (0, .ref (G.1 + 25)), (1, .int x1)]) (ax_dd KX0_fineOfRealm 1 rfl) rfl (by decide) rfl ?_
  refine ax_iconst (pc := 2) (v := 0) (ax_dd KX0_fineOfRealm 2 rfl) (by decide) ?_
  refine ax_istore_n (pc := 3) (i := 3) (lv' := [(3, .int 0), (2, .int 0), (0, .ref (G.1 + 25)), (1, .int x1)]) (ax_dd KX0_fineOfRealm 3 rfl) rfl (by decide) rfl ?_
  refine ax_sub (lv' := [(0, .ref (G.1 + 25)), (1, .int x1), (2, .int 0), (3, .int 0)]) [2, 3, 1, 0] rfl ?_
  exact a_X0_fineOfRealm_4 hs fu _ _ _ h
def m_X0_ruledByAny_4 (x1 : Int32) (μ : ax_M) : Nat → Int32 → Int32 → Option (Int32)
  | 0, _, _ => none
  | n + 1, x2, x3 =>
    if 36 ≤ x3 then
      some x2
    else
      (ix 36 x3).bind fun j2 =>
      if (μ 32 j2) = (-1) then
        m_X0_ruledByAny_4 x1 μ n x2 (x3 + 1)
      else
        (ix 36 x3).bind fun j5 =>
        if ((srI x1 (μ 32 j5)) &&& 1) = 0 then
          m_X0_ruledByAny_4 x1 μ n x2 (x3 + 1)
        else
          m_X0_ruledByAny_4 x1 μ n (x2 + 1) (x3 + 1)
set_option maxRecDepth 100000 in
set_option maxHeartbeats 8000000 in
theorem a_X0_ruledByAny_4 {G : ax_G} {l : Launch} {sh : List ax_E} {x1 : Int32} {μ : ax_M} (hs : ∀ (k : Nat) (e : ax_E), SHc[k]? = some e → sh[k]? = some e) : ∀ (n : Nat) (x2 : Int32) (x3 : Int32) (v : Int32), m_X0_ruledByAny_4 x1 μ n x2 x3 = some v → ax_X G l RX0 cX0_ruledByAny 4 (some .int) false 2 (some (.int v), sh, μ) 4 [(0, .ref (G.1 + 25)), (1, .int x1), (2, .int x2), (3, .int x3)] [] sh μ := by
  intro n
  induction n with
  | zero =>
    intro x2 x3 v h
    rw [m_X0_ruledByAny_4] at h
    cases h
  | succ n ih =>
    intro x2 x3 v h
    rw [m_X0_ruledByAny_4] at h
    refine ax_iload_n (pc := 4) (i := 3) (q := 3) (ax_dd KX0_ruledByAny 4 rfl) rfl rfl ?_
    refine ax_bipush (pc := 5) (v := 36) (ax_dd KX0_ruledByAny 5 rfl) (by decide) ?_
    by_cases c1 : 36 ≤ x3
    · rw [if_pos c1] at h
      refine ax_icmp_ge_t (pc := 7) (tgt := 42) (ax_dd KX0_ruledByAny 6 rfl) (by decide) c1 ?_
      refine ax_iload_n (pc := 42) (i := 2) (q := 2) (ax_dd KX0_ruledByAny 25 rfl) rfl rfl ?_
      obtain rfl := Option.some.inj h
      exact ax_ireti (pc := 43) (ax_dd KX0_ruledByAny 26 rfl) ⟨_, rfl, rfl⟩ rfl
    · rw [if_neg c1] at h
      refine ax_icmp_ge_f (pc := 7) (tgt := 42) (ax_dd KX0_ruledByAny 6 rfl) (by decide) c1 ?_
      refine ax_aload_n (pc := 10) (i := 0) (q := 0) (ax_dd KX0_ruledByAny 7 rfl) rfl rfl ?_
      refine ax_getR (pc := 11) (k := 25) (q := 32) (ax_dd KX0_ruledByAny 8 rfl) f_X0_34 (hs 25 _ rfl) rfl ?_
      refine ax_iload_n (pc := 14) (i := 3) (q := 3) (ax_dd KX0_ruledByAny 9 rfl) rfl rfl ?_
      obtain ⟨j2, b3, h⟩ := ob_bind h
      refine ax_ild (pc := 15) (k := 32) (N := 36) (j := j2) (ax_dd KX0_ruledByAny 10 rfl) (hs 32 _ rfl) b3 ?_
      refine ax_iconst (pc := 16) (v := (-1)) (ax_dd KX0_ruledByAny 11 rfl) (by decide) ?_
      by_cases c4 : (μ 32 j2) = (-1)
      · rw [if_pos c4] at h
        refine ax_icmp_eq_t (pc := 17) (tgt := 36) (ax_dd KX0_ruledByAny 12 rfl) (by decide) c4 ?_
        refine ax_iinc (pc := 36) (q := 3) (v := (x3 + 1)) (lv' := [(3, .int (x3 + 1)), (0, .ref (G.1 + 25)), (1, .int x1), (2, .int x2)]) (ax_dd KX0_ruledByAny 23 rfl) rfl rfl (by decide) rfl ?_
        refine ax_goto (pc := 39) (tgt := 4) (ax_dd KX0_ruledByAny 24 rfl) (by decide) ?_
        refine ax_sub (lv' := [(0, .ref (G.1 + 25)), (1, .int x1), (2, .int x2), (3, .int (x3 + 1))]) [1, 2, 3, 0] rfl ?_
        exact ih _ _ _ h
      · rw [if_neg c4] at h
        refine ax_icmp_eq_f (pc := 17) (tgt := 36) (ax_dd KX0_ruledByAny 12 rfl) (by decide) c4 ?_
        refine ax_iload_n (pc := 20) (i := 1) (q := 1) (ax_dd KX0_ruledByAny 13 rfl) rfl rfl ?_
        refine ax_aload_n (pc := 21) (i := 0) (q := 0) (ax_dd KX0_ruledByAny 14 rfl) rfl rfl ?_
        refine ax_getR (pc := 22) (k := 25) (q := 32) (ax_dd KX0_ruledByAny 15 rfl) f_X0_34 (hs 25 _ rfl) rfl ?_
        refine ax_iload_n (pc := 25) (i := 3) (q := 3) (ax_dd KX0_ruledByAny 16 rfl) rfl rfl ?_
        obtain ⟨j5, b6, h⟩ := ob_bind h
        refine ax_ild (pc := 26) (k := 32) (N := 36) (j := j5) (ax_dd KX0_ruledByAny 17 rfl) (hs 32 _ rfl) b6 ?_
        refine ax_ishr (pc := 27) (ax_dd KX0_ruledByAny 18 rfl) ?_
        refine ax_iconst (pc := 28) (v := 1) (ax_dd KX0_ruledByAny 19 rfl) (by decide) ?_
        refine ax_iand (pc := 29) (ax_dd KX0_ruledByAny 20 rfl) ?_
        by_cases c7 : ((srI x1 (μ 32 j5)) &&& 1) = 0
        · rw [if_pos c7] at h
          refine ax_if_eq_t (pc := 30) (tgt := 36) (ax_dd KX0_ruledByAny 21 rfl) (by decide) c7 ?_
          refine ax_iinc (pc := 36) (q := 3) (v := (x3 + 1)) (lv' := [(3, .int (x3 + 1)), (0, .ref (G.1 + 25)), (1, .int x1), (2, .int x2)]) (ax_dd KX0_ruledByAny 23 rfl) rfl rfl (by decide) rfl ?_
          refine ax_goto (pc := 39) (tgt := 4) (ax_dd KX0_ruledByAny 24 rfl) (by decide) ?_
          refine ax_sub (lv' := [(0, .ref (G.1 + 25)), (1, .int x1), (2, .int x2), (3, .int (x3 + 1))]) [1, 2, 3, 0] rfl ?_
          exact ih _ _ _ h
        · rw [if_neg c7] at h
          refine ax_if_eq_f (pc := 30) (tgt := 36) (ax_dd KX0_ruledByAny 21 rfl) (by decide) c7 ?_
          refine ax_iinc (pc := 33) (q := 2) (v := (x2 + 1)) (lv' := [(2, .int (x2 + 1)), (0, .ref (G.1 + 25)), (1, .int x1), (3, .int x3)]) (ax_dd KX0_ruledByAny 22 rfl) rfl rfl (by decide) rfl ?_
          refine ax_iinc (pc := 36) (q := 3) (v := (x3 + 1)) (lv' := [(3, .int (x3 + 1)), (2, .int (x2 + 1)), (0, .ref (G.1 + 25)), (1, .int x1)]) (ax_dd KX0_ruledByAny 23 rfl) rfl rfl (by decide) rfl ?_
          refine ax_goto (pc := 39) (tgt := 4) (ax_dd KX0_ruledByAny 24 rfl) (by decide) ?_
          refine ax_sub (lv' := [(0, .ref (G.1 + 25)), (1, .int x1), (2, .int (x2 + 1)), (3, .int (x3 + 1))]) [2, 3, 1, 0] rfl ?_
          exact ih _ _ _ h
def m_X0_ruledByAny (x1 : Int32) (μ : ax_M) : Option (Int32) :=
  m_X0_ruledByAny_4 x1 μ fu 0 0
set_option maxRecDepth 100000 in
set_option maxHeartbeats 8000000 in
theorem c_X0_ruledByAny {G : ax_G} {l : Launch} {sh : List ax_E} {x1 : Int32} {μ : ax_M} (hs : ∀ (k : Nat) (e : ax_E), SHc[k]? = some e → sh[k]? = some e) {v : Int32} (h : m_X0_ruledByAny x1 μ = some v) : ax_A G l yX0_ruledByAny cX0_ruledByAny 4 (some .int) 2 [.ref (G.1 + 25), .int x1] sh μ (some (.int v), sh, μ) := by
  refine ax_A.of false (by decide +kernel) (fun h9 => by cases h9) (Nat.le_of_ble_eq_true rfl) (?_ : ax_X G l RX0 cX0_ruledByAny 4 (some .int) false 2 (some (.int v), sh, μ) 0 [(0, .ref (G.1 + 25)), (1, .int x1)] [] sh μ)
  unfold m_X0_ruledByAny at h
  refine ax_iconst (pc := 0) (v := 0) (ax_dd KX0_ruledByAny 0 rfl) (by decide) ?_
  refine ax_istore_n (pc := 1) (i := 2) (lv' := [(2, .int 0), (0, .ref (G.1 + 25)), (1, .int x1)]) (ax_dd KX0_ruledByAny 1 rfl) rfl (by decide) rfl ?_
  refine ax_iconst (pc := 2) (v := 0) (ax_dd KX0_ruledByAny 2 rfl) (by decide) ?_
  refine ax_istore_n (pc := 3) (i := 3) (lv' := [(3, .int 0), (2, .int 0), (0, .ref (G.1 + 25)), (1, .int x1)]) (ax_dd KX0_ruledByAny 3 rfl) rfl (by decide) rfl ?_
  refine ax_sub (lv' := [(0, .ref (G.1 + 25)), (1, .int x1), (2, .int 0), (3, .int 0)]) [2, 3, 1, 0] rfl ?_
  exact a_X0_ruledByAny_4 hs fu _ _ _ h
def m_X0_ruledNow (x1 : Int32) (μ : ax_M) : Option (Int32 × ax_M) :=
  (m_X0_findRulers μ).bind fun μ3 =>
  (m_X0_ruledByAny (shI (1 : Int32) x1) μ3).bind fun v4 =>
  some (v4, μ3)
set_option maxRecDepth 100000 in
set_option maxHeartbeats 8000000 in
theorem c_X0_ruledNow {G : ax_G} {l : Launch} {sh : List ax_E} {x1 : Int32} {μ : ax_M} (hs : ∀ (k : Nat) (e : ax_E), SHc[k]? = some e → sh[k]? = some e) {v : Int32 × ax_M} (h : m_X0_ruledNow x1 μ = some v) : ax_A G l yX0_ruledNow cX0_ruledNow 2 (some .int) 7 [.ref (G.1 + 25), .int x1] sh μ (some (.int v.1), sh, v.2) := by
  refine ax_A.of false (by decide +kernel) (fun h9 => by cases h9) (Nat.le_of_ble_eq_true rfl) (?_ : ax_X G l RX0 cX0_ruledNow 2 (some .int) false 7 (some (.int v.1), sh, v.2) 0 [(0, .ref (G.1 + 25)), (1, .int x1)] [] sh μ)
  unfold m_X0_ruledNow at h
  refine ax_aload_n (pc := 0) (i := 0) (q := 0) (ax_dd KX0_ruledNow 0 rfl) rfl rfl ?_
  obtain ⟨μ3, b2, h⟩ := ob_bind h
  refine ax_kV (pc := 1) (ci := 0) (k := 25) (As := []) (rest := []) (st1 := []) (μ1 := μ3) (ax_dd KX0_ruledNow 1 rfl) (c_X0_findRulers hs b2) kV_X0_95 e_X0_findRulers (hs 25 _ rfl) cl_X0 (by decide) rfl rfl (by decide) (by decide) (Nat.le_of_ble_eq_true rfl) rfl ?_
  refine ax_aload_n (pc := 4) (i := 0) (q := 0) (ax_dd KX0_ruledNow 2 rfl) rfl rfl ?_
  refine ax_iconst (pc := 5) (v := 1) (ax_dd KX0_ruledNow 3 rfl) (by decide) ?_
  refine ax_iload_n (pc := 6) (i := 1) (q := 1) (ax_dd KX0_ruledNow 4 rfl) rfl rfl ?_
  refine ax_ishl (pc := 7) (ax_dd KX0_ruledNow 5 rfl) ?_
  obtain ⟨v4, b5, h⟩ := ob_bind h
  refine ax_kV (pc := 8) (ci := 0) (k := 25) (As := [.int (shI (1 : Int32) x1)]) (rest := []) (st1 := [.int v4]) (μ1 := μ3) (ax_dd KX0_ruledNow 6 rfl) (c_X0_ruledByAny hs b5) kV_X0_111 e_X0_ruledByAny (hs 25 _ rfl) cl_X0 (by decide) rfl rfl (by decide) (by decide) (Nat.le_of_ble_eq_true rfl) rfl ?_
  obtain rfl := Option.some.inj h
  exact ax_ireti (pc := 11) (ax_dd KX0_ruledNow 7 rfl) ⟨_, rfl, rfl⟩ rfl
def m_X9_stepFrom (x0 : Int32) (x1 : Int32) (μ : ax_M) : Option (Int32) :=
  if x1 = 0 then
    (m_X9_columnOf x0 μ).bind fun v2 =>
    if 5 ≤ v2 then
      some (-1)
    else
      some (x0 + 1)
  else
    if x1 = 1 then
      (m_X9_columnOf x0 μ).bind fun v6 =>
      if v6 ≤ 0 then
        some (-1)
      else
        some (x0 - 1)
    else
      if x1 = 2 then
        (m_X9_rowOf x0 μ).bind fun v10 =>
        if 5 ≤ v10 then
          some (-1)
        else
          some (x0 + 6)
      else
        if x1 = 3 then
          (m_X9_rowOf x0 μ).bind fun v14 =>
          if v14 ≤ 0 then
            some (-1)
          else
            some (x0 - 6)
        else
          some (-1)
set_option maxRecDepth 100000 in
set_option maxHeartbeats 8000000 in
theorem c_X9_stepFrom {G : ax_G} {l : Launch} {sh : List ax_E} {x0 : Int32} {x1 : Int32} {μ : ax_M} (hs : ∀ (k : Nat) (e : ax_E), SHc[k]? = some e → sh[k]? = some e) {v : Int32} (h : m_X9_stepFrom x0 x1 μ = some v) : ax_A G l yX9_stepFrom cX9_stepFrom 2 (some .int) 3 [.int x0, .int x1] sh μ (some (.int v), sh, μ) := by
  refine ax_A.of false (by decide +kernel) (fun h9 => by cases h9) (Nat.le_of_ble_eq_true rfl) (?_ : ax_X G l RX9 cX9_stepFrom 2 (some .int) false 3 (some (.int v), sh, μ) 0 [(0, .int x0), (1, .int x1)] [] sh μ)
  unfold m_X9_stepFrom at h
  refine ax_iload_n (pc := 0) (i := 1) (q := 1) (ax_dd KX9_stepFrom 0 rfl) rfl rfl ?_
  by_cases c1 : x1 = 0
  · rw [if_pos c1] at h
    refine ax_tab (pc := 1) (off := 31) (tgt := 32) (ax_dd KX9_stepFrom 1 rfl) (by rw [c1]; decide) (by rw [c1]; decide) (by rw [c1]; rfl) (by decide) ?_
    refine ax_iload_n (pc := 32) (i := 0) (q := 0) (ax_dd KX9_stepFrom 2 rfl) rfl rfl ?_
    obtain ⟨v2, b3, h⟩ := ob_bind h
    refine ax_kS (pc := 33) (As := [.int x0]) (rest := []) (st1 := [.int v2]) (μ1 := μ) (ax_dd KX9_stepFrom 3 rfl) (c_X9_columnOf hs b3) kS_X9_228 e_X9_columnOf rfl rfl (by decide) (by decide) (Nat.le_of_ble_eq_true rfl) rfl ?_
    refine ax_iconst (pc := 36) (v := 5) (ax_dd KX9_stepFrom 4 rfl) (by decide) ?_
    by_cases c4 : 5 ≤ v2
    · rw [if_pos c4] at h
      refine ax_icmp_ge_t (pc := 37) (tgt := 46) (ax_dd KX9_stepFrom 5 rfl) (by decide) c4 ?_
      refine ax_iconst (pc := 46) (v := (-1)) (ax_dd KX9_stepFrom 10 rfl) (by decide) ?_
      obtain rfl := Option.some.inj h
      exact ax_ireti (pc := 47) (ax_dd KX9_stepFrom 11 rfl) ⟨_, rfl, rfl⟩ rfl
    · rw [if_neg c4] at h
      refine ax_icmp_ge_f (pc := 37) (tgt := 46) (ax_dd KX9_stepFrom 5 rfl) (by decide) c4 ?_
      refine ax_iload_n (pc := 40) (i := 0) (q := 0) (ax_dd KX9_stepFrom 6 rfl) rfl rfl ?_
      refine ax_iconst (pc := 41) (v := 1) (ax_dd KX9_stepFrom 7 rfl) (by decide) ?_
      refine ax_iadd (pc := 42) (ax_dd KX9_stepFrom 8 rfl) ?_
      refine ax_goto (pc := 43) (tgt := 47) (ax_dd KX9_stepFrom 9 rfl) (by decide) ?_
      obtain rfl := Option.some.inj h
      exact ax_ireti (pc := 47) (ax_dd KX9_stepFrom 11 rfl) ⟨_, rfl, rfl⟩ rfl
  · rw [if_neg c1] at h
    by_cases c5 : x1 = 1
    · rw [if_pos c5] at h
      refine ax_tab (pc := 1) (off := 47) (tgt := 48) (ax_dd KX9_stepFrom 1 rfl) (by rw [c5]; decide) (by rw [c5]; decide) (by rw [c5]; rfl) (by decide) ?_
      refine ax_iload_n (pc := 48) (i := 0) (q := 0) (ax_dd KX9_stepFrom 12 rfl) rfl rfl ?_
      obtain ⟨v6, b7, h⟩ := ob_bind h
      refine ax_kS (pc := 49) (As := [.int x0]) (rest := []) (st1 := [.int v6]) (μ1 := μ) (ax_dd KX9_stepFrom 13 rfl) (c_X9_columnOf hs b7) kS_X9_228 e_X9_columnOf rfl rfl (by decide) (by decide) (Nat.le_of_ble_eq_true rfl) rfl ?_
      by_cases c8 : v6 ≤ 0
      · rw [if_pos c8] at h
        refine ax_if_le_t (pc := 52) (tgt := 61) (ax_dd KX9_stepFrom 14 rfl) (by decide) c8 ?_
        refine ax_iconst (pc := 61) (v := (-1)) (ax_dd KX9_stepFrom 19 rfl) (by decide) ?_
        obtain rfl := Option.some.inj h
        exact ax_ireti (pc := 62) (ax_dd KX9_stepFrom 20 rfl) ⟨_, rfl, rfl⟩ rfl
      · rw [if_neg c8] at h
        refine ax_if_le_f (pc := 52) (tgt := 61) (ax_dd KX9_stepFrom 14 rfl) (by decide) c8 ?_
        refine ax_iload_n (pc := 55) (i := 0) (q := 0) (ax_dd KX9_stepFrom 15 rfl) rfl rfl ?_
        refine ax_iconst (pc := 56) (v := 1) (ax_dd KX9_stepFrom 16 rfl) (by decide) ?_
        refine ax_isub (pc := 57) (ax_dd KX9_stepFrom 17 rfl) ?_
        refine ax_goto (pc := 58) (tgt := 62) (ax_dd KX9_stepFrom 18 rfl) (by decide) ?_
        obtain rfl := Option.some.inj h
        exact ax_ireti (pc := 62) (ax_dd KX9_stepFrom 20 rfl) ⟨_, rfl, rfl⟩ rfl
    · rw [if_neg c5] at h
      by_cases c9 : x1 = 2
      · rw [if_pos c9] at h
        refine ax_tab (pc := 1) (off := 62) (tgt := 63) (ax_dd KX9_stepFrom 1 rfl) (by rw [c9]; decide) (by rw [c9]; decide) (by rw [c9]; rfl) (by decide) ?_
        refine ax_iload_n (pc := 63) (i := 0) (q := 0) (ax_dd KX9_stepFrom 21 rfl) rfl rfl ?_
        obtain ⟨v10, b11, h⟩ := ob_bind h
        refine ax_kS (pc := 64) (As := [.int x0]) (rest := []) (st1 := [.int v10]) (μ1 := μ) (ax_dd KX9_stepFrom 22 rfl) (c_X9_rowOf hs b11) kS_X9_330 e_X9_rowOf rfl rfl (by decide) (by decide) (Nat.le_of_ble_eq_true rfl) rfl ?_
        refine ax_iconst (pc := 67) (v := 5) (ax_dd KX9_stepFrom 23 rfl) (by decide) ?_
        by_cases c12 : 5 ≤ v10
        · rw [if_pos c12] at h
          refine ax_icmp_ge_t (pc := 68) (tgt := 78) (ax_dd KX9_stepFrom 24 rfl) (by decide) c12 ?_
          refine ax_iconst (pc := 78) (v := (-1)) (ax_dd KX9_stepFrom 29 rfl) (by decide) ?_
          obtain rfl := Option.some.inj h
          exact ax_ireti (pc := 79) (ax_dd KX9_stepFrom 30 rfl) ⟨_, rfl, rfl⟩ rfl
        · rw [if_neg c12] at h
          refine ax_icmp_ge_f (pc := 68) (tgt := 78) (ax_dd KX9_stepFrom 24 rfl) (by decide) c12 ?_
          refine ax_iload_n (pc := 71) (i := 0) (q := 0) (ax_dd KX9_stepFrom 25 rfl) rfl rfl ?_
          refine ax_bipush (pc := 72) (v := 6) (ax_dd KX9_stepFrom 26 rfl) (by decide) ?_
          refine ax_iadd (pc := 74) (ax_dd KX9_stepFrom 27 rfl) ?_
          refine ax_goto (pc := 75) (tgt := 79) (ax_dd KX9_stepFrom 28 rfl) (by decide) ?_
          obtain rfl := Option.some.inj h
          exact ax_ireti (pc := 79) (ax_dd KX9_stepFrom 30 rfl) ⟨_, rfl, rfl⟩ rfl
      · rw [if_neg c9] at h
        by_cases c13 : x1 = 3
        · rw [if_pos c13] at h
          refine ax_tab (pc := 1) (off := 79) (tgt := 80) (ax_dd KX9_stepFrom 1 rfl) (by rw [c13]; decide) (by rw [c13]; decide) (by rw [c13]; rfl) (by decide) ?_
          refine ax_iload_n (pc := 80) (i := 0) (q := 0) (ax_dd KX9_stepFrom 31 rfl) rfl rfl ?_
          obtain ⟨v14, b15, h⟩ := ob_bind h
          refine ax_kS (pc := 81) (As := [.int x0]) (rest := []) (st1 := [.int v14]) (μ1 := μ) (ax_dd KX9_stepFrom 32 rfl) (c_X9_rowOf hs b15) kS_X9_330 e_X9_rowOf rfl rfl (by decide) (by decide) (Nat.le_of_ble_eq_true rfl) rfl ?_
          by_cases c16 : v14 ≤ 0
          · rw [if_pos c16] at h
            refine ax_if_le_t (pc := 84) (tgt := 94) (ax_dd KX9_stepFrom 33 rfl) (by decide) c16 ?_
            refine ax_iconst (pc := 94) (v := (-1)) (ax_dd KX9_stepFrom 38 rfl) (by decide) ?_
            obtain rfl := Option.some.inj h
            exact ax_ireti (pc := 95) (ax_dd KX9_stepFrom 39 rfl) ⟨_, rfl, rfl⟩ rfl
          · rw [if_neg c16] at h
            refine ax_if_le_f (pc := 84) (tgt := 94) (ax_dd KX9_stepFrom 33 rfl) (by decide) c16 ?_
            refine ax_iload_n (pc := 87) (i := 0) (q := 0) (ax_dd KX9_stepFrom 34 rfl) rfl rfl ?_
            refine ax_bipush (pc := 88) (v := 6) (ax_dd KX9_stepFrom 35 rfl) (by decide) ?_
            refine ax_isub (pc := 90) (ax_dd KX9_stepFrom 36 rfl) ?_
            refine ax_goto (pc := 91) (tgt := 95) (ax_dd KX9_stepFrom 37 rfl) (by decide) ?_
            obtain rfl := Option.some.inj h
            exact ax_ireti (pc := 95) (ax_dd KX9_stepFrom 39 rfl) ⟨_, rfl, rfl⟩ rfl
        · rw [if_neg c13] at h
          refine ax_tabD (pc := 1) (tgt := 96) (ax_dd KX9_stepFrom 1 rfl) (by have e0 := ax_ne c1 (a := 0) rfl; have e1 := ax_ne c5 (a := 1) rfl; have e2 := ax_ne c9 (a := 2) rfl; have e3 := ax_ne c13 (a := 3) rfl; omega) (by decide) ?_
          refine ax_iconst (pc := 96) (v := (-1)) (ax_dd KX9_stepFrom 40 rfl) (by decide) ?_
          obtain rfl := Option.some.inj h
          exact ax_ireti (pc := 97) (ax_dd KX9_stepFrom 41 rfl) ⟨_, rfl, rfl⟩ rfl
def m_X0_neighbours_13 (x1 : Int32) (x3 : Int32) (k4 : Int32 → Int32 → Option (Int32)) (μ : ax_M) : Nat → Int32 → Int32 → Option (Int32)
  | 0, _, _ => none
  | n + 1, x2, x4 =>
    if 4 ≤ x4 then
      k4 x2 (x3 + 1)
    else
      (m_X9_stepFrom x3 x4 μ).bind fun v2 =>
      (ix 36 x3).bind fun j4 =>
      if (μ 32 j4) = x1 then
        if v2 = (-1) then
          m_X0_neighbours_13 x1 x3 k4 μ n x2 (x4 + 1)
        else
          (ix 36 v2).bind fun j8 =>
          if (μ 32 j8) = x1 then
            m_X0_neighbours_13 x1 x3 k4 μ n x2 (x4 + 1)
          else
            (ix 36 v2).bind fun j11 =>
            if (μ 32 j11) = (-1) then
              m_X0_neighbours_13 x1 x3 k4 μ n x2 (x4 + 1)
            else
              (ix 36 v2).bind fun j14 =>
              m_X0_neighbours_13 x1 x3 k4 μ n (x2 ||| (shI (1 : Int32) (μ 32 j14))) (x4 + 1)
      else
        m_X0_neighbours_13 x1 x3 k4 μ n x2 (x4 + 1)
set_option maxRecDepth 100000 in
set_option maxHeartbeats 8000000 in
theorem a_X0_neighbours_13 {G : ax_G} {l : Launch} {sh : List ax_E} {x1 : Int32} {x3 : Int32} {k4 : Int32 → Int32 → Option (Int32)} {μ : ax_M} (hs : ∀ (k : Nat) (e : ax_E), SHc[k]? = some e → sh[k]? = some e) (hk4 : ∀ (x2 : Int32) (x3 : Int32) (v : Int32), k4 x2 x3 = some v → ax_X G l RX0 cX0_neighbours 6 (some .int) false 4 (some (.int v), sh, μ) 4 [(0, .ref (G.1 + 25)), (1, .int x1), (2, .int x2), (3, .int x3)] [] sh μ) : ∀ (n : Nat) (x2 : Int32) (x4 : Int32) (v : Int32), m_X0_neighbours_13 x1 x3 k4 μ n x2 x4 = some v → ax_X G l RX0 cX0_neighbours 6 (some .int) false 4 (some (.int v), sh, μ) 13 [(0, .ref (G.1 + 25)), (1, .int x1), (2, .int x2), (3, .int x3), (4, .int x4)] [] sh μ := by
  intro n
  induction n with
  | zero =>
    intro x2 x4 v h
    rw [m_X0_neighbours_13] at h
    cases h
  | succ n ih =>
    intro x2 x4 v h
    rw [m_X0_neighbours_13] at h
    refine ax_iload (pc := 13) (q := 4) (ax_dd KX0_neighbours 9 rfl) rfl ?_
    refine ax_iconst (pc := 15) (v := 4) (ax_dd KX0_neighbours 10 rfl) (by decide) ?_
    by_cases c1 : 4 ≤ x4
    · rw [if_pos c1] at h
      refine ax_icmp_ge_t (pc := 16) (tgt := 83) (ax_dd KX0_neighbours 11 rfl) (by decide) c1 ?_
      refine ax_iinc (pc := 83) (q := 3) (v := (x3 + 1)) (lv' := [(3, .int (x3 + 1)), (0, .ref (G.1 + 25)), (1, .int x1), (2, .int x2), (4, .int x4)]) (ax_dd KX0_neighbours 48 rfl) rfl rfl (by decide) rfl ?_
      refine ax_goto (pc := 86) (tgt := 4) (ax_dd KX0_neighbours 49 rfl) (by decide) ?_
      refine ax_sub (lv' := [(0, .ref (G.1 + 25)), (1, .int x1), (2, .int x2), (3, .int (x3 + 1))]) [1, 2, 3, 0] rfl ?_
      exact hk4 _ _ _ h
    · rw [if_neg c1] at h
      refine ax_icmp_ge_f (pc := 16) (tgt := 83) (ax_dd KX0_neighbours 11 rfl) (by decide) c1 ?_
      refine ax_iload_n (pc := 19) (i := 3) (q := 3) (ax_dd KX0_neighbours 12 rfl) rfl rfl ?_
      refine ax_iload (pc := 20) (q := 4) (ax_dd KX0_neighbours 13 rfl) rfl ?_
      obtain ⟨v2, b3, h⟩ := ob_bind h
      refine ax_kSN (pc := 22) (i := 7) (As := [.int x3, .int x4]) (rest := []) (st1 := [.int v2]) (μ1 := μ) (ax_dd KX0_neighbours 14 rfl) (c_X9_stepFrom hs b3) kN_X0_114 rfl e_X9_stepFrom rfl rfl (by decide) (by decide) (Nat.le_of_ble_eq_true rfl) rfl ?_
      refine ax_istore (pc := 25) (lv' := [(5, .int v2), (0, .ref (G.1 + 25)), (1, .int x1), (2, .int x2), (3, .int x3), (4, .int x4)]) (ax_dd KX0_neighbours 15 rfl) (by decide) rfl ?_
      refine ax_aload_n (pc := 27) (i := 0) (q := 1) (ax_dd KX0_neighbours 16 rfl) rfl rfl ?_
      refine ax_getR (pc := 28) (k := 25) (q := 32) (ax_dd KX0_neighbours 17 rfl) f_X0_34 (hs 25 _ rfl) rfl ?_
      refine ax_iload_n (pc := 31) (i := 3) (q := 4) (ax_dd KX0_neighbours 18 rfl) rfl rfl ?_
      obtain ⟨j4, b5, h⟩ := ob_bind h
      refine ax_ild (pc := 32) (k := 32) (N := 36) (j := j4) (ax_dd KX0_neighbours 19 rfl) (hs 32 _ rfl) b5 ?_
      refine ax_iload_n (pc := 33) (i := 1) (q := 2) (ax_dd KX0_neighbours 20 rfl) rfl rfl ?_
      by_cases c6 : (μ 32 j4) = x1
      · rw [if_pos c6] at h
        refine ax_icmp_ne_f (pc := 34) (tgt := 77) (ax_dd KX0_neighbours 21 rfl) (by decide) (fun z => z c6) ?_
        refine ax_iload (pc := 37) (q := 0) (ax_dd KX0_neighbours 22 rfl) rfl ?_
        refine ax_iconst (pc := 39) (v := (-1)) (ax_dd KX0_neighbours 23 rfl) (by decide) ?_
        by_cases c7 : v2 = (-1)
        · rw [if_pos c7] at h
          refine ax_icmp_eq_t (pc := 40) (tgt := 77) (ax_dd KX0_neighbours 24 rfl) (by decide) c7 ?_
          refine ax_iinc (pc := 77) (q := 5) (v := (x4 + 1)) (lv' := [(4, .int (x4 + 1)), (5, .int v2), (0, .ref (G.1 + 25)), (1, .int x1), (2, .int x2), (3, .int x3)]) (ax_dd KX0_neighbours 46 rfl) rfl rfl (by decide) rfl ?_
          refine ax_goto (pc := 80) (tgt := 13) (ax_dd KX0_neighbours 47 rfl) (by decide) ?_
          refine ax_sub (lv' := [(0, .ref (G.1 + 25)), (1, .int x1), (2, .int x2), (3, .int x3), (4, .int (x4 + 1))]) [2, 3, 4, 5, 0] rfl ?_
          exact ih _ _ _ h
        · rw [if_neg c7] at h
          refine ax_icmp_eq_f (pc := 40) (tgt := 77) (ax_dd KX0_neighbours 24 rfl) (by decide) c7 ?_
          refine ax_aload_n (pc := 43) (i := 0) (q := 1) (ax_dd KX0_neighbours 25 rfl) rfl rfl ?_
          refine ax_getR (pc := 44) (k := 25) (q := 32) (ax_dd KX0_neighbours 26 rfl) f_X0_34 (hs 25 _ rfl) rfl ?_
          refine ax_iload (pc := 47) (q := 0) (ax_dd KX0_neighbours 27 rfl) rfl ?_
          obtain ⟨j8, b9, h⟩ := ob_bind h
          refine ax_ild (pc := 49) (k := 32) (N := 36) (j := j8) (ax_dd KX0_neighbours 28 rfl) (hs 32 _ rfl) b9 ?_
          refine ax_iload_n (pc := 50) (i := 1) (q := 2) (ax_dd KX0_neighbours 29 rfl) rfl rfl ?_
          by_cases c10 : (μ 32 j8) = x1
          · rw [if_pos c10] at h
            refine ax_icmp_eq_t (pc := 51) (tgt := 77) (ax_dd KX0_neighbours 30 rfl) (by decide) c10 ?_
            refine ax_iinc (pc := 77) (q := 5) (v := (x4 + 1)) (lv' := [(4, .int (x4 + 1)), (5, .int v2), (0, .ref (G.1 + 25)), (1, .int x1), (2, .int x2), (3, .int x3)]) (ax_dd KX0_neighbours 46 rfl) rfl rfl (by decide) rfl ?_
            refine ax_goto (pc := 80) (tgt := 13) (ax_dd KX0_neighbours 47 rfl) (by decide) ?_
            refine ax_sub (lv' := [(0, .ref (G.1 + 25)), (1, .int x1), (2, .int x2), (3, .int x3), (4, .int (x4 + 1))]) [2, 3, 4, 5, 0] rfl ?_
            exact ih _ _ _ h
          · rw [if_neg c10] at h
            refine ax_icmp_eq_f (pc := 51) (tgt := 77) (ax_dd KX0_neighbours 30 rfl) (by decide) c10 ?_
            refine ax_aload_n (pc := 54) (i := 0) (q := 1) (ax_dd KX0_neighbours 31 rfl) rfl rfl ?_
            refine ax_getR (pc := 55) (k := 25) (q := 32) (ax_dd KX0_neighbours 32 rfl) f_X0_34 (hs 25 _ rfl) rfl ?_
            refine ax_iload (pc := 58) (q := 0) (ax_dd KX0_neighbours 33 rfl) rfl ?_
            obtain ⟨j11, b12, h⟩ := ob_bind h
            refine ax_ild (pc := 60) (k := 32) (N := 36) (j := j11) (ax_dd KX0_neighbours 34 rfl) (hs 32 _ rfl) b12 ?_
            refine ax_iconst (pc := 61) (v := (-1)) (ax_dd KX0_neighbours 35 rfl) (by decide) ?_
            by_cases c13 : (μ 32 j11) = (-1)
            · rw [if_pos c13] at h
              refine ax_icmp_eq_t (pc := 62) (tgt := 77) (ax_dd KX0_neighbours 36 rfl) (by decide) c13 ?_
              refine ax_iinc (pc := 77) (q := 5) (v := (x4 + 1)) (lv' := [(4, .int (x4 + 1)), (5, .int v2), (0, .ref (G.1 + 25)), (1, .int x1), (2, .int x2), (3, .int x3)]) (ax_dd KX0_neighbours 46 rfl) rfl rfl (by decide) rfl ?_
              refine ax_goto (pc := 80) (tgt := 13) (ax_dd KX0_neighbours 47 rfl) (by decide) ?_
              refine ax_sub (lv' := [(0, .ref (G.1 + 25)), (1, .int x1), (2, .int x2), (3, .int x3), (4, .int (x4 + 1))]) [2, 3, 4, 5, 0] rfl ?_
              exact ih _ _ _ h
            · rw [if_neg c13] at h
              refine ax_icmp_eq_f (pc := 62) (tgt := 77) (ax_dd KX0_neighbours 36 rfl) (by decide) c13 ?_
              refine ax_iload_n (pc := 65) (i := 2) (q := 3) (ax_dd KX0_neighbours 37 rfl) rfl rfl ?_
              refine ax_iconst (pc := 66) (v := 1) (ax_dd KX0_neighbours 38 rfl) (by decide) ?_
              refine ax_aload_n (pc := 67) (i := 0) (q := 1) (ax_dd KX0_neighbours 39 rfl) rfl rfl ?_
              refine ax_getR (pc := 68) (k := 25) (q := 32) (ax_dd KX0_neighbours 40 rfl) f_X0_34 (hs 25 _ rfl) rfl ?_
              refine ax_iload (pc := 71) (q := 0) (ax_dd KX0_neighbours 41 rfl) rfl ?_
              obtain ⟨j14, b15, h⟩ := ob_bind h
              refine ax_ild (pc := 73) (k := 32) (N := 36) (j := j14) (ax_dd KX0_neighbours 42 rfl) (hs 32 _ rfl) b15 ?_
              refine ax_ishl (pc := 74) (ax_dd KX0_neighbours 43 rfl) ?_
              refine ax_ior (pc := 75) (ax_dd KX0_neighbours 44 rfl) ?_
              refine ax_istore_n (pc := 76) (i := 2) (lv' := [(2, .int (x2 ||| (shI (1 : Int32) (μ 32 j14)))), (5, .int v2), (0, .ref (G.1 + 25)), (1, .int x1), (3, .int x3), (4, .int x4)]) (ax_dd KX0_neighbours 45 rfl) rfl (by decide) rfl ?_
              refine ax_iinc (pc := 77) (q := 5) (v := (x4 + 1)) (lv' := [(4, .int (x4 + 1)), (2, .int (x2 ||| (shI (1 : Int32) (μ 32 j14)))), (5, .int v2), (0, .ref (G.1 + 25)), (1, .int x1), (3, .int x3)]) (ax_dd KX0_neighbours 46 rfl) rfl rfl (by decide) rfl ?_
              refine ax_goto (pc := 80) (tgt := 13) (ax_dd KX0_neighbours 47 rfl) (by decide) ?_
              refine ax_sub (lv' := [(0, .ref (G.1 + 25)), (1, .int x1), (2, .int (x2 ||| (shI (1 : Int32) (μ 32 j14)))), (3, .int x3), (4, .int (x4 + 1))]) [3, 4, 1, 5, 0] rfl ?_
              exact ih _ _ _ h
      · rw [if_neg c6] at h
        refine ax_icmp_ne_t (pc := 34) (tgt := 77) (ax_dd KX0_neighbours 21 rfl) (by decide) c6 ?_
        refine ax_iinc (pc := 77) (q := 5) (v := (x4 + 1)) (lv' := [(4, .int (x4 + 1)), (5, .int v2), (0, .ref (G.1 + 25)), (1, .int x1), (2, .int x2), (3, .int x3)]) (ax_dd KX0_neighbours 46 rfl) rfl rfl (by decide) rfl ?_
        refine ax_goto (pc := 80) (tgt := 13) (ax_dd KX0_neighbours 47 rfl) (by decide) ?_
        refine ax_sub (lv' := [(0, .ref (G.1 + 25)), (1, .int x1), (2, .int x2), (3, .int x3), (4, .int (x4 + 1))]) [2, 3, 4, 5, 0] rfl ?_
        exact ih _ _ _ h
def m_X0_neighbours_4 (x1 : Int32) (μ : ax_M) : Nat → Int32 → Int32 → Option (Int32)
  | 0, _, _ => none
  | n + 1, x2, x3 =>
    if 36 ≤ x3 then
      some x2
    else
      m_X0_neighbours_13 x1 x3 (m_X0_neighbours_4 x1 μ n) μ fu x2 0
set_option maxRecDepth 100000 in
set_option maxHeartbeats 8000000 in
theorem a_X0_neighbours_4 {G : ax_G} {l : Launch} {sh : List ax_E} {x1 : Int32} {μ : ax_M} (hs : ∀ (k : Nat) (e : ax_E), SHc[k]? = some e → sh[k]? = some e) : ∀ (n : Nat) (x2 : Int32) (x3 : Int32) (v : Int32), m_X0_neighbours_4 x1 μ n x2 x3 = some v → ax_X G l RX0 cX0_neighbours 6 (some .int) false 4 (some (.int v), sh, μ) 4 [(0, .ref (G.1 + 25)), (1, .int x1), (2, .int x2), (3, .int x3)] [] sh μ := by
  intro n
  induction n with
  | zero =>
    intro x2 x3 v h
    rw [m_X0_neighbours_4] at h
    cases h
  | succ n ih =>
    intro x2 x3 v h
    rw [m_X0_neighbours_4] at h
    refine ax_iload_n (pc := 4) (i := 3) (q := 3) (ax_dd KX0_neighbours 4 rfl) rfl rfl ?_
    refine ax_bipush (pc := 5) (v := 36) (ax_dd KX0_neighbours 5 rfl) (by decide) ?_
    by_cases c1 : 36 ≤ x3
    · rw [if_pos c1] at h
      refine ax_icmp_ge_t (pc := 7) (tgt := 89) (ax_dd KX0_neighbours 6 rfl) (by decide) c1 ?_
      refine ax_iload_n (pc := 89) (i := 2) (q := 2) (ax_dd KX0_neighbours 50 rfl) rfl rfl ?_
      obtain rfl := Option.some.inj h
      exact ax_ireti (pc := 90) (ax_dd KX0_neighbours 51 rfl) ⟨_, rfl, rfl⟩ rfl
    · rw [if_neg c1] at h
      refine ax_icmp_ge_f (pc := 7) (tgt := 89) (ax_dd KX0_neighbours 6 rfl) (by decide) c1 ?_
      refine ax_iconst (pc := 10) (v := 0) (ax_dd KX0_neighbours 7 rfl) (by decide) ?_
      refine ax_istore (pc := 11) (lv' := [(4, .int 0), (0, .ref (G.1 + 25)), (1, .int x1), (2, .int x2), (3, .int x3)]) (ax_dd KX0_neighbours 8 rfl) (by decide) rfl ?_
      refine ax_sub (lv' := [(0, .ref (G.1 + 25)), (1, .int x1), (2, .int x2), (3, .int x3), (4, .int 0)]) [1, 2, 3, 4, 0] rfl ?_
      exact a_X0_neighbours_13 hs ih fu _ _ _ h
def m_X0_neighbours (x1 : Int32) (μ : ax_M) : Option (Int32) :=
  m_X0_neighbours_4 x1 μ fu 0 0
set_option maxRecDepth 100000 in
set_option maxHeartbeats 8000000 in
theorem c_X0_neighbours {G : ax_G} {l : Launch} {sh : List ax_E} {x1 : Int32} {μ : ax_M} (hs : ∀ (k : Nat) (e : ax_E), SHc[k]? = some e → sh[k]? = some e) {v : Int32} (h : m_X0_neighbours x1 μ = some v) : ax_A G l yX0_neighbours cX0_neighbours 6 (some .int) 4 [.ref (G.1 + 25), .int x1] sh μ (some (.int v), sh, μ) := by
  refine ax_A.of false (by decide +kernel) (fun h9 => by cases h9) (Nat.le_of_ble_eq_true rfl) (?_ : ax_X G l RX0 cX0_neighbours 6 (some .int) false 4 (some (.int v), sh, μ) 0 [(0, .ref (G.1 + 25)), (1, .int x1)] [] sh μ)
  unfold m_X0_neighbours at h
  refine ax_iconst (pc := 0) (v := 0) (ax_dd KX0_neighbours 0 rfl) (by decide) ?_
  refine ax_istore_n (pc := 1) (i := 2) (lv' := [(2, .int 0), (0, .ref (G.1 + 25)), (1, .int x1)]) (ax_dd KX0_neighbours 1 rfl) rfl (by decide) rfl ?_
  refine ax_iconst (pc := 2) (v := 0) (ax_dd KX0_neighbours 2 rfl) (by decide) ?_
  refine ax_istore_n (pc := 3) (i := 3) (lv' := [(3, .int 0), (2, .int 0), (0, .ref (G.1 + 25)), (1, .int x1)]) (ax_dd KX0_neighbours 3 rfl) rfl (by decide) rfl ?_
  refine ax_sub (lv' := [(0, .ref (G.1 + 25)), (1, .int x1), (2, .int 0), (3, .int 0)]) [2, 3, 1, 0] rfl ?_
  exact a_X0_neighbours_4 hs fu _ _ _ h
def m_X0_joined_29 (x3 : Int32) (k20 : Int32 → Int32 → Option (Int32)) (μ : ax_M) : Nat → Int32 → Int32 → Option (Int32)
  | 0, _, _ => none
  | n + 1, x2, x4 =>
    if (μ 25 1) ≤ x4 then
      k20 x2 (x3 + 1)
    else
      if ((srI x2 x4) &&& 1) = 0 then
        m_X0_joined_29 x3 k20 μ n x2 (x4 + 1)
      else
        (m_X0_neighbours x4 μ).bind fun v3 =>
        m_X0_joined_29 x3 k20 μ n (x2 ||| v3) (x4 + 1)
set_option maxRecDepth 100000 in
set_option maxHeartbeats 8000000 in
theorem a_X0_joined_29 {G : ax_G} {l : Launch} {sh : List ax_E} {x3 : Int32} {k20 : Int32 → Int32 → Option (Int32)} {μ : ax_M} (hs : ∀ (k : Nat) (e : ax_E), SHc[k]? = some e → sh[k]? = some e) (hk20 : ∀ (x2 : Int32) (x3 : Int32) (v : Int32), k20 x2 x3 = some v → ax_X G l RX0 cX0_joined 5 (some .int) false 5 (some (.int v), sh, μ) 20 [(0, .ref (G.1 + 25)), (2, .int x2), (3, .int x3)] [] sh μ) : ∀ (n : Nat) (x2 : Int32) (x4 : Int32) (v : Int32), m_X0_joined_29 x3 k20 μ n x2 x4 = some v → ax_X G l RX0 cX0_joined 5 (some .int) false 5 (some (.int v), sh, μ) 29 [(0, .ref (G.1 + 25)), (2, .int x2), (3, .int x3), (4, .int x4)] [] sh μ := by
  intro n
  induction n with
  | zero =>
    intro x2 x4 v h
    rw [m_X0_joined_29] at h
    cases h
  | succ n ih =>
    intro x2 x4 v h
    rw [m_X0_joined_29] at h
    refine ax_iload (pc := 29) (q := 3) (ax_dd KX0_joined 19 rfl) rfl ?_
    refine ax_aload_n (pc := 31) (i := 0) (q := 0) (ax_dd KX0_joined 20 rfl) rfl rfl ?_
    refine ax_getI (pc := 32) (k := 25) (ax_dd KX0_joined 21 rfl) f_X0_44 (hs 25 _ rfl) rfl ?_
    by_cases c1 : (μ 25 1) ≤ x4
    · rw [if_pos c1] at h
      refine ax_icmp_ge_t (pc := 35) (tgt := 62) (ax_dd KX0_joined 22 rfl) (by decide) c1 ?_
      refine ax_iinc (pc := 62) (q := 2) (v := (x3 + 1)) (lv' := [(3, .int (x3 + 1)), (0, .ref (G.1 + 25)), (2, .int x2), (4, .int x4)]) (ax_dd KX0_joined 37 rfl) rfl rfl (by decide) rfl ?_
      refine ax_goto (pc := 65) (tgt := 20) (ax_dd KX0_joined 38 rfl) (by decide) ?_
      refine ax_sub (lv' := [(0, .ref (G.1 + 25)), (2, .int x2), (3, .int (x3 + 1))]) [1, 2, 0] rfl ?_
      exact hk20 _ _ _ h
    · rw [if_neg c1] at h
      refine ax_icmp_ge_f (pc := 35) (tgt := 62) (ax_dd KX0_joined 22 rfl) (by decide) c1 ?_
      refine ax_iload_n (pc := 38) (i := 2) (q := 1) (ax_dd KX0_joined 23 rfl) rfl rfl ?_
      refine ax_iload (pc := 39) (q := 3) (ax_dd KX0_joined 24 rfl) rfl ?_
      refine ax_ishr (pc := 41) (ax_dd KX0_joined 25 rfl) ?_
      refine ax_iconst (pc := 42) (v := 1) (ax_dd KX0_joined 26 rfl) (by decide) ?_
      refine ax_iand (pc := 43) (ax_dd KX0_joined 27 rfl) ?_
      by_cases c2 : ((srI x2 x4) &&& 1) = 0
      · rw [if_pos c2] at h
        refine ax_if_eq_t (pc := 44) (tgt := 56) (ax_dd KX0_joined 28 rfl) (by decide) c2 ?_
        refine ax_iinc (pc := 56) (q := 3) (v := (x4 + 1)) (lv' := [(4, .int (x4 + 1)), (0, .ref (G.1 + 25)), (2, .int x2), (3, .int x3)]) (ax_dd KX0_joined 35 rfl) rfl rfl (by decide) rfl ?_
        refine ax_goto (pc := 59) (tgt := 29) (ax_dd KX0_joined 36 rfl) (by decide) ?_
        refine ax_sub (lv' := [(0, .ref (G.1 + 25)), (2, .int x2), (3, .int x3), (4, .int (x4 + 1))]) [1, 2, 3, 0] rfl ?_
        exact ih _ _ _ h
      · rw [if_neg c2] at h
        refine ax_if_eq_f (pc := 44) (tgt := 56) (ax_dd KX0_joined 28 rfl) (by decide) c2 ?_
        refine ax_iload_n (pc := 47) (i := 2) (q := 1) (ax_dd KX0_joined 29 rfl) rfl rfl ?_
        refine ax_aload_n (pc := 48) (i := 0) (q := 0) (ax_dd KX0_joined 30 rfl) rfl rfl ?_
        refine ax_iload (pc := 49) (q := 3) (ax_dd KX0_joined 31 rfl) rfl ?_
        obtain ⟨v3, b4, h⟩ := ob_bind h
        refine ax_kV (pc := 51) (ci := 0) (k := 25) (As := [.int x4]) (rest := [.int x2]) (st1 := [.int v3, .int x2]) (μ1 := μ) (ax_dd KX0_joined 32 rfl) (c_X0_neighbours hs b4) kV_X0_117 e_X0_neighbours (hs 25 _ rfl) cl_X0 (by decide) rfl rfl (by decide) (by decide) (Nat.le_of_ble_eq_true rfl) rfl ?_
        refine ax_ior (pc := 54) (ax_dd KX0_joined 33 rfl) ?_
        refine ax_istore_n (pc := 55) (i := 2) (lv' := [(2, .int (x2 ||| v3)), (0, .ref (G.1 + 25)), (3, .int x3), (4, .int x4)]) (ax_dd KX0_joined 34 rfl) rfl (by decide) rfl ?_
        refine ax_iinc (pc := 56) (q := 3) (v := (x4 + 1)) (lv' := [(4, .int (x4 + 1)), (2, .int (x2 ||| v3)), (0, .ref (G.1 + 25)), (3, .int x3)]) (ax_dd KX0_joined 35 rfl) rfl rfl (by decide) rfl ?_
        refine ax_goto (pc := 59) (tgt := 29) (ax_dd KX0_joined 36 rfl) (by decide) ?_
        refine ax_sub (lv' := [(0, .ref (G.1 + 25)), (2, .int (x2 ||| v3)), (3, .int x3), (4, .int (x4 + 1))]) [2, 1, 3, 0] rfl ?_
        exact ih _ _ _ h
