def m_X9_isWalk (x0 : Nat) (x1 : Int32) (μ : ax_M) : Option (Int32) :=
  m_X9_isWalk_2 x0 x1 μ fu 0
set_option maxRecDepth 100000 in
set_option maxHeartbeats 8000000 in
theorem c_X9_isWalk {G : ax_G} {l : Launch} {sh : List ax_E} {x0 : Nat} {x1 : Int32} {μ : ax_M} (hs : ∀ (k : Nat) (e : ax_E), SHc[k]? = some e → sh[k]? = some e) {v : Int32} (h : m_X9_isWalk x0 x1 μ = some v) : ax_A G l yX9_isWalk cX9_isWalk 3 (some .boolean) 4 [.ref (G.1 + (x0)), .int x1] sh μ (some (.int v), sh, μ) := by
  refine ax_A.of false (by decide +kernel) (fun h9 => by cases h9) (Nat.le_of_ble_eq_true rfl) (?_ : ax_X G l RX9 cX9_isWalk 3 (some .boolean) false 4 (some (.int v), sh, μ) 0 [(0, .ref (G.1 + (x0))), (1, .int x1)] [] sh μ)
  unfold m_X9_isWalk at h
  refine ax_iconst (pc := 0) (v := 0) (ax_dd KX9_isWalk 0 rfl) (by decide) ?_
  refine ax_istore_n (pc := 1) (i := 2) (lv' := [(2, .int 0), (0, .ref (G.1 + (x0))), (1, .int x1)]) (ax_dd KX9_isWalk 1 rfl) rfl (by decide) rfl ?_
  refine ax_sub (lv' := [(0, .ref (G.1 + (x0))), (1, .int x1), (2, .int 0)]) [1, 2, 0] rfl ?_
  exact a_X9_isWalk_2 hs fu _ _ h
def m_X9_refusesWalk (x1 : Int32) (μ : ax_M) : Option (Int32) :=
  (m_X4_refuses x1 μ).bind fun v1 =>
  if v1 = 0 then
    (ix 4 x1).bind fun j4 =>
    (ix 4 x1).bind fun j6 =>
    (m_X9_isWalk (45 + j4) (μ 50 j6) μ).bind fun v8 =>
    if v8 = 0 then
      some (-2)
    else
      some 0
  else
    some v1
set_option maxRecDepth 100000 in
set_option maxHeartbeats 8000000 in
theorem c_X9_refusesWalk {G : ax_G} {l : Launch} {sh : List ax_E} {x1 : Int32} {μ : ax_M} (hs : ∀ (k : Nat) (e : ax_E), SHc[k]? = some e → sh[k]? = some e) {v : Int32} (h : m_X9_refusesWalk x1 μ = some v) : ax_A G l yX9_refusesWalk cX9_refusesWalk 3 (some .int) 5 [.ref (G.1 + 0), .int x1] sh μ (some (.int v), sh, μ) := by
  refine ax_A.of false (by decide +kernel) (fun h9 => by cases h9) (Nat.le_of_ble_eq_true rfl) (?_ : ax_X G l RX9 cX9_refusesWalk 3 (some .int) false 5 (some (.int v), sh, μ) 0 [(0, .ref (G.1 + 0)), (1, .int x1)] [] sh μ)
  unfold m_X9_refusesWalk at h
  refine ax_aload_n (pc := 0) (i := 0) (q := 0) (ax_dd KX9_refusesWalk 0 rfl) rfl rfl ?_
  refine ax_getR (pc := 1) (k := 0) (q := 43) (ax_dd KX9_refusesWalk 1 rfl) f_X9_74 (hs 0 _ rfl) rfl ?_
  refine ax_iload_n (pc := 4) (i := 1) (q := 1) (ax_dd KX9_refusesWalk 2 rfl) rfl rfl ?_
  obtain ⟨v1, b2, h⟩ := ob_bind h
  refine ax_kV (pc := 5) (ci := 4) (k := 43) (As := [.int x1]) (rest := []) (st1 := [.int v1]) (μ1 := μ) (ax_dd KX9_refusesWalk 3 rfl) (c_X4_refuses hs b2) kV_X9_292 e_X4_refuses (hs 43 _ rfl) cl_X4 (by decide) rfl rfl (by decide) (by decide) (Nat.le_of_ble_eq_true rfl) rfl ?_
  refine ax_istore_n (pc := 8) (i := 2) (lv' := [(2, .int v1), (0, .ref (G.1 + 0)), (1, .int x1)]) (ax_dd KX9_refusesWalk 4 rfl) rfl (by decide) rfl ?_
  refine ax_iload_n (pc := 9) (i := 2) (q := 0) (ax_dd KX9_refusesWalk 5 rfl) rfl rfl ?_
  by_cases c3 : v1 = 0
  · rw [if_pos c3] at h
    refine ax_if_eq_t (pc := 10) (tgt := 15) (ax_dd KX9_refusesWalk 6 rfl) (by decide) c3 ?_
    refine ax_aload_n (pc := 15) (i := 0) (q := 1) (ax_dd KX9_refusesWalk 9 rfl) rfl rfl ?_
    refine ax_getR (pc := 16) (k := 0) (q := 43) (ax_dd KX9_refusesWalk 10 rfl) f_X9_74 (hs 0 _ rfl) rfl ?_
    refine ax_getR (pc := 19) (k := 43) (q := 44) (ax_dd KX9_refusesWalk 11 rfl) f_X9_247 (hs 43 _ rfl) rfl ?_
    refine ax_iload_n (pc := 22) (i := 1) (q := 2) (ax_dd KX9_refusesWalk 12 rfl) rfl rfl ?_
    obtain ⟨j4, b5, h⟩ := ob_bind h
    refine ax_ald (pc := 23) (k := 44) (b0 := 45) (N := 4) (j := j4) (ax_dd KX9_refusesWalk 13 rfl) (hs 44 _ rfl) b5 ?_
    refine ax_aload_n (pc := 24) (i := 0) (q := 1) (ax_dd KX9_refusesWalk 14 rfl) rfl rfl ?_
    refine ax_getR (pc := 25) (k := 0) (q := 43) (ax_dd KX9_refusesWalk 15 rfl) f_X9_74 (hs 0 _ rfl) rfl ?_
    refine ax_getR (pc := 28) (k := 43) (q := 50) (ax_dd KX9_refusesWalk 16 rfl) f_X9_251 (hs 43 _ rfl) rfl ?_
    refine ax_iload_n (pc := 31) (i := 1) (q := 2) (ax_dd KX9_refusesWalk 17 rfl) rfl rfl ?_
    obtain ⟨j6, b7, h⟩ := ob_bind h
    refine ax_ild (pc := 32) (k := 50) (N := 4) (j := j6) (ax_dd KX9_refusesWalk 18 rfl) (hs 50 _ rfl) b7 ?_
    obtain ⟨v8, b9, h⟩ := ob_bind h
    refine ax_kS (pc := 33) (As := [.ref (G.1 + (45 + j4)), .int (μ 50 j6)]) (rest := []) (st1 := [.int v8]) (μ1 := μ) (ax_dd KX9_refusesWalk 19 rfl) (c_X9_isWalk hs b9) kS_X9_322 e_X9_isWalk rfl rfl (by decide) (by decide) (Nat.le_of_ble_eq_true rfl) rfl ?_
    by_cases c10 : v8 = 0
    · rw [if_pos c10] at h
      refine ax_if_eq_t (pc := 36) (tgt := 43) (ax_dd KX9_refusesWalk 20 rfl) (by decide) c10 ?_
      refine ax_bipush (pc := 43) (v := (-2)) (ax_dd KX9_refusesWalk 23 rfl) (by decide) ?_
      obtain rfl := Option.some.inj h
      exact ax_ireti (pc := 45) (ax_dd KX9_refusesWalk 24 rfl) ⟨_, rfl, rfl⟩ rfl
    · rw [if_neg c10] at h
      refine ax_if_eq_f (pc := 36) (tgt := 43) (ax_dd KX9_refusesWalk 20 rfl) (by decide) c10 ?_
      refine ax_iconst (pc := 39) (v := 0) (ax_dd KX9_refusesWalk 21 rfl) (by decide) ?_
      refine ax_goto (pc := 40) (tgt := 45) (ax_dd KX9_refusesWalk 22 rfl) (by decide) ?_
      obtain rfl := Option.some.inj h
      exact ax_ireti (pc := 45) (ax_dd KX9_refusesWalk 24 rfl) ⟨_, rfl, rfl⟩ rfl
  · rw [if_neg c3] at h
    refine ax_if_eq_f (pc := 10) (tgt := 15) (ax_dd KX9_refusesWalk 6 rfl) (by decide) c3 ?_
    refine ax_iload_n (pc := 13) (i := 2) (q := 0) (ax_dd KX9_refusesWalk 7 rfl) rfl rfl ?_
    obtain rfl := Option.some.inj h
    exact ax_ireti (pc := 14) (ax_dd KX9_refusesWalk 8 rfl) ⟨_, rfl, rfl⟩ rfl
def m_X9_goThrough_9 (x1 : Int32) : Nat → Int32 → ax_M → Option (Int32 × ax_M)
  | 0, _, _ => none
  | n + 1, x2, μ =>
    (ix 4 x1).bind fun j1 =>
    if (μ 50 j1) ≤ x2 then
      some ((-1), μ)
    else
      (ix 4 x1).bind fun j4 =>
      (q_ld μ (45 + j4) x2).bind fun j6 =>
      bind2 (m_X5_isStopped j6 μ) fun v8 μ10 =>
      if v8 = 0 then
        (m_X5_go j6 μ10).bind fun μ14 =>
        m_X9_goThrough_9 x1 n (x2 + 1) μ14
      else
        some (x2, μ10)
set_option maxRecDepth 100000 in
set_option maxHeartbeats 8000000 in
theorem a_X9_goThrough_9 {G : ax_G} {l : Launch} {sh : List ax_E} {x1 : Int32} (hs : ∀ (k : Nat) (e : ax_E), SHc[k]? = some e → sh[k]? = some e) : ∀ (n : Nat) (x2 : Int32) (μ : ax_M) (v : Int32 × ax_M), m_X9_goThrough_9 x1 n x2 μ = some v → ax_X G l RX9 cX9_goThrough 4 (some .int) false 7 (some (.int v.1), sh, v.2) 9 [(0, .ref (G.1 + 0)), (1, .int x1), (2, .int x2)] [] sh μ := by
  intro n
  induction n with
  | zero =>
    intro x2 μ v h
    rw [m_X9_goThrough_9] at h
    cases h
  | succ n ih =>
    intro x2 μ v h
    rw [m_X9_goThrough_9] at h
    refine ax_iload_n (pc := 9) (i := 2) (q := 2) (ax_dd KX9_goThrough 5 rfl) rfl rfl ?_
    refine ax_aload_n (pc := 10) (i := 0) (q := 0) (ax_dd KX9_goThrough 6 rfl) rfl rfl ?_
    refine ax_getR (pc := 11) (k := 0) (q := 43) (ax_dd KX9_goThrough 7 rfl) f_X9_74 (hs 0 _ rfl) rfl ?_
    refine ax_getR (pc := 14) (k := 43) (q := 50) (ax_dd KX9_goThrough 8 rfl) f_X9_251 (hs 43 _ rfl) rfl ?_
    refine ax_iload_n (pc := 17) (i := 1) (q := 1) (ax_dd KX9_goThrough 9 rfl) rfl rfl ?_
    obtain ⟨j1, b2, h⟩ := ob_bind h
    refine ax_ild (pc := 18) (k := 50) (N := 4) (j := j1) (ax_dd KX9_goThrough 10 rfl) (hs 50 _ rfl) b2 ?_
    by_cases c3 : (μ 50 j1) ≤ x2
    · rw [if_pos c3] at h
      refine ax_icmp_ge_t (pc := 19) (tgt := 61) (ax_dd KX9_goThrough 11 rfl) (by decide) c3 ?_
      refine ax_iconst (pc := 61) (v := (-1)) (ax_dd KX9_goThrough 33 rfl) (by decide) ?_
      obtain rfl := Option.some.inj h
      exact ax_ireti (pc := 62) (ax_dd KX9_goThrough 34 rfl) ⟨_, rfl, rfl⟩ rfl
    · rw [if_neg c3] at h
      refine ax_icmp_ge_f (pc := 19) (tgt := 61) (ax_dd KX9_goThrough 11 rfl) (by decide) c3 ?_
      refine ax_aload_n (pc := 22) (i := 0) (q := 0) (ax_dd KX9_goThrough 12 rfl) rfl rfl ?_
      refine ax_getR (pc := 23) (k := 0) (q := 43) (ax_dd KX9_goThrough 13 rfl) f_X9_74 (hs 0 _ rfl) rfl ?_
      refine ax_getR (pc := 26) (k := 43) (q := 44) (ax_dd KX9_goThrough 14 rfl) f_X9_247 (hs 43 _ rfl) rfl ?_
      refine ax_iload_n (pc := 29) (i := 1) (q := 1) (ax_dd KX9_goThrough 15 rfl) rfl rfl ?_
      obtain ⟨j4, b5, h⟩ := ob_bind h
      refine ax_ald (pc := 30) (k := 44) (b0 := 45) (N := 4) (j := j4) (ax_dd KX9_goThrough 16 rfl) (hs 44 _ rfl) b5 ?_
      refine ax_iload_n (pc := 31) (i := 2) (q := 2) (ax_dd KX9_goThrough 17 rfl) rfl rfl ?_
      obtain ⟨j6, b7, h⟩ := ob_bind h
      refine ax_qld (pc := 32) (ax_dd KX9_goThrough 18 rfl) hs b7 ?_
      refine ax_istore_n (pc := 33) (i := 3) (lv' := [(3, .int j6), (0, .ref (G.1 + 0)), (1, .int x1), (2, .int x2)]) (ax_dd KX9_goThrough 19 rfl) rfl (by decide) rfl ?_
      refine ax_aload_n (pc := 34) (i := 0) (q := 1) (ax_dd KX9_goThrough 20 rfl) rfl rfl ?_
      refine ax_getR (pc := 35) (k := 0) (q := 34) (ax_dd KX9_goThrough 21 rfl) f_X9_46 (hs 0 _ rfl) rfl ?_
      refine ax_iload_n (pc := 38) (i := 3) (q := 0) (ax_dd KX9_goThrough 22 rfl) rfl rfl ?_
      obtain ⟨v8, μ10, b9, h⟩ := ob_bind2 h
      refine ax_kV (pc := 39) (ci := 5) (k := 34) (As := [.int j6]) (rest := []) (st1 := [.int v8]) (μ1 := μ10) (ax_dd KX9_goThrough 23 rfl) (c_X5_isStopped hs b9) kV_X9_326 e_X5_isStopped (hs 34 _ rfl) cl_X5 (by decide) rfl rfl (by decide) (by decide) (Nat.le_of_ble_eq_true rfl) rfl ?_
      by_cases c11 : v8 = 0
      · rw [if_pos c11] at h
        refine ax_if_eq_t (pc := 42) (tgt := 47) (ax_dd KX9_goThrough 24 rfl) (by decide) c11 ?_
        refine ax_aload_n (pc := 47) (i := 0) (q := 1) (ax_dd KX9_goThrough 27 rfl) rfl rfl ?_
        refine ax_getR (pc := 48) (k := 0) (q := 34) (ax_dd KX9_goThrough 28 rfl) f_X9_46 (hs 0 _ rfl) rfl ?_
        refine ax_iload_n (pc := 51) (i := 3) (q := 0) (ax_dd KX9_goThrough 29 rfl) rfl rfl ?_
        obtain ⟨μ14, b13, h⟩ := ob_bind h
        refine ax_kV (pc := 52) (ci := 5) (k := 34) (As := [.int j6]) (rest := []) (st1 := []) (μ1 := μ14) (ax_dd KX9_goThrough 30 rfl) (c_X5_go hs b13) kV_X9_203 e_X5_go (hs 34 _ rfl) cl_X5 (by decide) rfl rfl (by decide) (by decide) (Nat.le_of_ble_eq_true rfl) rfl ?_
        refine ax_iinc (pc := 55) (q := 3) (v := (x2 + 1)) (lv' := [(2, .int (x2 + 1)), (3, .int j6), (0, .ref (G.1 + 0)), (1, .int x1)]) (ax_dd KX9_goThrough 31 rfl) rfl rfl (by decide) rfl ?_
        refine ax_goto (pc := 58) (tgt := 9) (ax_dd KX9_goThrough 32 rfl) (by decide) ?_
        refine ax_sub (lv' := [(0, .ref (G.1 + 0)), (1, .int x1), (2, .int (x2 + 1))]) [2, 3, 0] rfl ?_
        exact ih _ _ _ h
      · rw [if_neg c11] at h
        refine ax_if_eq_f (pc := 42) (tgt := 47) (ax_dd KX9_goThrough 24 rfl) (by decide) c11 ?_
        refine ax_iload_n (pc := 45) (i := 2) (q := 3) (ax_dd KX9_goThrough 25 rfl) rfl rfl ?_
        obtain rfl := Option.some.inj h
        exact ax_ireti (pc := 46) (ax_dd KX9_goThrough 26 rfl) ⟨_, rfl, rfl⟩ rfl
def m_X9_goThrough (x1 : Int32) (μ : ax_M) : Option (Int32 × ax_M) :=
  (m_X5_begin μ).bind fun μ3 =>
  m_X9_goThrough_9 x1 fu 0 μ3
set_option maxRecDepth 100000 in
set_option maxHeartbeats 8000000 in
theorem c_X9_goThrough {G : ax_G} {l : Launch} {sh : List ax_E} {x1 : Int32} {μ : ax_M} (hs : ∀ (k : Nat) (e : ax_E), SHc[k]? = some e → sh[k]? = some e) {v : Int32 × ax_M} (h : m_X9_goThrough x1 μ = some v) : ax_A G l yX9_goThrough cX9_goThrough 4 (some .int) 7 [.ref (G.1 + 0), .int x1] sh μ (some (.int v.1), sh, v.2) := by
  refine ax_A.of false (by decide +kernel) (fun h9 => by cases h9) (Nat.le_of_ble_eq_true rfl) (?_ : ax_X G l RX9 cX9_goThrough 4 (some .int) false 7 (some (.int v.1), sh, v.2) 0 [(0, .ref (G.1 + 0)), (1, .int x1)] [] sh μ)
  unfold m_X9_goThrough at h
  refine ax_aload_n (pc := 0) (i := 0) (q := 0) (ax_dd KX9_goThrough 0 rfl) rfl rfl ?_
  refine ax_getR (pc := 1) (k := 0) (q := 34) (ax_dd KX9_goThrough 1 rfl) f_X9_46 (hs 0 _ rfl) rfl ?_
  obtain ⟨μ3, b2, h⟩ := ob_bind h
  refine ax_kV (pc := 4) (ci := 5) (k := 34) (As := []) (rest := []) (st1 := []) (μ1 := μ3) (ax_dd KX9_goThrough 2 rfl) (c_X5_begin hs b2) kV_X9_200 e_X5_begin (hs 34 _ rfl) cl_X5 (by decide) rfl rfl (by decide) (by decide) (Nat.le_of_ble_eq_true rfl) rfl ?_
  refine ax_iconst (pc := 7) (v := 0) (ax_dd KX9_goThrough 3 rfl) (by decide) ?_
  refine ax_istore_n (pc := 8) (i := 2) (lv' := [(2, .int 0), (0, .ref (G.1 + 0)), (1, .int x1)]) (ax_dd KX9_goThrough 4 rfl) rfl (by decide) rfl ?_
  refine ax_sub (lv' := [(0, .ref (G.1 + 0)), (1, .int x1), (2, .int 0)]) [1, 2, 0] rfl ?_
  exact a_X9_goThrough_9 hs fu _ _ _ h
def m_X9_walk (x1 : Int32) (x2 : Int32) (μ : ax_M) : Option (Int32 × ax_M) :=
  (m_X9_refusesWalk x1 μ).bind fun v1 =>
  if v1 = 0 then
    (m_X0_look μ).bind fun μ6 =>
    bind2 (m_X9_goThrough x1 μ6) fun v7 μ9 =>
    if x2 = 0 then
      some (v7, μ9)
    else
      (m_X5_answer (x2 - 1) μ9).bind fun v11 =>
      some (v11, μ9)
  else
    some (v1, μ)
set_option maxRecDepth 100000 in
set_option maxHeartbeats 8000000 in
theorem c_X9_walk {G : ax_G} {l : Launch} {sh : List ax_E} {x1 : Int32} {x2 : Int32} {μ : ax_M} (hs : ∀ (k : Nat) (e : ax_E), SHc[k]? = some e → sh[k]? = some e) {v : Int32 × ax_M} (h : m_X9_walk x1 x2 μ = some v) : ax_A G l yX9_walk cX9_walk 5 (some .int) 8 [.ref (G.1 + 0), .int x1, .int x2] sh μ (some (.int v.1), sh, v.2) := by
  refine ax_A.of false (by decide +kernel) (fun h9 => by cases h9) (Nat.le_of_ble_eq_true rfl) (?_ : ax_X G l RX9 cX9_walk 5 (some .int) false 8 (some (.int v.1), sh, v.2) 0 [(0, .ref (G.1 + 0)), (1, .int x1), (2, .int x2)] [] sh μ)
  unfold m_X9_walk at h
  refine ax_aload_n (pc := 0) (i := 0) (q := 0) (ax_dd KX9_walk 0 rfl) rfl rfl ?_
  refine ax_iload_n (pc := 1) (i := 1) (q := 1) (ax_dd KX9_walk 1 rfl) rfl rfl ?_
  obtain ⟨v1, b2, h⟩ := ob_bind h
  refine ax_kV (pc := 2) (ci := 9) (k := 0) (As := [.int x1]) (rest := []) (st1 := [.int v1]) (μ1 := μ) (ax_dd KX9_walk 2 rfl) (c_X9_refusesWalk hs b2) kV_X9_184 e_X9_refusesWalk (hs 0 _ rfl) cl_X9 (by decide) rfl rfl (by decide) (by decide) (Nat.le_of_ble_eq_true rfl) rfl ?_
  refine ax_istore_n (pc := 5) (i := 3) (lv' := [(3, .int v1), (0, .ref (G.1 + 0)), (1, .int x1), (2, .int x2)]) (ax_dd KX9_walk 3 rfl) rfl (by decide) rfl ?_
  refine ax_iload_n (pc := 6) (i := 3) (q := 0) (ax_dd KX9_walk 4 rfl) rfl rfl ?_
  by_cases c3 : v1 = 0
  · rw [if_pos c3] at h
    refine ax_if_eq_t (pc := 7) (tgt := 12) (ax_dd KX9_walk 5 rfl) (by decide) c3 ?_
    refine ax_aload_n (pc := 12) (i := 0) (q := 1) (ax_dd KX9_walk 8 rfl) rfl rfl ?_
    refine ax_getR (pc := 13) (k := 0) (q := 25) (ax_dd KX9_walk 9 rfl) f_X9_37 (hs 0 _ rfl) rfl ?_
    obtain ⟨μ6, b5, h⟩ := ob_bind h
    refine ax_kV (pc := 16) (ci := 0) (k := 25) (As := []) (rest := []) (st1 := []) (μ1 := μ6) (ax_dd KX9_walk 10 rfl) (c_X0_look hs b5) kV_X9_160 e_X0_look (hs 25 _ rfl) cl_X0 (by decide) rfl rfl (by decide) (by decide) (Nat.le_of_ble_eq_true rfl) rfl ?_
    refine ax_aload_n (pc := 19) (i := 0) (q := 1) (ax_dd KX9_walk 11 rfl) rfl rfl ?_
    refine ax_iload_n (pc := 20) (i := 1) (q := 2) (ax_dd KX9_walk 12 rfl) rfl rfl ?_
    obtain ⟨v7, μ9, b8, h⟩ := ob_bind2 h
    refine ax_kV (pc := 21) (ci := 9) (k := 0) (As := [.int x1]) (rest := []) (st1 := [.int v7]) (μ1 := μ9) (ax_dd KX9_walk 13 rfl) (c_X9_goThrough hs b8) kV_X9_187 e_X9_goThrough (hs 0 _ rfl) cl_X9 (by decide) rfl rfl (by decide) (by decide) (Nat.le_of_ble_eq_true rfl) rfl ?_
    refine ax_istore (pc := 24) (lv' := [(4, .int v7), (3, .int v1), (0, .ref (G.1 + 0)), (1, .int x1), (2, .int x2)]) (ax_dd KX9_walk 14 rfl) (by decide) rfl ?_
    refine ax_iload_n (pc := 26) (i := 2) (q := 4) (ax_dd KX9_walk 15 rfl) rfl rfl ?_
    by_cases c10 : x2 = 0
    · rw [if_pos c10] at h
      refine ax_if_ne_f (pc := 27) (tgt := 35) (ax_dd KX9_walk 16 rfl) (by decide) (fun z => z c10) ?_
      refine ax_iload (pc := 30) (q := 0) (ax_dd KX9_walk 17 rfl) rfl ?_
      refine ax_goto (pc := 32) (tgt := 45) (ax_dd KX9_walk 18 rfl) (by decide) ?_
      obtain rfl := Option.some.inj h
      exact ax_ireti (pc := 45) (ax_dd KX9_walk 25 rfl) ⟨_, rfl, rfl⟩ rfl
    · rw [if_neg c10] at h
      refine ax_if_ne_t (pc := 27) (tgt := 35) (ax_dd KX9_walk 16 rfl) (by decide) c10 ?_
      refine ax_aload_n (pc := 35) (i := 0) (q := 2) (ax_dd KX9_walk 19 rfl) rfl rfl ?_
      refine ax_getR (pc := 36) (k := 0) (q := 34) (ax_dd KX9_walk 20 rfl) f_X9_46 (hs 0 _ rfl) rfl ?_
      refine ax_iload_n (pc := 39) (i := 2) (q := 4) (ax_dd KX9_walk 21 rfl) rfl rfl ?_
      refine ax_iconst (pc := 40) (v := 1) (ax_dd KX9_walk 22 rfl) (by decide) ?_
      refine ax_isub (pc := 41) (ax_dd KX9_walk 23 rfl) ?_
      obtain ⟨v11, b12, h⟩ := ob_bind h
      refine ax_kV (pc := 42) (ci := 5) (k := 34) (As := [.int (x2 - 1)]) (rest := []) (st1 := [.int v11]) (μ1 := μ9) (ax_dd KX9_walk 24 rfl) (c_X5_answer hs b12) kV_X9_190 e_X5_answer (hs 34 _ rfl) cl_X5 (by decide) rfl rfl (by decide) (by decide) (Nat.le_of_ble_eq_true rfl) rfl ?_
      obtain rfl := Option.some.inj h
      exact ax_ireti (pc := 45) (ax_dd KX9_walk 25 rfl) ⟨_, rfl, rfl⟩ rfl
  · rw [if_neg c3] at h
    refine ax_if_eq_f (pc := 7) (tgt := 12) (ax_dd KX9_walk 5 rfl) (by decide) c3 ?_
    refine ax_iload_n (pc := 10) (i := 3) (q := 0) (ax_dd KX9_walk 6 rfl) rfl rfl ?_
    obtain rfl := Option.some.inj h
    exact ax_ireti (pc := 11) (ax_dd KX9_walk 7 rfl) ⟨_, rfl, rfl⟩ rfl
def m_X9_visit (x1 : Int32) (μ : ax_M) : Option (Int32 × ax_M) :=
  (m_X9_refusesWalk x1 μ).bind fun v1 =>
  if v1 = 0 then
    (m_X0_look μ).bind fun μ6 =>
    bind2 (m_X9_goThrough x1 μ6) fun v7 μ9 =>
    if v7 = (-1) then
      (m_X0_welcome (μ9 34 3) μ9).bind fun μ13 =>
      some ((μ13 34 1), μ13)
    else
      some ((-3), μ9)
  else
    some (v1, μ)
set_option maxRecDepth 100000 in
set_option maxHeartbeats 8000000 in
theorem c_X9_visit {G : ax_G} {l : Launch} {sh : List ax_E} {x1 : Int32} {μ : ax_M} (hs : ∀ (k : Nat) (e : ax_E), SHc[k]? = some e → sh[k]? = some e) {v : Int32 × ax_M} (h : m_X9_visit x1 μ = some v) : ax_A G l yX9_visit cX9_visit 3 (some .int) 8 [.ref (G.1 + 0), .int x1] sh μ (some (.int v.1), sh, v.2) := by
  refine ax_A.of false (by decide +kernel) (fun h9 => by cases h9) (Nat.le_of_ble_eq_true rfl) (?_ : ax_X G l RX9 cX9_visit 3 (some .int) false 8 (some (.int v.1), sh, v.2) 0 [(0, .ref (G.1 + 0)), (1, .int x1)] [] sh μ)
  unfold m_X9_visit at h
  refine ax_aload_n (pc := 0) (i := 0) (q := 0) (ax_dd KX9_visit 0 rfl) rfl rfl ?_
  refine ax_iload_n (pc := 1) (i := 1) (q := 1) (ax_dd KX9_visit 1 rfl) rfl rfl ?_
  obtain ⟨v1, b2, h⟩ := ob_bind h
  refine ax_kV (pc := 2) (ci := 9) (k := 0) (As := [.int x1]) (rest := []) (st1 := [.int v1]) (μ1 := μ) (ax_dd KX9_visit 2 rfl) (c_X9_refusesWalk hs b2) kV_X9_184 e_X9_refusesWalk (hs 0 _ rfl) cl_X9 (by decide) rfl rfl (by decide) (by decide) (Nat.le_of_ble_eq_true rfl) rfl ?_
  refine ax_istore_n (pc := 5) (i := 2) (lv' := [(2, .int v1), (0, .ref (G.1 + 0)), (1, .int x1)]) (ax_dd KX9_visit 3 rfl) rfl (by decide) rfl ?_
  refine ax_iload_n (pc := 6) (i := 2) (q := 0) (ax_dd KX9_visit 4 rfl) rfl rfl ?_
  by_cases c3 : v1 = 0
  · rw [if_pos c3] at h
    refine ax_if_eq_t (pc := 7) (tgt := 12) (ax_dd KX9_visit 5 rfl) (by decide) c3 ?_
    refine ax_aload_n (pc := 12) (i := 0) (q := 1) (ax_dd KX9_visit 8 rfl) rfl rfl ?_
    refine ax_getR (pc := 13) (k := 0) (q := 25) (ax_dd KX9_visit 9 rfl) f_X9_37 (hs 0 _ rfl) rfl ?_
    obtain ⟨μ6, b5, h⟩ := ob_bind h
    refine ax_kV (pc := 16) (ci := 0) (k := 25) (As := []) (rest := []) (st1 := []) (μ1 := μ6) (ax_dd KX9_visit 10 rfl) (c_X0_look hs b5) kV_X9_160 e_X0_look (hs 25 _ rfl) cl_X0 (by decide) rfl rfl (by decide) (by decide) (Nat.le_of_ble_eq_true rfl) rfl ?_
    refine ax_aload_n (pc := 19) (i := 0) (q := 1) (ax_dd KX9_visit 11 rfl) rfl rfl ?_
    refine ax_iload_n (pc := 20) (i := 1) (q := 2) (ax_dd KX9_visit 12 rfl) rfl rfl ?_
    obtain ⟨v7, μ9, b8, h⟩ := ob_bind2 h
    refine ax_kV (pc := 21) (ci := 9) (k := 0) (As := [.int x1]) (rest := []) (st1 := [.int v7]) (μ1 := μ9) (ax_dd KX9_visit 13 rfl) (c_X9_goThrough hs b8) kV_X9_187 e_X9_goThrough (hs 0 _ rfl) cl_X9 (by decide) rfl rfl (by decide) (by decide) (Nat.le_of_ble_eq_true rfl) rfl ?_
    refine ax_iconst (pc := 24) (v := (-1)) (ax_dd KX9_visit 14 rfl) (by decide) ?_
    by_cases c10 : v7 = (-1)
    · rw [if_pos c10] at h
      refine ax_icmp_eq_t (pc := 25) (tgt := 31) (ax_dd KX9_visit 15 rfl) (by decide) c10 ?_
      refine ax_aload_n (pc := 31) (i := 0) (q := 1) (ax_dd KX9_visit 18 rfl) rfl rfl ?_
      refine ax_getR (pc := 32) (k := 0) (q := 25) (ax_dd KX9_visit 19 rfl) f_X9_37 (hs 0 _ rfl) rfl ?_
      refine ax_aload_n (pc := 35) (i := 0) (q := 1) (ax_dd KX9_visit 20 rfl) rfl rfl ?_
      refine ax_getR (pc := 36) (k := 0) (q := 34) (ax_dd KX9_visit 21 rfl) f_X9_46 (hs 0 _ rfl) rfl ?_
      refine ax_getI (pc := 39) (k := 34) (ax_dd KX9_visit 22 rfl) f_X9_193 (hs 34 _ rfl) rfl ?_
      obtain ⟨μ13, b12, h⟩ := ob_bind h
      refine ax_kV (pc := 42) (ci := 0) (k := 25) (As := [.int (μ9 34 3)]) (rest := []) (st1 := []) (μ1 := μ13) (ax_dd KX9_visit 23 rfl) (c_X0_welcome hs b12) kV_X9_194 e_X0_welcome (hs 25 _ rfl) cl_X0 (by decide) rfl rfl (by decide) (by decide) (Nat.le_of_ble_eq_true rfl) rfl ?_
      refine ax_aload_n (pc := 45) (i := 0) (q := 1) (ax_dd KX9_visit 24 rfl) rfl rfl ?_
      refine ax_getR (pc := 46) (k := 0) (q := 34) (ax_dd KX9_visit 25 rfl) f_X9_46 (hs 0 _ rfl) rfl ?_
      refine ax_getI (pc := 49) (k := 34) (ax_dd KX9_visit 26 rfl) f_X9_197 (hs 34 _ rfl) rfl ?_
      obtain rfl := Option.some.inj h
      exact ax_ireti (pc := 52) (ax_dd KX9_visit 27 rfl) ⟨_, rfl, rfl⟩ rfl
    · rw [if_neg c10] at h
      refine ax_icmp_eq_f (pc := 25) (tgt := 31) (ax_dd KX9_visit 15 rfl) (by decide) c10 ?_
      refine ax_bipush (pc := 28) (v := (-3)) (ax_dd KX9_visit 16 rfl) (by decide) ?_
      obtain rfl := Option.some.inj h
      exact ax_ireti (pc := 30) (ax_dd KX9_visit 17 rfl) ⟨_, rfl, rfl⟩ rfl
  · rw [if_neg c3] at h
    refine ax_if_eq_f (pc := 7) (tgt := 12) (ax_dd KX9_visit 5 rfl) (by decide) c3 ?_
    refine ax_iload_n (pc := 10) (i := 2) (q := 0) (ax_dd KX9_visit 6 rfl) rfl rfl ?_
    obtain rfl := Option.some.inj h
    exact ax_ireti (pc := 11) (ax_dd KX9_visit 7 rfl) ⟨_, rfl, rfl⟩ rfl
def m_X9_ball_87 (x3 : Int32) (μ : ax_M) : Option (Int32 × ax_M) :=
  if x3 = 0 then
    (m_X5_answer 0 μ).bind fun v2 =>
    some (v2, μ)
  else
    (m_X5_answer ((3 : Int32) - x3) μ).bind fun v4 =>
    some (v4, μ)
set_option maxRecDepth 100000 in
set_option maxHeartbeats 8000000 in
theorem a_X9_ball_87 {G : ax_G} {l : Launch} {sh : List ax_E} {x3 : Int32} {μ : ax_M} (hs : ∀ (k : Nat) (e : ax_E), SHc[k]? = some e → sh[k]? = some e) {v : Int32 × ax_M} (h : m_X9_ball_87 x3 μ = some v) : ax_X G l RX9 cX9_ball 6 (some .int) false 8 (some (.int v.1), sh, v.2) 87 [(0, .ref (G.1 + 0)), (3, .int x3)] [] sh μ := by
  unfold m_X9_ball_87 at h
  refine ax_aload_n (pc := 87) (i := 0) (q := 0) (ax_dd KX9_ball 43 rfl) rfl rfl ?_
  refine ax_getR (pc := 88) (k := 0) (q := 34) (ax_dd KX9_ball 44 rfl) f_X9_46 (hs 0 _ rfl) rfl ?_
  refine ax_iload_n (pc := 91) (i := 3) (q := 1) (ax_dd KX9_ball 45 rfl) rfl rfl ?_
  by_cases c1 : x3 = 0
  · rw [if_pos c1] at h
    refine ax_if_ne_f (pc := 92) (tgt := 99) (ax_dd KX9_ball 46 rfl) (by decide) (fun z => z c1) ?_
    refine ax_iconst (pc := 95) (v := 0) (ax_dd KX9_ball 47 rfl) (by decide) ?_
    refine ax_goto (pc := 96) (tgt := 102) (ax_dd KX9_ball 48 rfl) (by decide) ?_
    obtain ⟨v2, b3, h⟩ := ob_bind h
    refine ax_kV (pc := 102) (ci := 5) (k := 34) (As := [.int 0]) (rest := []) (st1 := [.int v2]) (μ1 := μ) (ax_dd KX9_ball 52 rfl) (c_X5_answer hs b3) kV_X9_190 e_X5_answer (hs 34 _ rfl) cl_X5 (by decide) rfl rfl (by decide) (by decide) (Nat.le_of_ble_eq_true rfl) rfl ?_
    obtain rfl := Option.some.inj h
    exact ax_ireti (pc := 105) (ax_dd KX9_ball 53 rfl) ⟨_, rfl, rfl⟩ rfl
  · rw [if_neg c1] at h
    refine ax_if_ne_t (pc := 92) (tgt := 99) (ax_dd KX9_ball 46 rfl) (by decide) c1 ?_
    refine ax_iconst (pc := 99) (v := 3) (ax_dd KX9_ball 49 rfl) (by decide) ?_
    refine ax_iload_n (pc := 100) (i := 3) (q := 1) (ax_dd KX9_ball 50 rfl) rfl rfl ?_
    refine ax_isub (pc := 101) (ax_dd KX9_ball 51 rfl) ?_
    obtain ⟨v4, b5, h⟩ := ob_bind h
    refine ax_kV (pc := 102) (ci := 5) (k := 34) (As := [.int ((3 : Int32) - x3)]) (rest := []) (st1 := [.int v4]) (μ1 := μ) (ax_dd KX9_ball 52 rfl) (c_X5_answer hs b5) kV_X9_190 e_X5_answer (hs 34 _ rfl) cl_X5 (by decide) rfl rfl (by decide) (by decide) (Nat.le_of_ble_eq_true rfl) rfl ?_
    obtain rfl := Option.some.inj h
    exact ax_ireti (pc := 105) (ax_dd KX9_ball 53 rfl) ⟨_, rfl, rfl⟩ rfl
def m_X9_ball_51 (x2 : Int32) (x3 : Int32) : Nat → Int32 → Int32 → ax_M → Option (Int32 × ax_M)
  | 0, _, _, _ => none
  | n + 1, x4, x5, μ =>
    if 6 ≤ x5 then
      m_X9_ball_87 x3 μ
    else
      if x4 = (-1) then
        m_X9_ball_87 x3 μ
      else
        (m_X5_go x4 μ).bind fun μ5 =>
        (m_X9_stepFrom x4 x2 μ5).bind fun v6 =>
        m_X9_ball_51 x2 x3 n v6 (x5 + 1) μ5
set_option maxRecDepth 100000 in
set_option maxHeartbeats 8000000 in
theorem a_X9_ball_51 {G : ax_G} {l : Launch} {sh : List ax_E} {x2 : Int32} {x3 : Int32} (hs : ∀ (k : Nat) (e : ax_E), SHc[k]? = some e → sh[k]? = some e) : ∀ (n : Nat) (x4 : Int32) (x5 : Int32) (μ : ax_M) (v : Int32 × ax_M), m_X9_ball_51 x2 x3 n x4 x5 μ = some v → ax_X G l RX9 cX9_ball 6 (some .int) false 8 (some (.int v.1), sh, v.2) 51 [(0, .ref (G.1 + 0)), (2, .int x2), (3, .int x3), (4, .int x4), (5, .int x5)] [] sh μ := by
  intro n
  induction n with
  | zero =>
    intro x4 x5 μ v h
    rw [m_X9_ball_51] at h
    cases h
  | succ n ih =>
    intro x4 x5 μ v h
    rw [m_X9_ball_51] at h
    refine ax_iload (pc := 51) (q := 4) (ax_dd KX9_ball 27 rfl) rfl ?_
    refine ax_bipush (pc := 53) (v := 6) (ax_dd KX9_ball 28 rfl) (by decide) ?_
    by_cases c1 : 6 ≤ x5
    · rw [if_pos c1] at h
      refine ax_icmp_ge_t (pc := 55) (tgt := 87) (ax_dd KX9_ball 29 rfl) (by decide) c1 ?_
      refine ax_sub (lv' := [(0, .ref (G.1 + 0)), (3, .int x3)]) [0, 2] rfl ?_
      exact a_X9_ball_87 hs h
    · rw [if_neg c1] at h
      refine ax_icmp_ge_f (pc := 55) (tgt := 87) (ax_dd KX9_ball 29 rfl) (by decide) c1 ?_
      refine ax_iload (pc := 58) (q := 3) (ax_dd KX9_ball 30 rfl) rfl ?_
      refine ax_iconst (pc := 60) (v := (-1)) (ax_dd KX9_ball 31 rfl) (by decide) ?_
      by_cases c2 : x4 = (-1)
      · rw [if_pos c2] at h
        refine ax_icmp_eq_t (pc := 61) (tgt := 87) (ax_dd KX9_ball 32 rfl) (by decide) c2 ?_
        refine ax_sub (lv' := [(0, .ref (G.1 + 0)), (3, .int x3)]) [0, 2] rfl ?_
        exact a_X9_ball_87 hs h
      · rw [if_neg c2] at h
        refine ax_icmp_eq_f (pc := 61) (tgt := 87) (ax_dd KX9_ball 32 rfl) (by decide) c2 ?_
        refine ax_aload_n (pc := 64) (i := 0) (q := 0) (ax_dd KX9_ball 33 rfl) rfl rfl ?_
        refine ax_getR (pc := 65) (k := 0) (q := 34) (ax_dd KX9_ball 34 rfl) f_X9_46 (hs 0 _ rfl) rfl ?_
        refine ax_iload (pc := 68) (q := 3) (ax_dd KX9_ball 35 rfl) rfl ?_
        obtain ⟨μ5, b4, h⟩ := ob_bind h
        refine ax_kV (pc := 70) (ci := 5) (k := 34) (As := [.int x4]) (rest := []) (st1 := []) (μ1 := μ5) (ax_dd KX9_ball 36 rfl) (c_X5_go hs b4) kV_X9_203 e_X5_go (hs 34 _ rfl) cl_X5 (by decide) rfl rfl (by decide) (by decide) (Nat.le_of_ble_eq_true rfl) rfl ?_
        refine ax_iload (pc := 73) (q := 3) (ax_dd KX9_ball 37 rfl) rfl ?_
        refine ax_iload_n (pc := 75) (i := 2) (q := 1) (ax_dd KX9_ball 38 rfl) rfl rfl ?_
        obtain ⟨v6, b7, h⟩ := ob_bind h
        refine ax_kS (pc := 76) (As := [.int x4, .int x2]) (rest := []) (st1 := [.int v6]) (μ1 := μ5) (ax_dd KX9_ball 39 rfl) (c_X9_stepFrom hs b7) kS_X9_206 e_X9_stepFrom rfl rfl (by decide) (by decide) (Nat.le_of_ble_eq_true rfl) rfl ?_
        refine ax_istore (pc := 79) (lv' := [(4, .int v6), (0, .ref (G.1 + 0)), (2, .int x2), (3, .int x3), (5, .int x5)]) (ax_dd KX9_ball 40 rfl) (by decide) rfl ?_
        refine ax_iinc (pc := 81) (q := 4) (v := (x5 + 1)) (lv' := [(5, .int (x5 + 1)), (4, .int v6), (0, .ref (G.1 + 0)), (2, .int x2), (3, .int x3)]) (ax_dd KX9_ball 41 rfl) rfl rfl (by decide) rfl ?_
        refine ax_goto (pc := 84) (tgt := 51) (ax_dd KX9_ball 42 rfl) (by decide) ?_
        refine ax_sub (lv' := [(0, .ref (G.1 + 0)), (2, .int x2), (3, .int x3), (4, .int v6), (5, .int (x5 + 1))]) [2, 3, 4, 1, 0] rfl ?_
        exact ih _ _ _ _ h
def m_X9_ball (x1 : Int32) (x2 : Int32) (x3 : Int32) (μ : ax_M) : Option (Int32 × ax_M) :=
  (m_X9_isCell x1 μ).bind fun v1 =>
  if v1 = 0 then
    some ((-5), μ)
  else
    if x2 < 0 then
      some ((-7), μ)
    else
      if 4 ≤ x2 then
        some ((-7), μ)
      else
        if x3 < 0 then
          some ((-7), μ)
        else
          if x3 ≤ 2 then
            (m_X0_look μ).bind fun μ10 =>
            (m_X5_begin μ10).bind fun μ13 =>
            m_X9_ball_51 x2 x3 fu x1 0 μ13
          else
            some ((-7), μ)
set_option maxRecDepth 100000 in
set_option maxHeartbeats 8000000 in
theorem c_X9_ball {G : ax_G} {l : Launch} {sh : List ax_E} {x1 : Int32} {x2 : Int32} {x3 : Int32} {μ : ax_M} (hs : ∀ (k : Nat) (e : ax_E), SHc[k]? = some e → sh[k]? = some e) {v : Int32 × ax_M} (h : m_X9_ball x1 x2 x3 μ = some v) : ax_A G l yX9_ball cX9_ball 6 (some .int) 8 [.ref (G.1 + 0), .int x1, .int x2, .int x3] sh μ (some (.int v.1), sh, v.2) := by
  refine ax_A.of false (by decide +kernel) (fun h9 => by cases h9) (Nat.le_of_ble_eq_true rfl) (?_ : ax_X G l RX9 cX9_ball 6 (some .int) false 8 (some (.int v.1), sh, v.2) 0 [(0, .ref (G.1 + 0)), (1, .int x1), (2, .int x2), (3, .int x3)] [] sh μ)
  unfold m_X9_ball at h
  refine ax_iload_n (pc := 0) (i := 1) (q := 1) (ax_dd KX9_ball 0 rfl) rfl rfl ?_
  obtain ⟨v1, b2, h⟩ := ob_bind h
  refine ax_kS (pc := 1) (As := [.int x1]) (rest := []) (st1 := [.int v1]) (μ1 := μ) (ax_dd KX9_ball 1 rfl) (c_X9_isCell hs b2) kS_X9_120 e_X9_isCell rfl rfl (by decide) (by decide) (Nat.le_of_ble_eq_true rfl) rfl ?_
  by_cases c3 : v1 = 0
  · rw [if_pos c3] at h
    refine ax_if_ne_f (pc := 4) (tgt := 10) (ax_dd KX9_ball 2 rfl) (by decide) (fun z => z c3) ?_
    refine ax_bipush (pc := 7) (v := (-5)) (ax_dd KX9_ball 3 rfl) (by decide) ?_
    obtain rfl := Option.some.inj h
    exact ax_ireti (pc := 9) (ax_dd KX9_ball 4 rfl) ⟨_, rfl, rfl⟩ rfl
  · rw [if_neg c3] at h
    refine ax_if_ne_t (pc := 4) (tgt := 10) (ax_dd KX9_ball 2 rfl) (by decide) c3 ?_
    refine ax_iload_n (pc := 10) (i := 2) (q := 2) (ax_dd KX9_ball 5 rfl) rfl rfl ?_
    by_cases c4 : x2 < 0
    · rw [if_pos c4] at h
      refine ax_if_lt_t (pc := 11) (tgt := 28) (ax_dd KX9_ball 6 rfl) (by decide) c4 ?_
      refine ax_bipush (pc := 28) (v := (-7)) (ax_dd KX9_ball 15 rfl) (by decide) ?_
      obtain rfl := Option.some.inj h
      exact ax_ireti (pc := 30) (ax_dd KX9_ball 16 rfl) ⟨_, rfl, rfl⟩ rfl
    · rw [if_neg c4] at h
      refine ax_if_lt_f (pc := 11) (tgt := 28) (ax_dd KX9_ball 6 rfl) (by decide) c4 ?_
      refine ax_iload_n (pc := 14) (i := 2) (q := 2) (ax_dd KX9_ball 7 rfl) rfl rfl ?_
      refine ax_iconst (pc := 15) (v := 4) (ax_dd KX9_ball 8 rfl) (by decide) ?_
      by_cases c5 : 4 ≤ x2
      · rw [if_pos c5] at h
        refine ax_icmp_ge_t (pc := 16) (tgt := 28) (ax_dd KX9_ball 9 rfl) (by decide) c5 ?_
        refine ax_bipush (pc := 28) (v := (-7)) (ax_dd KX9_ball 15 rfl) (by decide) ?_
        obtain rfl := Option.some.inj h
        exact ax_ireti (pc := 30) (ax_dd KX9_ball 16 rfl) ⟨_, rfl, rfl⟩ rfl
      · rw [if_neg c5] at h
        refine ax_icmp_ge_f (pc := 16) (tgt := 28) (ax_dd KX9_ball 9 rfl) (by decide) c5 ?_
        refine ax_iload_n (pc := 19) (i := 3) (q := 3) (ax_dd KX9_ball 10 rfl) rfl rfl ?_
        by_cases c6 : x3 < 0
        · rw [if_pos c6] at h
          refine ax_if_lt_t (pc := 20) (tgt := 28) (ax_dd KX9_ball 11 rfl) (by decide) c6 ?_
          refine ax_bipush (pc := 28) (v := (-7)) (ax_dd KX9_ball 15 rfl) (by decide) ?_
          obtain rfl := Option.some.inj h
          exact ax_ireti (pc := 30) (ax_dd KX9_ball 16 rfl) ⟨_, rfl, rfl⟩ rfl
        · rw [if_neg c6] at h
          refine ax_if_lt_f (pc := 20) (tgt := 28) (ax_dd KX9_ball 11 rfl) (by decide) c6 ?_
          refine ax_iload_n (pc := 23) (i := 3) (q := 3) (ax_dd KX9_ball 12 rfl) rfl rfl ?_
          refine ax_iconst (pc := 24) (v := 2) (ax_dd KX9_ball 13 rfl) (by decide) ?_
          by_cases c7 : x3 ≤ 2
          · rw [if_pos c7] at h
            refine ax_icmp_le_t (pc := 25) (tgt := 31) (ax_dd KX9_ball 14 rfl) (by decide) c7 ?_
            refine ax_aload_n (pc := 31) (i := 0) (q := 0) (ax_dd KX9_ball 17 rfl) rfl rfl ?_
            refine ax_getR (pc := 32) (k := 0) (q := 25) (ax_dd KX9_ball 18 rfl) f_X9_37 (hs 0 _ rfl) rfl ?_
            obtain ⟨μ10, b9, h⟩ := ob_bind h
            refine ax_kV (pc := 35) (ci := 0) (k := 25) (As := []) (rest := []) (st1 := []) (μ1 := μ10) (ax_dd KX9_ball 19 rfl) (c_X0_look hs b9) kV_X9_160 e_X0_look (hs 25 _ rfl) cl_X0 (by decide) rfl rfl (by decide) (by decide) (Nat.le_of_ble_eq_true rfl) rfl ?_
            refine ax_aload_n (pc := 38) (i := 0) (q := 0) (ax_dd KX9_ball 20 rfl) rfl rfl ?_
            refine ax_getR (pc := 39) (k := 0) (q := 34) (ax_dd KX9_ball 21 rfl) f_X9_46 (hs 0 _ rfl) rfl ?_
            obtain ⟨μ13, b12, h⟩ := ob_bind h
            refine ax_kV (pc := 42) (ci := 5) (k := 34) (As := []) (rest := []) (st1 := []) (μ1 := μ13) (ax_dd KX9_ball 22 rfl) (c_X5_begin hs b12) kV_X9_200 e_X5_begin (hs 34 _ rfl) cl_X5 (by decide) rfl rfl (by decide) (by decide) (Nat.le_of_ble_eq_true rfl) rfl ?_
            refine ax_iload_n (pc := 45) (i := 1) (q := 1) (ax_dd KX9_ball 23 rfl) rfl rfl ?_
            refine ax_istore (pc := 46) (lv' := [(4, .int x1), (0, .ref (G.1 + 0)), (1, .int x1), (2, .int x2), (3, .int x3)]) (ax_dd KX9_ball 24 rfl) (by decide) rfl ?_
            refine ax_iconst (pc := 48) (v := 0) (ax_dd KX9_ball 25 rfl) (by decide) ?_
            refine ax_istore (pc := 49) (lv' := [(5, .int 0), (4, .int x1), (0, .ref (G.1 + 0)), (1, .int x1), (2, .int x2), (3, .int x3)]) (ax_dd KX9_ball 26 rfl) (by decide) rfl ?_
            refine ax_sub (lv' := [(0, .ref (G.1 + 0)), (2, .int x2), (3, .int x3), (4, .int x1), (5, .int 0)]) [2, 4, 5, 1, 0] rfl ?_
            exact a_X9_ball_51 hs fu _ _ _ _ h
          · rw [if_neg c7] at h
            refine ax_icmp_le_f (pc := 25) (tgt := 31) (ax_dd KX9_ball 14 rfl) (by decide) c7 ?_
            refine ax_bipush (pc := 28) (v := (-7)) (ax_dd KX9_ball 15 rfl) (by decide) ?_
            obtain rfl := Option.some.inj h
            exact ax_ireti (pc := 30) (ax_dd KX9_ball 16 rfl) ⟨_, rfl, rfl⟩ rfl
def m_X9_way (x1 : Int32) (x2 : Int32) (μ : ax_M) : Option (Int32 × ax_M) :=
  if x1 < 0 then
    some ((-2), μ)
  else
    (m_X9_isCell (x1 / 100) μ).bind fun v2 =>
    if v2 = 0 then
      some ((-2), μ)
    else
      (m_X9_isCell (rmI x1 100) μ).bind fun v5 =>
      if v5 = 0 then
        some ((-2), μ)
      else
        if x2 < 0 then
          some ((-2), μ)
        else
          if x2 ≤ 2 then
            (m_X0_look μ).bind fun μ12 =>
            bind2 (m_X8_least (x1 / 100) (rmI x1 100) x2 μ12) fun v13 μ15 =>
            some (v13, μ15)
          else
            some ((-2), μ)
set_option maxRecDepth 100000 in
set_option maxHeartbeats 8000000 in
theorem c_X9_way {G : ax_G} {l : Launch} {sh : List ax_E} {x1 : Int32} {x2 : Int32} {μ : ax_M} (hs : ∀ (k : Nat) (e : ax_E), SHc[k]? = some e → sh[k]? = some e) {v : Int32 × ax_M} (h : m_X9_way x1 x2 μ = some v) : ax_A G l yX9_way cX9_way 3 (some .int) 8 [.ref (G.1 + 0), .int x1, .int x2] sh μ (some (.int v.1), sh, v.2) := by
  refine ax_A.of false (by decide +kernel) (fun h9 => by cases h9) (Nat.le_of_ble_eq_true rfl) (?_ : ax_X G l RX9 cX9_way 3 (some .int) false 8 (some (.int v.1), sh, v.2) 0 [(0, .ref (G.1 + 0)), (1, .int x1), (2, .int x2)] [] sh μ)
  unfold m_X9_way at h
  refine ax_iload_n (pc := 0) (i := 1) (q := 1) (ax_dd KX9_way 0 rfl) rfl rfl ?_
  by_cases c1 : x1 < 0
  · rw [if_pos c1] at h
    refine ax_if_lt_t (pc := 1) (tgt := 33) (ax_dd KX9_way 1 rfl) (by decide) c1 ?_
    refine ax_bipush (pc := 33) (v := (-2)) (ax_dd KX9_way 17 rfl) (by decide) ?_
    obtain rfl := Option.some.inj h
    exact ax_ireti (pc := 35) (ax_dd KX9_way 18 rfl) ⟨_, rfl, rfl⟩ rfl
  · rw [if_neg c1] at h
    refine ax_if_lt_f (pc := 1) (tgt := 33) (ax_dd KX9_way 1 rfl) (by decide) c1 ?_
    refine ax_iload_n (pc := 4) (i := 1) (q := 1) (ax_dd KX9_way 2 rfl) rfl rfl ?_
    refine ax_bipush (pc := 5) (v := 100) (ax_dd KX9_way 3 rfl) (by decide) ?_
    refine ax_idiv (pc := 7) (ax_dd KX9_way 4 rfl) (by decide) ?_
    obtain ⟨v2, b3, h⟩ := ob_bind h
    refine ax_kS (pc := 8) (As := [.int (x1 / 100)]) (rest := []) (st1 := [.int v2]) (μ1 := μ) (ax_dd KX9_way 5 rfl) (c_X9_isCell hs b3) kS_X9_120 e_X9_isCell rfl rfl (by decide) (by decide) (Nat.le_of_ble_eq_true rfl) rfl ?_
    by_cases c4 : v2 = 0
    · rw [if_pos c4] at h
      refine ax_if_eq_t (pc := 11) (tgt := 33) (ax_dd KX9_way 6 rfl) (by decide) c4 ?_
      refine ax_bipush (pc := 33) (v := (-2)) (ax_dd KX9_way 17 rfl) (by decide) ?_
      obtain rfl := Option.some.inj h
      exact ax_ireti (pc := 35) (ax_dd KX9_way 18 rfl) ⟨_, rfl, rfl⟩ rfl
    · rw [if_neg c4] at h
      refine ax_if_eq_f (pc := 11) (tgt := 33) (ax_dd KX9_way 6 rfl) (by decide) c4 ?_
      refine ax_iload_n (pc := 14) (i := 1) (q := 1) (ax_dd KX9_way 7 rfl) rfl rfl ?_
      refine ax_bipush (pc := 15) (v := 100) (ax_dd KX9_way 8 rfl) (by decide) ?_
      refine ax_irem (pc := 17) (ax_dd KX9_way 9 rfl) (by decide) ?_
      obtain ⟨v5, b6, h⟩ := ob_bind h
      refine ax_kS (pc := 18) (As := [.int (rmI x1 100)]) (rest := []) (st1 := [.int v5]) (μ1 := μ) (ax_dd KX9_way 10 rfl) (c_X9_isCell hs b6) kS_X9_120 e_X9_isCell rfl rfl (by decide) (by decide) (Nat.le_of_ble_eq_true rfl) rfl ?_
      by_cases c7 : v5 = 0
      · rw [if_pos c7] at h
        refine ax_if_eq_t (pc := 21) (tgt := 33) (ax_dd KX9_way 11 rfl) (by decide) c7 ?_
        refine ax_bipush (pc := 33) (v := (-2)) (ax_dd KX9_way 17 rfl) (by decide) ?_
        obtain rfl := Option.some.inj h
        exact ax_ireti (pc := 35) (ax_dd KX9_way 18 rfl) ⟨_, rfl, rfl⟩ rfl
      · rw [if_neg c7] at h
        refine ax_if_eq_f (pc := 21) (tgt := 33) (ax_dd KX9_way 11 rfl) (by decide) c7 ?_
        refine ax_iload_n (pc := 24) (i := 2) (q := 2) (ax_dd KX9_way 12 rfl) rfl rfl ?_
        by_cases c8 : x2 < 0
        · rw [if_pos c8] at h
          refine ax_if_lt_t (pc := 25) (tgt := 33) (ax_dd KX9_way 13 rfl) (by decide) c8 ?_
          refine ax_bipush (pc := 33) (v := (-2)) (ax_dd KX9_way 17 rfl) (by decide) ?_
          obtain rfl := Option.some.inj h
          exact ax_ireti (pc := 35) (ax_dd KX9_way 18 rfl) ⟨_, rfl, rfl⟩ rfl
        · rw [if_neg c8] at h
          refine ax_if_lt_f (pc := 25) (tgt := 33) (ax_dd KX9_way 13 rfl) (by decide) c8 ?_
          refine ax_iload_n (pc := 28) (i := 2) (q := 2) (ax_dd KX9_way 14 rfl) rfl rfl ?_
          refine ax_iconst (pc := 29) (v := 2) (ax_dd KX9_way 15 rfl) (by decide) ?_
          by_cases c9 : x2 ≤ 2
          · rw [if_pos c9] at h
            refine ax_icmp_le_t (pc := 30) (tgt := 36) (ax_dd KX9_way 16 rfl) (by decide) c9 ?_
            refine ax_aload_n (pc := 36) (i := 0) (q := 0) (ax_dd KX9_way 19 rfl) rfl rfl ?_
            refine ax_getR (pc := 37) (k := 0) (q := 25) (ax_dd KX9_way 20 rfl) f_X9_37 (hs 0 _ rfl) rfl ?_
            obtain ⟨μ12, b11, h⟩ := ob_bind h
            refine ax_kV (pc := 40) (ci := 0) (k := 25) (As := []) (rest := []) (st1 := []) (μ1 := μ12) (ax_dd KX9_way 21 rfl) (c_X0_look hs b11) kV_X9_160 e_X0_look (hs 25 _ rfl) cl_X0 (by decide) rfl rfl (by decide) (by decide) (Nat.le_of_ble_eq_true rfl) rfl ?_
            refine ax_aload_n (pc := 43) (i := 0) (q := 0) (ax_dd KX9_way 22 rfl) rfl rfl ?_
            refine ax_getR (pc := 44) (k := 0) (q := 35) (ax_dd KX9_way 23 rfl) f_X9_53 (hs 0 _ rfl) rfl ?_
            refine ax_iload_n (pc := 47) (i := 1) (q := 1) (ax_dd KX9_way 24 rfl) rfl rfl ?_
            refine ax_bipush (pc := 48) (v := 100) (ax_dd KX9_way 25 rfl) (by decide) ?_
            refine ax_idiv (pc := 50) (ax_dd KX9_way 26 rfl) (by decide) ?_
            refine ax_iload_n (pc := 51) (i := 1) (q := 1) (ax_dd KX9_way 27 rfl) rfl rfl ?_
            refine ax_bipush (pc := 52) (v := 100) (ax_dd KX9_way 28 rfl) (by decide) ?_
            refine ax_irem (pc := 54) (ax_dd KX9_way 29 rfl) (by decide) ?_
            refine ax_iload_n (pc := 55) (i := 2) (q := 2) (ax_dd KX9_way 30 rfl) rfl rfl ?_
            obtain ⟨v13, μ15, b14, h⟩ := ob_bind2 h
            refine ax_kV (pc := 56) (ci := 8) (k := 35) (As := [.int (x1 / 100), .int (rmI x1 100), .int x2]) (rest := []) (st1 := [.int v13]) (μ1 := μ15) (ax_dd KX9_way 31 rfl) (c_X8_least hs b14) kV_X9_209 e_X8_least (hs 35 _ rfl) cl_X8 (by decide) rfl rfl (by decide) (by decide) (Nat.le_of_ble_eq_true rfl) rfl ?_
            obtain rfl := Option.some.inj h
            exact ax_ireti (pc := 59) (ax_dd KX9_way 32 rfl) ⟨_, rfl, rfl⟩ rfl
          · rw [if_neg c9] at h
            refine ax_icmp_le_f (pc := 30) (tgt := 36) (ax_dd KX9_way 16 rfl) (by decide) c9 ?_
            refine ax_bipush (pc := 33) (v := (-2)) (ax_dd KX9_way 17 rfl) (by decide) ?_
            obtain rfl := Option.some.inj h
            exact ax_ireti (pc := 35) (ax_dd KX9_way 18 rfl) ⟨_, rfl, rfl⟩ rfl
def m_X9_borders (x1 : Int32) (μ : ax_M) : Option (Int32 × ax_M) :=
  (m_X0_isRug x1 μ).bind fun v1 =>
  if v1 = 0 then
    some ((-5), μ)
  else
    (m_X0_findRulers μ).bind fun μ6 =>
    (m_X0_neighbours x1 μ6).bind fun v7 =>
    some (v7, μ6)
set_option maxRecDepth 100000 in
set_option maxHeartbeats 8000000 in
theorem c_X9_borders {G : ax_G} {l : Launch} {sh : List ax_E} {x1 : Int32} {μ : ax_M} (hs : ∀ (k : Nat) (e : ax_E), SHc[k]? = some e → sh[k]? = some e) {v : Int32 × ax_M} (h : m_X9_borders x1 μ = some v) : ax_A G l yX9_borders cX9_borders 2 (some .int) 7 [.ref (G.1 + 0), .int x1] sh μ (some (.int v.1), sh, v.2) := by
  refine ax_A.of false (by decide +kernel) (fun h9 => by cases h9) (Nat.le_of_ble_eq_true rfl) (?_ : ax_X G l RX9 cX9_borders 2 (some .int) false 7 (some (.int v.1), sh, v.2) 0 [(0, .ref (G.1 + 0)), (1, .int x1)] [] sh μ)
  unfold m_X9_borders at h
  refine ax_aload_n (pc := 0) (i := 0) (q := 0) (ax_dd KX9_borders 0 rfl) rfl rfl ?_
  refine ax_getR (pc := 1) (k := 0) (q := 25) (ax_dd KX9_borders 1 rfl) f_X9_37 (hs 0 _ rfl) rfl ?_
  refine ax_iload_n (pc := 4) (i := 1) (q := 1) (ax_dd KX9_borders 2 rfl) rfl rfl ?_
  obtain ⟨v1, b2, h⟩ := ob_bind h
  refine ax_kV (pc := 5) (ci := 0) (k := 25) (As := [.int x1]) (rest := []) (st1 := [.int v1]) (μ1 := μ) (ax_dd KX9_borders 3 rfl) (c_X0_isRug hs b2) kV_X9_117 e_X0_isRug (hs 25 _ rfl) cl_X0 (by decide) rfl rfl (by decide) (by decide) (Nat.le_of_ble_eq_true rfl) rfl ?_
  by_cases c3 : v1 = 0
  · rw [if_pos c3] at h
    refine ax_if_ne_f (pc := 8) (tgt := 14) (ax_dd KX9_borders 4 rfl) (by decide) (fun z => z c3) ?_
    refine ax_bipush (pc := 11) (v := (-5)) (ax_dd KX9_borders 5 rfl) (by decide) ?_
    obtain rfl := Option.some.inj h
    exact ax_ireti (pc := 13) (ax_dd KX9_borders 6 rfl) ⟨_, rfl, rfl⟩ rfl
  · rw [if_neg c3] at h
    refine ax_if_ne_t (pc := 8) (tgt := 14) (ax_dd KX9_borders 4 rfl) (by decide) c3 ?_
    refine ax_aload_n (pc := 14) (i := 0) (q := 0) (ax_dd KX9_borders 7 rfl) rfl rfl ?_
    refine ax_getR (pc := 15) (k := 0) (q := 25) (ax_dd KX9_borders 8 rfl) f_X9_37 (hs 0 _ rfl) rfl ?_
    obtain ⟨μ6, b5, h⟩ := ob_bind h
    refine ax_kV (pc := 18) (ci := 0) (k := 25) (As := []) (rest := []) (st1 := []) (μ1 := μ6) (ax_dd KX9_borders 9 rfl) (c_X0_findRulers hs b5) kV_X9_177 e_X0_findRulers (hs 25 _ rfl) cl_X0 (by decide) rfl rfl (by decide) (by decide) (Nat.le_of_ble_eq_true rfl) rfl ?_
    refine ax_aload_n (pc := 21) (i := 0) (q := 0) (ax_dd KX9_borders 10 rfl) rfl rfl ?_
    refine ax_getR (pc := 22) (k := 0) (q := 25) (ax_dd KX9_borders 11 rfl) f_X9_37 (hs 0 _ rfl) rfl ?_
    refine ax_iload_n (pc := 25) (i := 1) (q := 1) (ax_dd KX9_borders 12 rfl) rfl rfl ?_
    obtain ⟨v7, b8, h⟩ := ob_bind h
    refine ax_kV (pc := 26) (ci := 0) (k := 25) (As := [.int x1]) (rest := []) (st1 := [.int v7]) (μ1 := μ6) (ax_dd KX9_borders 13 rfl) (c_X0_neighbours hs b8) kV_X9_213 e_X0_neighbours (hs 25 _ rfl) cl_X0 (by decide) rfl rfl (by decide) (by decide) (Nat.le_of_ble_eq_true rfl) rfl ?_
    obtain rfl := Option.some.inj h
    exact ax_ireti (pc := 29) (ax_dd KX9_borders 14 rfl) ⟨_, rfl, rfl⟩ rfl
def m_X9_league_26 (x1 : Int32) (x2 : Int32) (μ : ax_M) : Option (Int32 × ax_M) :=
  (m_X0_findRulers μ).bind fun μ3 =>
  (m_X0_joined x1 μ3).bind fun v4 =>
  if x2 = 0 then
    some (v4, μ3)
  else
    (m_X0_ruledByAny v4 μ3).bind fun v7 =>
    some (v7, μ3)
set_option maxRecDepth 100000 in
set_option maxHeartbeats 8000000 in
theorem a_X9_league_26 {G : ax_G} {l : Launch} {sh : List ax_E} {x1 : Int32} {x2 : Int32} {μ : ax_M} (hs : ∀ (k : Nat) (e : ax_E), SHc[k]? = some e → sh[k]? = some e) {v : Int32 × ax_M} (h : m_X9_league_26 x1 x2 μ = some v) : ax_X G l RX9 cX9_league 4 (some .int) false 7 (some (.int v.1), sh, v.2) 26 [(0, .ref (G.1 + 0)), (1, .int x1), (2, .int x2)] [] sh μ := by
  unfold m_X9_league_26 at h
  refine ax_aload_n (pc := 26) (i := 0) (q := 0) (ax_dd KX9_league 14 rfl) rfl rfl ?_
  refine ax_getR (pc := 27) (k := 0) (q := 25) (ax_dd KX9_league 15 rfl) f_X9_37 (hs 0 _ rfl) rfl ?_
  obtain ⟨μ3, b2, h⟩ := ob_bind h
  refine ax_kV (pc := 30) (ci := 0) (k := 25) (As := []) (rest := []) (st1 := []) (μ1 := μ3) (ax_dd KX9_league 16 rfl) (c_X0_findRulers hs b2) kV_X9_177 e_X0_findRulers (hs 25 _ rfl) cl_X0 (by decide) rfl rfl (by decide) (by decide) (Nat.le_of_ble_eq_true rfl) rfl ?_
  refine ax_aload_n (pc := 33) (i := 0) (q := 0) (ax_dd KX9_league 17 rfl) rfl rfl ?_
  refine ax_getR (pc := 34) (k := 0) (q := 25) (ax_dd KX9_league 18 rfl) f_X9_37 (hs 0 _ rfl) rfl ?_
  refine ax_iload_n (pc := 37) (i := 1) (q := 1) (ax_dd KX9_league 19 rfl) rfl rfl ?_
  obtain ⟨v4, b5, h⟩ := ob_bind h
  refine ax_kV (pc := 38) (ci := 0) (k := 25) (As := [.int x1]) (rest := []) (st1 := [.int v4]) (μ1 := μ3) (ax_dd KX9_league 20 rfl) (c_X0_joined hs b5) kV_X9_216 e_X0_joined (hs 25 _ rfl) cl_X0 (by decide) rfl rfl (by decide) (by decide) (Nat.le_of_ble_eq_true rfl) rfl ?_
  refine ax_istore_n (pc := 41) (i := 3) (lv' := [(3, .int v4), (0, .ref (G.1 + 0)), (1, .int x1), (2, .int x2)]) (ax_dd KX9_league 21 rfl) rfl (by decide) rfl ?_
  refine ax_iload_n (pc := 42) (i := 2) (q := 3) (ax_dd KX9_league 22 rfl) rfl rfl ?_
  by_cases c6 : x2 = 0
  · rw [if_pos c6] at h
    refine ax_if_ne_f (pc := 43) (tgt := 50) (ax_dd KX9_league 23 rfl) (by decide) (fun z => z c6) ?_
    refine ax_iload_n (pc := 46) (i := 3) (q := 0) (ax_dd KX9_league 24 rfl) rfl rfl ?_
    refine ax_goto (pc := 47) (tgt := 58) (ax_dd KX9_league 25 rfl) (by decide) ?_
    obtain rfl := Option.some.inj h
    exact ax_ireti (pc := 58) (ax_dd KX9_league 30 rfl) ⟨_, rfl, rfl⟩ rfl
  · rw [if_neg c6] at h
    refine ax_if_ne_t (pc := 43) (tgt := 50) (ax_dd KX9_league 23 rfl) (by decide) c6 ?_
    refine ax_aload_n (pc := 50) (i := 0) (q := 1) (ax_dd KX9_league 26 rfl) rfl rfl ?_
    refine ax_getR (pc := 51) (k := 0) (q := 25) (ax_dd KX9_league 27 rfl) f_X9_37 (hs 0 _ rfl) rfl ?_
    refine ax_iload_n (pc := 54) (i := 3) (q := 0) (ax_dd KX9_league 28 rfl) rfl rfl ?_
    obtain ⟨v7, b8, h⟩ := ob_bind h
    refine ax_kV (pc := 55) (ci := 0) (k := 25) (As := [.int v4]) (rest := []) (st1 := [.int v7]) (μ1 := μ3) (ax_dd KX9_league 29 rfl) (c_X0_ruledByAny hs b8) kV_X9_219 e_X0_ruledByAny (hs 25 _ rfl) cl_X0 (by decide) rfl rfl (by decide) (by decide) (Nat.le_of_ble_eq_true rfl) rfl ?_
    obtain rfl := Option.some.inj h
    exact ax_ireti (pc := 58) (ax_dd KX9_league 30 rfl) ⟨_, rfl, rfl⟩ rfl
def m_X9_league (x1 : Int32) (x2 : Int32) (μ : ax_M) : Option (Int32 × ax_M) :=
  (m_X0_isRug x1 μ).bind fun v1 =>
  if v1 = 0 then
    some ((-5), μ)
  else
    if x2 = 0 then
      m_X9_league_26 x1 x2 μ
    else
      if x2 = 1 then
        m_X9_league_26 x1 x2 μ
      else
        some ((-7), μ)
set_option maxRecDepth 100000 in
set_option maxHeartbeats 8000000 in
theorem c_X9_league {G : ax_G} {l : Launch} {sh : List ax_E} {x1 : Int32} {x2 : Int32} {μ : ax_M} (hs : ∀ (k : Nat) (e : ax_E), SHc[k]? = some e → sh[k]? = some e) {v : Int32 × ax_M} (h : m_X9_league x1 x2 μ = some v) : ax_A G l yX9_league cX9_league 4 (some .int) 7 [.ref (G.1 + 0), .int x1, .int x2] sh μ (some (.int v.1), sh, v.2) := by
  refine ax_A.of false (by decide +kernel) (fun h9 => by cases h9) (Nat.le_of_ble_eq_true rfl) (?_ : ax_X G l RX9 cX9_league 4 (some .int) false 7 (some (.int v.1), sh, v.2) 0 [(0, .ref (G.1 + 0)), (1, .int x1), (2, .int x2)] [] sh μ)
  unfold m_X9_league at h
  refine ax_aload_n (pc := 0) (i := 0) (q := 0) (ax_dd KX9_league 0 rfl) rfl rfl ?_
  refine ax_getR (pc := 1) (k := 0) (q := 25) (ax_dd KX9_league 1 rfl) f_X9_37 (hs 0 _ rfl) rfl ?_
  refine ax_iload_n (pc := 4) (i := 1) (q := 1) (ax_dd KX9_league 2 rfl) rfl rfl ?_
  obtain ⟨v1, b2, h⟩ := ob_bind h
  refine ax_kV (pc := 5) (ci := 0) (k := 25) (As := [.int x1]) (rest := []) (st1 := [.int v1]) (μ1 := μ) (ax_dd KX9_league 3 rfl) (c_X0_isRug hs b2) kV_X9_117 e_X0_isRug (hs 25 _ rfl) cl_X0 (by decide) rfl rfl (by decide) (by decide) (Nat.le_of_ble_eq_true rfl) rfl ?_
  by_cases c3 : v1 = 0
  · rw [if_pos c3] at h
    refine ax_if_ne_f (pc := 8) (tgt := 14) (ax_dd KX9_league 4 rfl) (by decide) (fun z => z c3) ?_
    refine ax_bipush (pc := 11) (v := (-5)) (ax_dd KX9_league 5 rfl) (by decide) ?_
    obtain rfl := Option.some.inj h
    exact ax_ireti (pc := 13) (ax_dd KX9_league 6 rfl) ⟨_, rfl, rfl⟩ rfl
  · rw [if_neg c3] at h
    refine ax_if_ne_t (pc := 8) (tgt := 14) (ax_dd KX9_league 4 rfl) (by decide) c3 ?_
    refine ax_iload_n (pc := 14) (i := 2) (q := 2) (ax_dd KX9_league 7 rfl) rfl rfl ?_
    by_cases c4 : x2 = 0
    · rw [if_pos c4] at h
      refine ax_if_eq_t (pc := 15) (tgt := 26) (ax_dd KX9_league 8 rfl) (by decide) c4 ?_
      exact a_X9_league_26 hs h
    · rw [if_neg c4] at h
      refine ax_if_eq_f (pc := 15) (tgt := 26) (ax_dd KX9_league 8 rfl) (by decide) c4 ?_
      refine ax_iload_n (pc := 18) (i := 2) (q := 2) (ax_dd KX9_league 9 rfl) rfl rfl ?_
      refine ax_iconst (pc := 19) (v := 1) (ax_dd KX9_league 10 rfl) (by decide) ?_
      by_cases c5 : x2 = 1
      · rw [if_pos c5] at h
        refine ax_icmp_eq_t (pc := 20) (tgt := 26) (ax_dd KX9_league 11 rfl) (by decide) c5 ?_
        exact a_X9_league_26 hs h
      · rw [if_neg c5] at h
        refine ax_icmp_eq_f (pc := 20) (tgt := 26) (ax_dd KX9_league 11 rfl) (by decide) c5 ?_
        refine ax_bipush (pc := 23) (v := (-7)) (ax_dd KX9_league 12 rfl) (by decide) ?_
        obtain rfl := Option.some.inj h
        exact ax_ireti (pc := 25) (ax_dd KX9_league 13 rfl) ⟨_, rfl, rfl⟩ rfl
def m_X9_place_56 (x1 : Int32) (x2 : Int32) (x3 : Int32) (x4 : Int32) : Nat → Int32 → Int32 → Int32 → ax_M → Option (Int32 × ax_M)
  | 0, _, _, _, _ => none
  | n + 1, x5, x6, x7, μ =>
    if 36 ≤ x7 then
      (m_X0_lay x1 x3 x4 μ).bind fun μ4 =>
      if x2 = 0 then
        some (x5, μ4)
      else
        some (x6, μ4)
    else
      (m_X9_columnOf x7 μ).bind fun v6 =>
      (m_X9_columnOf x4 μ).bind fun v8 =>
      (m_X9_columnOf x3 μ).bind fun v10 =>
      if 6 ≤ ((v6 + v8) - v10) then
        m_X9_place_56 x1 x2 x3 x4 n x5 x6 (x7 + 1) μ
      else
        if 36 ≤ ((x7 + x4) - x3) then
          m_X9_place_56 x1 x2 x3 x4 n x5 x6 (x7 + 1) μ
        else
          (m_X0_lay x1 x7 ((x7 + x4) - x3) μ).bind fun μ16 =>
          bind2 (m_X0_ruledNow x1 μ16) fun v17 μ19 =>
          if v17 ≤ x6 then
            m_X9_place_56 x1 x2 x3 x4 n x5 x6 (x7 + 1) μ19
          else
            m_X9_place_56 x1 x2 x3 x4 n (((100 : Int32) * x7) + ((x7 + x4) - x3)) v17 (x7 + 1) μ19
set_option maxRecDepth 100000 in
set_option maxHeartbeats 8000000 in
theorem a_X9_place_56 {G : ax_G} {l : Launch} {sh : List ax_E} {x1 : Int32} {x2 : Int32} {x3 : Int32} {x4 : Int32} (hs : ∀ (k : Nat) (e : ax_E), SHc[k]? = some e → sh[k]? = some e) : ∀ (n : Nat) (x5 : Int32) (x6 : Int32) (x7 : Int32) (μ : ax_M) (v : Int32 × ax_M), m_X9_place_56 x1 x2 x3 x4 n x5 x6 x7 μ = some v → ax_X G l RX9 cX9_place 10 (some .int) false 8 (some (.int v.1), sh, v.2) 56 [(0, .ref (G.1 + 0)), (1, .int x1), (2, .int x2), (3, .int x3), (4, .int x4), (5, .int x5), (6, .int x6), (7, .int x7)] [] sh μ := by
  intro n
  induction n with
  | zero =>
    intro x5 x6 x7 μ v h
    rw [m_X9_place_56] at h
    cases h
  | succ n ih =>
    intro x5 x6 x7 μ v h
    rw [m_X9_place_56] at h
    refine ax_iload (pc := 56) (q := 7) (ax_dd KX9_place 32 rfl) rfl ?_
    refine ax_bipush (pc := 58) (v := 36) (ax_dd KX9_place 33 rfl) (by decide) ?_
    by_cases c1 : 36 ≤ x7
    · rw [if_pos c1] at h
      refine ax_icmp_ge_t (pc := 60) (tgt := 149) (ax_dd KX9_place 34 rfl) (by decide) c1 ?_
      refine ax_aload_n (pc := 149) (i := 0) (q := 0) (ax_dd KX9_place 78 rfl) rfl rfl ?_
      refine ax_getR (pc := 150) (k := 0) (q := 25) (ax_dd KX9_place 79 rfl) f_X9_37 (hs 0 _ rfl) rfl ?_
      refine ax_iload_n (pc := 153) (i := 1) (q := 1) (ax_dd KX9_place 80 rfl) rfl rfl ?_
      refine ax_iload_n (pc := 154) (i := 3) (q := 3) (ax_dd KX9_place 81 rfl) rfl rfl ?_
      refine ax_iload (pc := 155) (q := 4) (ax_dd KX9_place 82 rfl) rfl ?_
      obtain ⟨μ4, b3, h⟩ := ob_bind h
      refine ax_kV (pc := 157) (ci := 0) (k := 25) (As := [.int x1, .int x3, .int x4]) (rest := []) (st1 := []) (μ1 := μ4) (ax_dd KX9_place 83 rfl) (c_X0_lay hs b3) kV_X9_137 e_X0_lay (hs 25 _ rfl) cl_X0 (by decide) rfl rfl (by decide) (by decide) (Nat.le_of_ble_eq_true rfl) rfl ?_
      refine ax_iload_n (pc := 160) (i := 2) (q := 2) (ax_dd KX9_place 84 rfl) rfl rfl ?_
      by_cases c5 : x2 = 0
      · rw [if_pos c5] at h
        refine ax_if_ne_f (pc := 161) (tgt := 169) (ax_dd KX9_place 85 rfl) (by decide) (fun z => z c5) ?_
        refine ax_iload (pc := 164) (q := 5) (ax_dd KX9_place 86 rfl) rfl ?_
        refine ax_goto (pc := 166) (tgt := 171) (ax_dd KX9_place 87 rfl) (by decide) ?_
        obtain rfl := Option.some.inj h
        exact ax_ireti (pc := 171) (ax_dd KX9_place 89 rfl) ⟨_, rfl, rfl⟩ rfl
      · rw [if_neg c5] at h
        refine ax_if_ne_t (pc := 161) (tgt := 169) (ax_dd KX9_place 85 rfl) (by decide) c5 ?_
        refine ax_iload (pc := 169) (q := 6) (ax_dd KX9_place 88 rfl) rfl ?_
        obtain rfl := Option.some.inj h
        exact ax_ireti (pc := 171) (ax_dd KX9_place 89 rfl) ⟨_, rfl, rfl⟩ rfl
    · rw [if_neg c1] at h
      refine ax_icmp_ge_f (pc := 60) (tgt := 149) (ax_dd KX9_place 34 rfl) (by decide) c1 ?_
      refine ax_iload (pc := 63) (q := 7) (ax_dd KX9_place 35 rfl) rfl ?_
      refine ax_iload (pc := 65) (q := 4) (ax_dd KX9_place 36 rfl) rfl ?_
      refine ax_iadd (pc := 67) (ax_dd KX9_place 37 rfl) ?_
      refine ax_iload_n (pc := 68) (i := 3) (q := 3) (ax_dd KX9_place 38 rfl) rfl rfl ?_
      refine ax_isub (pc := 69) (ax_dd KX9_place 39 rfl) ?_
      refine ax_istore (pc := 70) (lv' := [(8, .int ((x7 + x4) - x3)), (0, .ref (G.1 + 0)), (1, .int x1), (2, .int x2), (3, .int x3), (4, .int x4), (5, .int x5), (6, .int x6), (7, .int x7)]) (ax_dd KX9_place 40 rfl) (by decide) rfl ?_
      refine ax_iload (pc := 72) (q := 8) (ax_dd KX9_place 41 rfl) rfl ?_
      obtain ⟨v6, b7, h⟩ := ob_bind h
      refine ax_kS (pc := 74) (As := [.int x7]) (rest := []) (st1 := [.int v6]) (μ1 := μ) (ax_dd KX9_place 42 rfl) (c_X9_columnOf hs b7) kS_X9_228 e_X9_columnOf rfl rfl (by decide) (by decide) (Nat.le_of_ble_eq_true rfl) rfl ?_
      refine ax_iload (pc := 77) (q := 5) (ax_dd KX9_place 43 rfl) rfl ?_
      obtain ⟨v8, b9, h⟩ := ob_bind h
      refine ax_kS (pc := 79) (As := [.int x4]) (rest := [.int v6]) (st1 := [.int v8, .int v6]) (μ1 := μ) (ax_dd KX9_place 44 rfl) (c_X9_columnOf hs b9) kS_X9_228 e_X9_columnOf rfl rfl (by decide) (by decide) (Nat.le_of_ble_eq_true rfl) rfl ?_
      refine ax_iadd (pc := 82) (ax_dd KX9_place 45 rfl) ?_
      refine ax_iload_n (pc := 83) (i := 3) (q := 4) (ax_dd KX9_place 46 rfl) rfl rfl ?_
      obtain ⟨v10, b11, h⟩ := ob_bind h
      refine ax_kS (pc := 84) (As := [.int x3]) (rest := [.int (v6 + v8)]) (st1 := [.int v10, .int (v6 + v8)]) (μ1 := μ) (ax_dd KX9_place 47 rfl) (c_X9_columnOf hs b11) kS_X9_228 e_X9_columnOf rfl rfl (by decide) (by decide) (Nat.le_of_ble_eq_true rfl) rfl ?_
      refine ax_isub (pc := 87) (ax_dd KX9_place 48 rfl) ?_
      refine ax_bipush (pc := 88) (v := 6) (ax_dd KX9_place 49 rfl) (by decide) ?_
      by_cases c12 : 6 ≤ ((v6 + v8) - v10)
      · rw [if_pos c12] at h
        refine ax_icmp_ge_t (pc := 90) (tgt := 143) (ax_dd KX9_place 50 rfl) (by decide) c12 ?_
        refine ax_iinc (pc := 143) (q := 8) (v := (x7 + 1)) (lv' := [(7, .int (x7 + 1)), (8, .int ((x7 + x4) - x3)), (0, .ref (G.1 + 0)), (1, .int x1), (2, .int x2), (3, .int x3), (4, .int x4), (5, .int x5), (6, .int x6)]) (ax_dd KX9_place 76 rfl) rfl rfl (by decide) rfl ?_
        refine ax_goto (pc := 146) (tgt := 56) (ax_dd KX9_place 77 rfl) (by decide) ?_
        refine ax_sub (lv' := [(0, .ref (G.1 + 0)), (1, .int x1), (2, .int x2), (3, .int x3), (4, .int x4), (5, .int x5), (6, .int x6), (7, .int (x7 + 1))]) [2, 3, 4, 5, 6, 7, 8, 0] rfl ?_
        exact ih _ _ _ _ _ h
      · rw [if_neg c12] at h
        refine ax_icmp_ge_f (pc := 90) (tgt := 143) (ax_dd KX9_place 50 rfl) (by decide) c12 ?_
        refine ax_iload (pc := 93) (q := 0) (ax_dd KX9_place 51 rfl) rfl ?_
        refine ax_bipush (pc := 95) (v := 36) (ax_dd KX9_place 52 rfl) (by decide) ?_
        by_cases c13 : 36 ≤ ((x7 + x4) - x3)
        · rw [if_pos c13] at h
          refine ax_icmp_ge_t (pc := 97) (tgt := 143) (ax_dd KX9_place 53 rfl) (by decide) c13 ?_
          refine ax_iinc (pc := 143) (q := 8) (v := (x7 + 1)) (lv' := [(7, .int (x7 + 1)), (8, .int ((x7 + x4) - x3)), (0, .ref (G.1 + 0)), (1, .int x1), (2, .int x2), (3, .int x3), (4, .int x4), (5, .int x5), (6, .int x6)]) (ax_dd KX9_place 76 rfl) rfl rfl (by decide) rfl ?_
          refine ax_goto (pc := 146) (tgt := 56) (ax_dd KX9_place 77 rfl) (by decide) ?_
          refine ax_sub (lv' := [(0, .ref (G.1 + 0)), (1, .int x1), (2, .int x2), (3, .int x3), (4, .int x4), (5, .int x5), (6, .int x6), (7, .int (x7 + 1))]) [2, 3, 4, 5, 6, 7, 8, 0] rfl ?_
          exact ih _ _ _ _ _ h
        · rw [if_neg c13] at h
          refine ax_icmp_ge_f (pc := 97) (tgt := 143) (ax_dd KX9_place 53 rfl) (by decide) c13 ?_
          refine ax_aload_n (pc := 100) (i := 0) (q := 1) (ax_dd KX9_place 54 rfl) rfl rfl ?_
          refine ax_getR (pc := 101) (k := 0) (q := 25) (ax_dd KX9_place 55 rfl) f_X9_37 (hs 0 _ rfl) rfl ?_
          refine ax_iload_n (pc := 104) (i := 1) (q := 2) (ax_dd KX9_place 56 rfl) rfl rfl ?_
          refine ax_iload (pc := 105) (q := 8) (ax_dd KX9_place 57 rfl) rfl ?_
          refine ax_iload (pc := 107) (q := 0) (ax_dd KX9_place 58 rfl) rfl ?_
          obtain ⟨μ16, b15, h⟩ := ob_bind h
          refine ax_kV (pc := 109) (ci := 0) (k := 25) (As := [.int x1, .int x7, .int ((x7 + x4) - x3)]) (rest := []) (st1 := []) (μ1 := μ16) (ax_dd KX9_place 59 rfl) (c_X0_lay hs b15) kV_X9_137 e_X0_lay (hs 25 _ rfl) cl_X0 (by decide) rfl rfl (by decide) (by decide) (Nat.le_of_ble_eq_true rfl) rfl ?_
          refine ax_aload_n (pc := 112) (i := 0) (q := 1) (ax_dd KX9_place 60 rfl) rfl rfl ?_
          refine ax_getR (pc := 113) (k := 0) (q := 25) (ax_dd KX9_place 61 rfl) f_X9_37 (hs 0 _ rfl) rfl ?_
          refine ax_iload_n (pc := 116) (i := 1) (q := 2) (ax_dd KX9_place 62 rfl) rfl rfl ?_
          obtain ⟨v17, μ19, b18, h⟩ := ob_bind2 h
          refine ax_kV (pc := 117) (ci := 0) (k := 25) (As := [.int x1]) (rest := []) (st1 := [.int v17]) (μ1 := μ19) (ax_dd KX9_place 63 rfl) (c_X0_ruledNow hs b18) kV_X9_153 e_X0_ruledNow (hs 25 _ rfl) cl_X0 (by decide) rfl rfl (by decide) (by decide) (Nat.le_of_ble_eq_true rfl) rfl ?_
          refine ax_istore (pc := 120) (lv' := [(9, .int v17), (8, .int ((x7 + x4) - x3)), (0, .ref (G.1 + 0)), (1, .int x1), (2, .int x2), (3, .int x3), (4, .int x4), (5, .int x5), (6, .int x6), (7, .int x7)]) (ax_dd KX9_place 64 rfl) (by decide) rfl ?_
          refine ax_iload (pc := 122) (q := 0) (ax_dd KX9_place 65 rfl) rfl ?_
          refine ax_iload (pc := 124) (q := 8) (ax_dd KX9_place 66 rfl) rfl ?_
          by_cases c20 : v17 ≤ x6
          · rw [if_pos c20] at h
            refine ax_icmp_le_t (pc := 126) (tgt := 143) (ax_dd KX9_place 67 rfl) (by decide) c20 ?_
            refine ax_iinc (pc := 143) (q := 9) (v := (x7 + 1)) (lv' := [(7, .int (x7 + 1)), (9, .int v17), (8, .int ((x7 + x4) - x3)), (0, .ref (G.1 + 0)), (1, .int x1), (2, .int x2), (3, .int x3), (4, .int x4), (5, .int x5), (6, .int x6)]) (ax_dd KX9_place 76 rfl) rfl rfl (by decide) rfl ?_
            refine ax_goto (pc := 146) (tgt := 56) (ax_dd KX9_place 77 rfl) (by decide) ?_
            refine ax_sub (lv' := [(0, .ref (G.1 + 0)), (1, .int x1), (2, .int x2), (3, .int x3), (4, .int x4), (5, .int x5), (6, .int x6), (7, .int (x7 + 1))]) [3, 4, 5, 6, 7, 8, 9, 0] rfl ?_
            exact ih _ _ _ _ _ h
          · rw [if_neg c20] at h
            refine ax_icmp_le_f (pc := 126) (tgt := 143) (ax_dd KX9_place 67 rfl) (by decide) c20 ?_
            refine ax_iload (pc := 129) (q := 0) (ax_dd KX9_place 68 rfl) rfl ?_
            refine ax_istore (pc := 131) (lv' := [(6, .int v17), (9, .int v17), (8, .int ((x7 + x4) - x3)), (0, .ref (G.1 + 0)), (1, .int x1), (2, .int x2), (3, .int x3), (4, .int x4), (5, .int x5), (7, .int x7)]) (ax_dd KX9_place 69 rfl) (by decide) rfl ?_
            refine ax_bipush (pc := 133) (v := 100) (ax_dd KX9_place 70 rfl) (by decide) ?_
            refine ax_iload (pc := 135) (q := 9) (ax_dd KX9_place 71 rfl) rfl ?_
            refine ax_imul (pc := 137) (ax_dd KX9_place 72 rfl) ?_
            refine ax_iload (pc := 138) (q := 2) (ax_dd KX9_place 73 rfl) rfl ?_
            refine ax_iadd (pc := 140) (ax_dd KX9_place 74 rfl) ?_
            refine ax_istore (pc := 141) (lv' := [(5, .int (((100 : Int32) * x7) + ((x7 + x4) - x3))), (6, .int v17), (9, .int v17), (8, .int ((x7 + x4) - x3)), (0, .ref (G.1 + 0)), (1, .int x1), (2, .int x2), (3, .int x3), (4, .int x4), (7, .int x7)]) (ax_dd KX9_place 75 rfl) (by decide) rfl ?_
            refine ax_iinc (pc := 143) (q := 9) (v := (x7 + 1)) (lv' := [(7, .int (x7 + 1)), (5, .int (((100 : Int32) * x7) + ((x7 + x4) - x3))), (6, .int v17), (9, .int v17), (8, .int ((x7 + x4) - x3)), (0, .ref (G.1 + 0)), (1, .int x1), (2, .int x2), (3, .int x3), (4, .int x4)]) (ax_dd KX9_place 76 rfl) rfl rfl (by decide) rfl ?_
            refine ax_goto (pc := 146) (tgt := 56) (ax_dd KX9_place 77 rfl) (by decide) ?_
            refine ax_sub (lv' := [(0, .ref (G.1 + 0)), (1, .int x1), (2, .int x2), (3, .int x3), (4, .int x4), (5, .int (((100 : Int32) * x7) + ((x7 + x4) - x3))), (6, .int v17), (7, .int (x7 + 1))]) [5, 6, 7, 8, 9, 1, 2, 0] rfl ?_
            exact ih _ _ _ _ _ h
def m_X9_place_26 (x1 : Int32) (x2 : Int32) (μ : ax_M) : Option (Int32 × ax_M) :=
  (ix 6 x1).bind fun j1 =>
  (ix 6 x1).bind fun j3 =>
  m_X9_place_56 x1 x2 (μ 28 j1) (μ 29 j3) fu (-1) (-1) 0 μ
set_option maxRecDepth 100000 in
set_option maxHeartbeats 8000000 in
theorem a_X9_place_26 {G : ax_G} {l : Launch} {sh : List ax_E} {x1 : Int32} {x2 : Int32} {μ : ax_M} (hs : ∀ (k : Nat) (e : ax_E), SHc[k]? = some e → sh[k]? = some e) {v : Int32 × ax_M} (h : m_X9_place_26 x1 x2 μ = some v) : ax_X G l RX9 cX9_place 10 (some .int) false 8 (some (.int v.1), sh, v.2) 26 [(0, .ref (G.1 + 0)), (1, .int x1), (2, .int x2)] [] sh μ := by
  unfold m_X9_place_26 at h
  refine ax_aload_n (pc := 26) (i := 0) (q := 0) (ax_dd KX9_place 14 rfl) rfl rfl ?_
  refine ax_getR (pc := 27) (k := 0) (q := 25) (ax_dd KX9_place 15 rfl) f_X9_37 (hs 0 _ rfl) rfl ?_
  refine ax_getR (pc := 30) (k := 25) (q := 28) (ax_dd KX9_place 16 rfl) f_X9_222 (hs 25 _ rfl) rfl ?_
  refine ax_iload_n (pc := 33) (i := 1) (q := 1) (ax_dd KX9_place 17 rfl) rfl rfl ?_
  obtain ⟨j1, b2, h⟩ := ob_bind h
  refine ax_ild (pc := 34) (k := 28) (N := 6) (j := j1) (ax_dd KX9_place 18 rfl) (hs 28 _ rfl) b2 ?_
  refine ax_istore_n (pc := 35) (i := 3) (lv' := [(3, .int (μ 28 j1)), (0, .ref (G.1 + 0)), (1, .int x1), (2, .int x2)]) (ax_dd KX9_place 19 rfl) rfl (by decide) rfl ?_
  refine ax_aload_n (pc := 36) (i := 0) (q := 1) (ax_dd KX9_place 20 rfl) rfl rfl ?_
  refine ax_getR (pc := 37) (k := 0) (q := 25) (ax_dd KX9_place 21 rfl) f_X9_37 (hs 0 _ rfl) rfl ?_
  refine ax_getR (pc := 40) (k := 25) (q := 29) (ax_dd KX9_place 22 rfl) f_X9_225 (hs 25 _ rfl) rfl ?_
  refine ax_iload_n (pc := 43) (i := 1) (q := 2) (ax_dd KX9_place 23 rfl) rfl rfl ?_
  obtain ⟨j3, b4, h⟩ := ob_bind h
  refine ax_ild (pc := 44) (k := 29) (N := 6) (j := j3) (ax_dd KX9_place 24 rfl) (hs 29 _ rfl) b4 ?_
  refine ax_istore (pc := 45) (lv' := [(4, .int (μ 29 j3)), (3, .int (μ 28 j1)), (0, .ref (G.1 + 0)), (1, .int x1), (2, .int x2)]) (ax_dd KX9_place 25 rfl) (by decide) rfl ?_
  refine ax_iconst (pc := 47) (v := (-1)) (ax_dd KX9_place 26 rfl) (by decide) ?_
  refine ax_istore (pc := 48) (lv' := [(5, .int (-1)), (4, .int (μ 29 j3)), (3, .int (μ 28 j1)), (0, .ref (G.1 + 0)), (1, .int x1), (2, .int x2)]) (ax_dd KX9_place 27 rfl) (by decide) rfl ?_
  refine ax_iconst (pc := 50) (v := (-1)) (ax_dd KX9_place 28 rfl) (by decide) ?_
  refine ax_istore (pc := 51) (lv' := [(6, .int (-1)), (5, .int (-1)), (4, .int (μ 29 j3)), (3, .int (μ 28 j1)), (0, .ref (G.1 + 0)), (1, .int x1), (2, .int x2)]) (ax_dd KX9_place 29 rfl) (by decide) rfl ?_
  refine ax_iconst (pc := 53) (v := 0) (ax_dd KX9_place 30 rfl) (by decide) ?_
  refine ax_istore (pc := 54) (lv' := [(7, .int 0), (6, .int (-1)), (5, .int (-1)), (4, .int (μ 29 j3)), (3, .int (μ 28 j1)), (0, .ref (G.1 + 0)), (1, .int x1), (2, .int x2)]) (ax_dd KX9_place 31 rfl) (by decide) rfl ?_
  refine ax_sub (lv' := [(0, .ref (G.1 + 0)), (1, .int x1), (2, .int x2), (3, .int (μ 28 j1)), (4, .int (μ 29 j3)), (5, .int (-1)), (6, .int (-1)), (7, .int 0)]) [5, 6, 7, 4, 3, 2, 1, 0] rfl ?_
  exact a_X9_place_56 hs fu _ _ _ _ _ h
def m_X9_place (x1 : Int32) (x2 : Int32) (μ : ax_M) : Option (Int32 × ax_M) :=
  (m_X0_isRug x1 μ).bind fun v1 =>
  if v1 = 0 then
    some ((-5), μ)
  else
    if x2 = 0 then
      m_X9_place_26 x1 x2 μ
    else
      if x2 = 1 then
        m_X9_place_26 x1 x2 μ
      else
        some ((-7), μ)
set_option maxRecDepth 100000 in
set_option maxHeartbeats 8000000 in
theorem c_X9_place {G : ax_G} {l : Launch} {sh : List ax_E} {x1 : Int32} {x2 : Int32} {μ : ax_M} (hs : ∀ (k : Nat) (e : ax_E), SHc[k]? = some e → sh[k]? = some e) {v : Int32 × ax_M} (h : m_X9_place x1 x2 μ = some v) : ax_A G l yX9_place cX9_place 10 (some .int) 8 [.ref (G.1 + 0), .int x1, .int x2] sh μ (some (.int v.1), sh, v.2) := by
  refine ax_A.of false (by decide +kernel) (fun h9 => by cases h9) (Nat.le_of_ble_eq_true rfl) (?_ : ax_X G l RX9 cX9_place 10 (some .int) false 8 (some (.int v.1), sh, v.2) 0 [(0, .ref (G.1 + 0)), (1, .int x1), (2, .int x2)] [] sh μ)
  unfold m_X9_place at h
  refine ax_aload_n (pc := 0) (i := 0) (q := 0) (ax_dd KX9_place 0 rfl) rfl rfl ?_
  refine ax_getR (pc := 1) (k := 0) (q := 25) (ax_dd KX9_place 1 rfl) f_X9_37 (hs 0 _ rfl) rfl ?_
  refine ax_iload_n (pc := 4) (i := 1) (q := 1) (ax_dd KX9_place 2 rfl) rfl rfl ?_
  obtain ⟨v1, b2, h⟩ := ob_bind h
  refine ax_kV (pc := 5) (ci := 0) (k := 25) (As := [.int x1]) (rest := []) (st1 := [.int v1]) (μ1 := μ) (ax_dd KX9_place 3 rfl) (c_X0_isRug hs b2) kV_X9_117 e_X0_isRug (hs 25 _ rfl) cl_X0 (by decide) rfl rfl (by decide) (by decide) (Nat.le_of_ble_eq_true rfl) rfl ?_
  by_cases c3 : v1 = 0
  · rw [if_pos c3] at h
    refine ax_if_ne_f (pc := 8) (tgt := 14) (ax_dd KX9_place 4 rfl) (by decide) (fun z => z c3) ?_
    refine ax_bipush (pc := 11) (v := (-5)) (ax_dd KX9_place 5 rfl) (by decide) ?_
    obtain rfl := Option.some.inj h
    exact ax_ireti (pc := 13) (ax_dd KX9_place 6 rfl) ⟨_, rfl, rfl⟩ rfl
  · rw [if_neg c3] at h
    refine ax_if_ne_t (pc := 8) (tgt := 14) (ax_dd KX9_place 4 rfl) (by decide) c3 ?_
    refine ax_iload_n (pc := 14) (i := 2) (q := 2) (ax_dd KX9_place 7 rfl) rfl rfl ?_
    by_cases c4 : x2 = 0
    · rw [if_pos c4] at h
      refine ax_if_eq_t (pc := 15) (tgt := 26) (ax_dd KX9_place 8 rfl) (by decide) c4 ?_
      exact a_X9_place_26 hs h
    · rw [if_neg c4] at h
      refine ax_if_eq_f (pc := 15) (tgt := 26) (ax_dd KX9_place 8 rfl) (by decide) c4 ?_
      refine ax_iload_n (pc := 18) (i := 2) (q := 2) (ax_dd KX9_place 9 rfl) rfl rfl ?_
      refine ax_iconst (pc := 19) (v := 1) (ax_dd KX9_place 10 rfl) (by decide) ?_
      by_cases c5 : x2 = 1
      · rw [if_pos c5] at h
        refine ax_icmp_eq_t (pc := 20) (tgt := 26) (ax_dd KX9_place 11 rfl) (by decide) c5 ?_
        exact a_X9_place_26 hs h
      · rw [if_neg c5] at h
        refine ax_icmp_eq_f (pc := 20) (tgt := 26) (ax_dd KX9_place 11 rfl) (by decide) c5 ?_
        refine ax_bipush (pc := 23) (v := (-7)) (ax_dd KX9_place 12 rfl) (by decide) ?_
        obtain rfl := Option.some.inj h
        exact ax_ireti (pc := 25) (ax_dd KX9_place 13 rfl) ⟨_, rfl, rfl⟩ rfl
def m_X9_freest_34 (x1 : Int32) : Nat → Int32 → Int32 → Int32 → ax_M → Option (Int32 × ax_M)
  | 0, _, _, _, _ => none
  | n + 1, x2, x3, x4, μ =>
    if 24 ≤ x4 then
      if x1 = 0 then
        some (x2, μ)
      else
        some (x3, μ)
    else
      bind2 (m_X0_awakeAt x4 μ) fun v3 μ5 =>
      bind2 (m_X0_fineOfAll x4 v3 μ5) fun v6 μ8 =>
      if x3 ≤ v6 then
        m_X9_freest_34 x1 n x2 x3 (x4 + 1) μ8
      else
        m_X9_freest_34 x1 n x4 v6 (x4 + 1) μ8
set_option maxRecDepth 100000 in
set_option maxHeartbeats 8000000 in
theorem a_X9_freest_34 {G : ax_G} {l : Launch} {sh : List ax_E} {x1 : Int32} (hs : ∀ (k : Nat) (e : ax_E), SHc[k]? = some e → sh[k]? = some e) : ∀ (n : Nat) (x2 : Int32) (x3 : Int32) (x4 : Int32) (μ : ax_M) (v : Int32 × ax_M), m_X9_freest_34 x1 n x2 x3 x4 μ = some v → ax_X G l RX9 cX9_freest 6 (some .int) false 6 (some (.int v.1), sh, v.2) 34 [(0, .ref (G.1 + 0)), (1, .int x1), (2, .int x2), (3, .int x3), (4, .int x4)] [] sh μ := by
  intro n
  induction n with
  | zero =>
    intro x2 x3 x4 μ v h
    rw [m_X9_freest_34] at h
    cases h
  | succ n ih =>
    intro x2 x3 x4 μ v h
    rw [m_X9_freest_34] at h
    refine ax_iload (pc := 34) (q := 4) (ax_dd KX9_freest 20 rfl) rfl ?_
    refine ax_bipush (pc := 36) (v := 24) (ax_dd KX9_freest 21 rfl) (by decide) ?_
    by_cases c1 : 24 ≤ x4
    · rw [if_pos c1] at h
      refine ax_icmp_ge_t (pc := 38) (tgt := 79) (ax_dd KX9_freest 22 rfl) (by decide) c1 ?_
      refine ax_iload_n (pc := 79) (i := 1) (q := 1) (ax_dd KX9_freest 41 rfl) rfl rfl ?_
      by_cases c2 : x1 = 0
      · rw [if_pos c2] at h
        refine ax_if_ne_f (pc := 80) (tgt := 87) (ax_dd KX9_freest 42 rfl) (by decide) (fun z => z c2) ?_
        refine ax_iload_n (pc := 83) (i := 2) (q := 2) (ax_dd KX9_freest 43 rfl) rfl rfl ?_
        refine ax_goto (pc := 84) (tgt := 88) (ax_dd KX9_freest 44 rfl) (by decide) ?_
        obtain rfl := Option.some.inj h
        exact ax_ireti (pc := 88) (ax_dd KX9_freest 46 rfl) ⟨_, rfl, rfl⟩ rfl
      · rw [if_neg c2] at h
        refine ax_if_ne_t (pc := 80) (tgt := 87) (ax_dd KX9_freest 42 rfl) (by decide) c2 ?_
        refine ax_iload_n (pc := 87) (i := 3) (q := 3) (ax_dd KX9_freest 45 rfl) rfl rfl ?_
        obtain rfl := Option.some.inj h
        exact ax_ireti (pc := 88) (ax_dd KX9_freest 46 rfl) ⟨_, rfl, rfl⟩ rfl
    · rw [if_neg c1] at h
      refine ax_icmp_ge_f (pc := 38) (tgt := 79) (ax_dd KX9_freest 22 rfl) (by decide) c1 ?_
      refine ax_aload_n (pc := 41) (i := 0) (q := 0) (ax_dd KX9_freest 23 rfl) rfl rfl ?_
      refine ax_getR (pc := 42) (k := 0) (q := 25) (ax_dd KX9_freest 24 rfl) f_X9_37 (hs 0 _ rfl) rfl ?_
      refine ax_iload (pc := 45) (q := 4) (ax_dd KX9_freest 25 rfl) rfl ?_
      refine ax_aload_n (pc := 47) (i := 0) (q := 0) (ax_dd KX9_freest 26 rfl) rfl rfl ?_
      refine ax_getR (pc := 48) (k := 0) (q := 25) (ax_dd KX9_freest 27 rfl) f_X9_37 (hs 0 _ rfl) rfl ?_
      refine ax_iload (pc := 51) (q := 4) (ax_dd KX9_freest 28 rfl) rfl ?_
      obtain ⟨v3, μ5, b4, h⟩ := ob_bind2 h
      refine ax_kV (pc := 53) (ci := 0) (k := 25) (As := [.int x4]) (rest := [.int x4, .ref (G.1 + 25)]) (st1 := [.int v3, .int x4, .ref (G.1 + 25)]) (μ1 := μ5) (ax_dd KX9_freest 29 rfl) (c_X0_awakeAt hs b4) kV_X9_231 e_X0_awakeAt (hs 25 _ rfl) cl_X0 (by decide) rfl rfl (by decide) (by decide) (Nat.le_of_ble_eq_true rfl) rfl ?_
      obtain ⟨v6, μ8, b7, h⟩ := ob_bind2 h
      refine ax_kV (pc := 56) (ci := 0) (k := 25) (As := [.int x4, .int v3]) (rest := []) (st1 := [.int v6]) (μ1 := μ8) (ax_dd KX9_freest 30 rfl) (c_X0_fineOfAll hs b7) kV_X9_234 e_X0_fineOfAll (hs 25 _ rfl) cl_X0 (by decide) rfl rfl (by decide) (by decide) (Nat.le_of_ble_eq_true rfl) rfl ?_
      refine ax_istore (pc := 59) (lv' := [(5, .int v6), (0, .ref (G.1 + 0)), (1, .int x1), (2, .int x2), (3, .int x3), (4, .int x4)]) (ax_dd KX9_freest 31 rfl) (by decide) rfl ?_
      refine ax_iload (pc := 61) (q := 0) (ax_dd KX9_freest 32 rfl) rfl ?_
      refine ax_iload_n (pc := 63) (i := 3) (q := 4) (ax_dd KX9_freest 33 rfl) rfl rfl ?_
      by_cases c9 : x3 ≤ v6
      · rw [if_pos c9] at h
        refine ax_icmp_ge_t (pc := 64) (tgt := 73) (ax_dd KX9_freest 34 rfl) (by decide) c9 ?_
        refine ax_iinc (pc := 73) (q := 5) (v := (x4 + 1)) (lv' := [(4, .int (x4 + 1)), (5, .int v6), (0, .ref (G.1 + 0)), (1, .int x1), (2, .int x2), (3, .int x3)]) (ax_dd KX9_freest 39 rfl) rfl rfl (by decide) rfl ?_
        refine ax_goto (pc := 76) (tgt := 34) (ax_dd KX9_freest 40 rfl) (by decide) ?_
        refine ax_sub (lv' := [(0, .ref (G.1 + 0)), (1, .int x1), (2, .int x2), (3, .int x3), (4, .int (x4 + 1))]) [2, 3, 4, 5, 0] rfl ?_
        exact ih _ _ _ _ _ h
      · rw [if_neg c9] at h
        refine ax_icmp_ge_f (pc := 64) (tgt := 73) (ax_dd KX9_freest 34 rfl) (by decide) c9 ?_
        refine ax_iload (pc := 67) (q := 0) (ax_dd KX9_freest 35 rfl) rfl ?_
        refine ax_istore_n (pc := 69) (i := 3) (lv' := [(3, .int v6), (5, .int v6), (0, .ref (G.1 + 0)), (1, .int x1), (2, .int x2), (4, .int x4)]) (ax_dd KX9_freest 36 rfl) rfl (by decide) rfl ?_
        refine ax_iload (pc := 70) (q := 5) (ax_dd KX9_freest 37 rfl) rfl ?_
        refine ax_istore_n (pc := 72) (i := 2) (lv' := [(2, .int x4), (3, .int v6), (5, .int v6), (0, .ref (G.1 + 0)), (1, .int x1), (4, .int x4)]) (ax_dd KX9_freest 38 rfl) rfl (by decide) rfl ?_
        refine ax_iinc (pc := 73) (q := 5) (v := (x4 + 1)) (lv' := [(4, .int (x4 + 1)), (2, .int x4), (3, .int v6), (5, .int v6), (0, .ref (G.1 + 0)), (1, .int x1)]) (ax_dd KX9_freest 39 rfl) rfl rfl (by decide) rfl ?_
        refine ax_goto (pc := 76) (tgt := 34) (ax_dd KX9_freest 40 rfl) (by decide) ?_
        refine ax_sub (lv' := [(0, .ref (G.1 + 0)), (1, .int x1), (2, .int x4), (3, .int v6), (4, .int (x4 + 1))]) [4, 5, 1, 2, 0] rfl ?_
        exact ih _ _ _ _ _ h
