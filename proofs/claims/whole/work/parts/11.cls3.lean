def m_X0_joined_20 (μ : ax_M) : Nat → Int32 → Int32 → Option (Int32)
  | 0, _, _ => none
  | n + 1, x2, x3 =>
    if 6 ≤ x3 then
      some x2
    else
      m_X0_joined_29 x3 (m_X0_joined_20 μ n) μ fu x2 0
set_option maxRecDepth 100000 in
set_option maxHeartbeats 8000000 in
theorem a_X0_joined_20 {G : ax_G} {l : Launch} {sh : List ax_E} {μ : ax_M} (hs : ∀ (k : Nat) (e : ax_E), SHc[k]? = some e → sh[k]? = some e) : ∀ (n : Nat) (x2 : Int32) (x3 : Int32) (v : Int32), m_X0_joined_20 μ n x2 x3 = some v → ax_X G l RX0 cX0_joined 5 (some .int) false 5 (some (.int v), sh, μ) 20 [(0, .ref (G.1 + 25)), (2, .int x2), (3, .int x3)] [] sh μ := by
  intro n
  induction n with
  | zero =>
    intro x2 x3 v h
    rw [m_X0_joined_20] at h
    cases h
  | succ n ih =>
    intro x2 x3 v h
    rw [m_X0_joined_20] at h
    refine ax_iload_n (pc := 20) (i := 3) (q := 2) (ax_dd KX0_joined 14 rfl) rfl rfl ?_
    refine ax_bipush (pc := 21) (v := 6) (ax_dd KX0_joined 15 rfl) (by decide) ?_
    by_cases c1 : 6 ≤ x3
    · rw [if_pos c1] at h
      refine ax_icmp_ge_t (pc := 23) (tgt := 68) (ax_dd KX0_joined 16 rfl) (by decide) c1 ?_
      refine ax_iload_n (pc := 68) (i := 2) (q := 1) (ax_dd KX0_joined 39 rfl) rfl rfl ?_
      obtain rfl := Option.some.inj h
      exact ax_ireti (pc := 69) (ax_dd KX0_joined 40 rfl) ⟨_, rfl, rfl⟩ rfl
    · rw [if_neg c1] at h
      refine ax_icmp_ge_f (pc := 23) (tgt := 68) (ax_dd KX0_joined 16 rfl) (by decide) c1 ?_
      refine ax_iconst (pc := 26) (v := 0) (ax_dd KX0_joined 17 rfl) (by decide) ?_
      refine ax_istore (pc := 27) (lv' := [(4, .int 0), (0, .ref (G.1 + 25)), (2, .int x2), (3, .int x3)]) (ax_dd KX0_joined 18 rfl) (by decide) rfl ?_
      refine ax_sub (lv' := [(0, .ref (G.1 + 25)), (2, .int x2), (3, .int x3), (4, .int 0)]) [1, 2, 3, 0] rfl ?_
      exact a_X0_joined_29 hs ih fu _ _ _ h
def m_X0_joined (x1 : Int32) (μ : ax_M) : Option (Int32) :=
  (m_X0_ruledByAny (shI (1 : Int32) x1) μ).bind fun v1 =>
  if v1 = 0 then
    m_X0_joined_20 μ fu 0 0
  else
    m_X0_joined_20 μ fu (shI (1 : Int32) x1) 0
set_option maxRecDepth 100000 in
set_option maxHeartbeats 8000000 in
theorem c_X0_joined {G : ax_G} {l : Launch} {sh : List ax_E} {x1 : Int32} {μ : ax_M} (hs : ∀ (k : Nat) (e : ax_E), SHc[k]? = some e → sh[k]? = some e) {v : Int32} (h : m_X0_joined x1 μ = some v) : ax_A G l yX0_joined cX0_joined 5 (some .int) 5 [.ref (G.1 + 25), .int x1] sh μ (some (.int v), sh, μ) := by
  refine ax_A.of false (by decide +kernel) (fun h9 => by cases h9) (Nat.le_of_ble_eq_true rfl) (?_ : ax_X G l RX0 cX0_joined 5 (some .int) false 5 (some (.int v), sh, μ) 0 [(0, .ref (G.1 + 25)), (1, .int x1)] [] sh μ)
  unfold m_X0_joined at h
  refine ax_aload_n (pc := 0) (i := 0) (q := 0) (ax_dd KX0_joined 0 rfl) rfl rfl ?_
  refine ax_iconst (pc := 1) (v := 1) (ax_dd KX0_joined 1 rfl) (by decide) ?_
  refine ax_iload_n (pc := 2) (i := 1) (q := 1) (ax_dd KX0_joined 2 rfl) rfl rfl ?_
  refine ax_ishl (pc := 3) (ax_dd KX0_joined 3 rfl) ?_
  obtain ⟨v1, b2, h⟩ := ob_bind h
  refine ax_kV (pc := 4) (ci := 0) (k := 25) (As := [.int (shI (1 : Int32) x1)]) (rest := []) (st1 := [.int v1]) (μ1 := μ) (ax_dd KX0_joined 4 rfl) (c_X0_ruledByAny hs b2) kV_X0_111 e_X0_ruledByAny (hs 25 _ rfl) cl_X0 (by decide) rfl rfl (by decide) (by decide) (Nat.le_of_ble_eq_true rfl) rfl ?_
  by_cases c3 : v1 = 0
  · rw [if_pos c3] at h
    refine ax_if_ne_f (pc := 7) (tgt := 14) (ax_dd KX0_joined 5 rfl) (by decide) (fun z => z c3) ?_
    refine ax_iconst (pc := 10) (v := 0) (ax_dd KX0_joined 6 rfl) (by decide) ?_
    refine ax_goto (pc := 11) (tgt := 17) (ax_dd KX0_joined 7 rfl) (by decide) ?_
    refine ax_istore_n (pc := 17) (i := 2) (lv' := [(2, .int 0), (0, .ref (G.1 + 25)), (1, .int x1)]) (ax_dd KX0_joined 11 rfl) rfl (by decide) rfl ?_
    refine ax_iconst (pc := 18) (v := 0) (ax_dd KX0_joined 12 rfl) (by decide) ?_
    refine ax_istore_n (pc := 19) (i := 3) (lv' := [(3, .int 0), (2, .int 0), (0, .ref (G.1 + 25)), (1, .int x1)]) (ax_dd KX0_joined 13 rfl) rfl (by decide) rfl ?_
    refine ax_sub (lv' := [(0, .ref (G.1 + 25)), (2, .int 0), (3, .int 0)]) [2, 1, 0] rfl ?_
    exact a_X0_joined_20 hs fu _ _ _ h
  · rw [if_neg c3] at h
    refine ax_if_ne_t (pc := 7) (tgt := 14) (ax_dd KX0_joined 5 rfl) (by decide) c3 ?_
    refine ax_iconst (pc := 14) (v := 1) (ax_dd KX0_joined 8 rfl) (by decide) ?_
    refine ax_iload_n (pc := 15) (i := 1) (q := 1) (ax_dd KX0_joined 9 rfl) rfl rfl ?_
    refine ax_ishl (pc := 16) (ax_dd KX0_joined 10 rfl) ?_
    refine ax_istore_n (pc := 17) (i := 2) (lv' := [(2, .int (shI (1 : Int32) x1)), (0, .ref (G.1 + 25)), (1, .int x1)]) (ax_dd KX0_joined 11 rfl) rfl (by decide) rfl ?_
    refine ax_iconst (pc := 18) (v := 0) (ax_dd KX0_joined 12 rfl) (by decide) ?_
    refine ax_istore_n (pc := 19) (i := 3) (lv' := [(3, .int 0), (2, .int (shI (1 : Int32) x1)), (0, .ref (G.1 + 25)), (1, .int x1)]) (ax_dd KX0_joined 13 rfl) rfl (by decide) rfl ?_
    refine ax_sub (lv' := [(0, .ref (G.1 + 25)), (2, .int (shI (1 : Int32) x1)), (3, .int 0)]) [2, 1, 0] rfl ?_
    exact a_X0_joined_20 hs fu _ _ _ h
def m_X0_welcome_2 (x1 : Int32) : Nat → Int32 → ax_M → Option (ax_M)
  | 0, _, _ => none
  | n + 1, x2, μ =>
    if (μ 25 1) ≤ x2 then
      some μ
    else
      if ((srI x1 x2) &&& 1) = 0 then
        m_X0_welcome_2 x1 n (x2 + 1) μ
      else
        (ix 6 x2).bind fun j3 =>
        if 99 ≤ (μ 31 j3) then
          m_X0_welcome_2 x1 n (x2 + 1) μ
        else
          (ix 6 x2).bind fun j6 =>
          (ix 6 x2).bind fun j8 =>
          m_X0_welcome_2 x1 n (x2 + 1) (ax_w μ 31 j8 ((μ 31 j6) + 1))
set_option maxRecDepth 100000 in
set_option maxHeartbeats 8000000 in
theorem a_X0_welcome_2 {G : ax_G} {l : Launch} {sh : List ax_E} {x1 : Int32} (hs : ∀ (k : Nat) (e : ax_E), SHc[k]? = some e → sh[k]? = some e) : ∀ (n : Nat) (x2 : Int32) (μ : ax_M) (v : ax_M), m_X0_welcome_2 x1 n x2 μ = some v → ax_X G l RX0 cX0_welcome 3 none false 2 (none, sh, v) 2 [(0, .ref (G.1 + 25)), (1, .int x1), (2, .int x2)] [] sh μ := by
  intro n
  induction n with
  | zero =>
    intro x2 μ v h
    rw [m_X0_welcome_2] at h
    cases h
  | succ n ih =>
    intro x2 μ v h
    rw [m_X0_welcome_2] at h
    refine ax_iload_n (pc := 2) (i := 2) (q := 2) (ax_dd KX0_welcome 2 rfl) rfl rfl ?_
    refine ax_aload_n (pc := 3) (i := 0) (q := 0) (ax_dd KX0_welcome 3 rfl) rfl rfl ?_
    refine ax_getI (pc := 4) (k := 25) (ax_dd KX0_welcome 4 rfl) f_X0_44 (hs 25 _ rfl) rfl ?_
    by_cases c1 : (μ 25 1) ≤ x2
    · rw [if_pos c1] at h
      refine ax_icmp_ge_t (pc := 7) (tgt := 45) (ax_dd KX0_welcome 5 rfl) (by decide) c1 ?_
      obtain rfl := Option.some.inj h
      exact ax_vret (pc := 45) (ax_dd KX0_welcome 28 rfl) rfl rfl
    · rw [if_neg c1] at h
      refine ax_icmp_ge_f (pc := 7) (tgt := 45) (ax_dd KX0_welcome 5 rfl) (by decide) c1 ?_
      refine ax_iload_n (pc := 10) (i := 1) (q := 1) (ax_dd KX0_welcome 6 rfl) rfl rfl ?_
      refine ax_iload_n (pc := 11) (i := 2) (q := 2) (ax_dd KX0_welcome 7 rfl) rfl rfl ?_
      refine ax_ishr (pc := 12) (ax_dd KX0_welcome 8 rfl) ?_
      refine ax_iconst (pc := 13) (v := 1) (ax_dd KX0_welcome 9 rfl) (by decide) ?_
      refine ax_iand (pc := 14) (ax_dd KX0_welcome 10 rfl) ?_
      by_cases c2 : ((srI x1 x2) &&& 1) = 0
      · rw [if_pos c2] at h
        refine ax_if_eq_t (pc := 15) (tgt := 39) (ax_dd KX0_welcome 11 rfl) (by decide) c2 ?_
        refine ax_iinc (pc := 39) (q := 2) (v := (x2 + 1)) (lv' := [(2, .int (x2 + 1)), (0, .ref (G.1 + 25)), (1, .int x1)]) (ax_dd KX0_welcome 26 rfl) rfl rfl (by decide) rfl ?_
        refine ax_goto (pc := 42) (tgt := 2) (ax_dd KX0_welcome 27 rfl) (by decide) ?_
        refine ax_sub (lv' := [(0, .ref (G.1 + 25)), (1, .int x1), (2, .int (x2 + 1))]) [1, 2, 0] rfl ?_
        exact ih _ _ _ h
      · rw [if_neg c2] at h
        refine ax_if_eq_f (pc := 15) (tgt := 39) (ax_dd KX0_welcome 11 rfl) (by decide) c2 ?_
        refine ax_aload_n (pc := 18) (i := 0) (q := 0) (ax_dd KX0_welcome 12 rfl) rfl rfl ?_
        refine ax_getR (pc := 19) (k := 25) (q := 31) (ax_dd KX0_welcome 13 rfl) f_X0_31 (hs 25 _ rfl) rfl ?_
        refine ax_iload_n (pc := 22) (i := 2) (q := 2) (ax_dd KX0_welcome 14 rfl) rfl rfl ?_
        obtain ⟨j3, b4, h⟩ := ob_bind h
        refine ax_ild (pc := 23) (k := 31) (N := 6) (j := j3) (ax_dd KX0_welcome 15 rfl) (hs 31 _ rfl) b4 ?_
        refine ax_bipush (pc := 24) (v := 99) (ax_dd KX0_welcome 16 rfl) (by decide) ?_
        by_cases c5 : 99 ≤ (μ 31 j3)
        · rw [if_pos c5] at h
          refine ax_icmp_ge_t (pc := 26) (tgt := 39) (ax_dd KX0_welcome 17 rfl) (by decide) c5 ?_
          refine ax_iinc (pc := 39) (q := 2) (v := (x2 + 1)) (lv' := [(2, .int (x2 + 1)), (0, .ref (G.1 + 25)), (1, .int x1)]) (ax_dd KX0_welcome 26 rfl) rfl rfl (by decide) rfl ?_
          refine ax_goto (pc := 42) (tgt := 2) (ax_dd KX0_welcome 27 rfl) (by decide) ?_
          refine ax_sub (lv' := [(0, .ref (G.1 + 25)), (1, .int x1), (2, .int (x2 + 1))]) [1, 2, 0] rfl ?_
          exact ih _ _ _ h
        · rw [if_neg c5] at h
          refine ax_icmp_ge_f (pc := 26) (tgt := 39) (ax_dd KX0_welcome 17 rfl) (by decide) c5 ?_
          refine ax_aload_n (pc := 29) (i := 0) (q := 0) (ax_dd KX0_welcome 18 rfl) rfl rfl ?_
          refine ax_getR (pc := 30) (k := 25) (q := 31) (ax_dd KX0_welcome 19 rfl) f_X0_31 (hs 25 _ rfl) rfl ?_
          refine ax_iload_n (pc := 33) (i := 2) (q := 2) (ax_dd KX0_welcome 20 rfl) rfl rfl ?_
          refine ax_dup2 (pc := 34) (ax_dd KX0_welcome 21 rfl) rfl rfl ?_
          obtain ⟨j6, b7, h⟩ := ob_bind h
          refine ax_ild (pc := 35) (k := 31) (N := 6) (j := j6) (ax_dd KX0_welcome 22 rfl) (hs 31 _ rfl) b7 ?_
          refine ax_iconst (pc := 36) (v := 1) (ax_dd KX0_welcome 23 rfl) (by decide) ?_
          refine ax_iadd (pc := 37) (ax_dd KX0_welcome 24 rfl) ?_
          obtain ⟨j8, b9, h⟩ := ob_bind h
          refine ax_ist (pc := 38) (k := 31) (N := 6) (j := j8) (ax_dd KX0_welcome 25 rfl) (hs 31 _ rfl) b9 ?_
          refine ax_iinc (pc := 39) (q := 2) (v := (x2 + 1)) (lv' := [(2, .int (x2 + 1)), (0, .ref (G.1 + 25)), (1, .int x1)]) (ax_dd KX0_welcome 26 rfl) rfl rfl (by decide) rfl ?_
          refine ax_goto (pc := 42) (tgt := 2) (ax_dd KX0_welcome 27 rfl) (by decide) ?_
          refine ax_sub (lv' := [(0, .ref (G.1 + 25)), (1, .int x1), (2, .int (x2 + 1))]) [1, 2, 0] rfl ?_
          exact ih _ _ _ h
def m_X0_welcome (x1 : Int32) (μ : ax_M) : Option (ax_M) :=
  m_X0_welcome_2 x1 fu 0 μ
set_option maxRecDepth 100000 in
set_option maxHeartbeats 8000000 in
theorem c_X0_welcome {G : ax_G} {l : Launch} {sh : List ax_E} {x1 : Int32} {μ : ax_M} (hs : ∀ (k : Nat) (e : ax_E), SHc[k]? = some e → sh[k]? = some e) {v : ax_M} (h : m_X0_welcome x1 μ = some v) : ax_A G l yX0_welcome cX0_welcome 3 none 2 [.ref (G.1 + 25), .int x1] sh μ (none, sh, v) := by
  refine ax_A.of false (by decide +kernel) (fun h9 => by cases h9) (Nat.le_of_ble_eq_true rfl) (?_ : ax_X G l RX0 cX0_welcome 3 none false 2 (none, sh, v) 0 [(0, .ref (G.1 + 25)), (1, .int x1)] [] sh μ)
  unfold m_X0_welcome at h
  refine ax_iconst (pc := 0) (v := 0) (ax_dd KX0_welcome 0 rfl) (by decide) ?_
  refine ax_istore_n (pc := 1) (i := 2) (lv' := [(2, .int 0), (0, .ref (G.1 + 25)), (1, .int x1)]) (ax_dd KX0_welcome 1 rfl) rfl (by decide) rfl ?_
  refine ax_sub (lv' := [(0, .ref (G.1 + 25)), (1, .int x1), (2, .int 0)]) [1, 2, 0] rfl ?_
  exact a_X0_welcome_2 hs fu _ _ _ h
def m_X0_fineOfAll_5 (x1 : Int32) (x2 : Int32) : Nat → Int32 → Int32 → ax_M → Option (Int32 × ax_M)
  | 0, _, _, _ => none
  | n + 1, x3, x4, μ =>
    if 36 ≤ x4 then
      some (x3, μ)
    else
      (m_X0_rulerAmong x2 x4 μ).bind fun v2 =>
      bind2 (m_X0_fineOf v2 x4 x1 μ) fun v4 μ6 =>
      m_X0_fineOfAll_5 x1 x2 n (x3 + v4) (x4 + 1) μ6
set_option maxRecDepth 100000 in
set_option maxHeartbeats 8000000 in
theorem a_X0_fineOfAll_5 {G : ax_G} {l : Launch} {sh : List ax_E} {x1 : Int32} {x2 : Int32} (hs : ∀ (k : Nat) (e : ax_E), SHc[k]? = some e → sh[k]? = some e) : ∀ (n : Nat) (x3 : Int32) (x4 : Int32) (μ : ax_M) (v : Int32 × ax_M), m_X0_fineOfAll_5 x1 x2 n x3 x4 μ = some v → ax_X G l RX0 cX0_fineOfAll 5 (some .int) false 5 (some (.int v.1), sh, v.2) 5 [(0, .ref (G.1 + 25)), (1, .int x1), (2, .int x2), (3, .int x3), (4, .int x4)] [] sh μ := by
  intro n
  induction n with
  | zero =>
    intro x3 x4 μ v h
    rw [m_X0_fineOfAll_5] at h
    cases h
  | succ n ih =>
    intro x3 x4 μ v h
    rw [m_X0_fineOfAll_5] at h
    refine ax_iload (pc := 5) (q := 4) (ax_dd KX0_fineOfAll 4 rfl) rfl ?_
    refine ax_bipush (pc := 7) (v := 36) (ax_dd KX0_fineOfAll 5 rfl) (by decide) ?_
    by_cases c1 : 36 ≤ x4
    · rw [if_pos c1] at h
      refine ax_icmp_ge_t (pc := 9) (tgt := 35) (ax_dd KX0_fineOfAll 6 rfl) (by decide) c1 ?_
      refine ax_iload_n (pc := 35) (i := 3) (q := 3) (ax_dd KX0_fineOfAll 20 rfl) rfl rfl ?_
      obtain rfl := Option.some.inj h
      exact ax_ireti (pc := 36) (ax_dd KX0_fineOfAll 21 rfl) ⟨_, rfl, rfl⟩ rfl
    · rw [if_neg c1] at h
      refine ax_icmp_ge_f (pc := 9) (tgt := 35) (ax_dd KX0_fineOfAll 6 rfl) (by decide) c1 ?_
      refine ax_iload_n (pc := 12) (i := 3) (q := 3) (ax_dd KX0_fineOfAll 7 rfl) rfl rfl ?_
      refine ax_aload_n (pc := 13) (i := 0) (q := 0) (ax_dd KX0_fineOfAll 8 rfl) rfl rfl ?_
      refine ax_aload_n (pc := 14) (i := 0) (q := 0) (ax_dd KX0_fineOfAll 9 rfl) rfl rfl ?_
      refine ax_iload_n (pc := 15) (i := 2) (q := 2) (ax_dd KX0_fineOfAll 10 rfl) rfl rfl ?_
      refine ax_iload (pc := 16) (q := 4) (ax_dd KX0_fineOfAll 11 rfl) rfl ?_
      obtain ⟨v2, b3, h⟩ := ob_bind h
      refine ax_kV (pc := 18) (ci := 0) (k := 25) (As := [.int x2, .int x4]) (rest := [.ref (G.1 + 25), .int x3]) (st1 := [.int v2, .ref (G.1 + 25), .int x3]) (μ1 := μ) (ax_dd KX0_fineOfAll 12 rfl) (c_X0_rulerAmong hs b3) kV_X0_105 e_X0_rulerAmong (hs 25 _ rfl) cl_X0 (by decide) rfl rfl (by decide) (by decide) (Nat.le_of_ble_eq_true rfl) rfl ?_
      refine ax_iload (pc := 21) (q := 4) (ax_dd KX0_fineOfAll 13 rfl) rfl ?_
      refine ax_iload_n (pc := 23) (i := 1) (q := 1) (ax_dd KX0_fineOfAll 14 rfl) rfl rfl ?_
      obtain ⟨v4, μ6, b5, h⟩ := ob_bind2 h
      refine ax_kV (pc := 24) (ci := 0) (k := 25) (As := [.int v2, .int x4, .int x1]) (rest := [.int x3]) (st1 := [.int v4, .int x3]) (μ1 := μ6) (ax_dd KX0_fineOfAll 15 rfl) (c_X0_fineOf hs b5) kV_X0_98 e_X0_fineOf (hs 25 _ rfl) cl_X0 (by decide) rfl rfl (by decide) (by decide) (Nat.le_of_ble_eq_true rfl) rfl ?_
      refine ax_iadd (pc := 27) (ax_dd KX0_fineOfAll 16 rfl) ?_
      refine ax_istore_n (pc := 28) (i := 3) (lv' := [(3, .int (x3 + v4)), (0, .ref (G.1 + 25)), (1, .int x1), (2, .int x2), (4, .int x4)]) (ax_dd KX0_fineOfAll 17 rfl) rfl (by decide) rfl ?_
      refine ax_iinc (pc := 29) (q := 4) (v := (x4 + 1)) (lv' := [(4, .int (x4 + 1)), (3, .int (x3 + v4)), (0, .ref (G.1 + 25)), (1, .int x1), (2, .int x2)]) (ax_dd KX0_fineOfAll 18 rfl) rfl rfl (by decide) rfl ?_
      refine ax_goto (pc := 32) (tgt := 5) (ax_dd KX0_fineOfAll 19 rfl) (by decide) ?_
      refine ax_sub (lv' := [(0, .ref (G.1 + 25)), (1, .int x1), (2, .int x2), (3, .int (x3 + v4)), (4, .int (x4 + 1))]) [2, 3, 4, 1, 0] rfl ?_
      exact ih _ _ _ _ h
def m_X0_fineOfAll (x1 : Int32) (x2 : Int32) (μ : ax_M) : Option (Int32 × ax_M) :=
  m_X0_fineOfAll_5 x1 x2 fu 0 0 μ
set_option maxRecDepth 100000 in
set_option maxHeartbeats 8000000 in
theorem c_X0_fineOfAll {G : ax_G} {l : Launch} {sh : List ax_E} {x1 : Int32} {x2 : Int32} {μ : ax_M} (hs : ∀ (k : Nat) (e : ax_E), SHc[k]? = some e → sh[k]? = some e) {v : Int32 × ax_M} (h : m_X0_fineOfAll x1 x2 μ = some v) : ax_A G l yX0_fineOfAll cX0_fineOfAll 5 (some .int) 5 [.ref (G.1 + 25), .int x1, .int x2] sh μ (some (.int v.1), sh, v.2) := by
  refine ax_A.of false (by decide +kernel) (fun h9 => by cases h9) (Nat.le_of_ble_eq_true rfl) (?_ : ax_X G l RX0 cX0_fineOfAll 5 (some .int) false 5 (some (.int v.1), sh, v.2) 0 [(0, .ref (G.1 + 25)), (1, .int x1), (2, .int x2)] [] sh μ)
  unfold m_X0_fineOfAll at h
  refine ax_iconst (pc := 0) (v := 0) (ax_dd KX0_fineOfAll 0 rfl) (by decide) ?_
  refine ax_istore_n (pc := 1) (i := 3) (lv' := [(3, .int 0), (0, .ref (G.1 + 25)), (1, .int x1), (2, .int x2)]) (ax_dd KX0_fineOfAll 1 rfl) rfl (by decide) rfl ?_
  refine ax_iconst (pc := 2) (v := 0) (ax_dd KX0_fineOfAll 2 rfl) (by decide) ?_
  refine ax_istore (pc := 3) (lv' := [(4, .int 0), (3, .int 0), (0, .ref (G.1 + 25)), (1, .int x1), (2, .int x2)]) (ax_dd KX0_fineOfAll 3 rfl) (by decide) rfl ?_
  refine ax_sub (lv' := [(0, .ref (G.1 + 25)), (1, .int x1), (2, .int x2), (3, .int 0), (4, .int 0)]) [2, 3, 4, 1, 0] rfl ?_
  exact a_X0_fineOfAll_5 hs fu _ _ _ _ h
def m_X0_fineWere (x1 : Int32) (x2 : Int32) (μ : ax_M) : Option (Int32 × ax_M) :=
  bind2 (m_X0_awakeAt x2 μ) fun v1 μ3 =>
  (m_X0_rulerAmong v1 x1 μ3).bind fun v4 =>
  bind2 (m_X0_fineOf v4 x1 x2 μ3) fun v6 μ8 =>
  some (v6, μ8)
set_option maxRecDepth 100000 in
set_option maxHeartbeats 8000000 in
theorem c_X0_fineWere {G : ax_G} {l : Launch} {sh : List ax_E} {x1 : Int32} {x2 : Int32} {μ : ax_M} (hs : ∀ (k : Nat) (e : ax_E), SHc[k]? = some e → sh[k]? = some e) {v : Int32 × ax_M} (h : m_X0_fineWere x1 x2 μ = some v) : ax_A G l yX0_fineWere cX0_fineWere 3 (some .int) 6 [.ref (G.1 + 25), .int x1, .int x2] sh μ (some (.int v.1), sh, v.2) := by
  refine ax_A.of false (by decide +kernel) (fun h9 => by cases h9) (Nat.le_of_ble_eq_true rfl) (?_ : ax_X G l RX0 cX0_fineWere 3 (some .int) false 6 (some (.int v.1), sh, v.2) 0 [(0, .ref (G.1 + 25)), (1, .int x1), (2, .int x2)] [] sh μ)
  unfold m_X0_fineWere at h
  refine ax_aload_n (pc := 0) (i := 0) (q := 0) (ax_dd KX0_fineWere 0 rfl) rfl rfl ?_
  refine ax_aload_n (pc := 1) (i := 0) (q := 0) (ax_dd KX0_fineWere 1 rfl) rfl rfl ?_
  refine ax_aload_n (pc := 2) (i := 0) (q := 0) (ax_dd KX0_fineWere 2 rfl) rfl rfl ?_
  refine ax_iload_n (pc := 3) (i := 2) (q := 2) (ax_dd KX0_fineWere 3 rfl) rfl rfl ?_
  obtain ⟨v1, μ3, b2, h⟩ := ob_bind2 h
  refine ax_kV (pc := 4) (ci := 0) (k := 25) (As := [.int x2]) (rest := [.ref (G.1 + 25), .ref (G.1 + 25)]) (st1 := [.int v1, .ref (G.1 + 25), .ref (G.1 + 25)]) (μ1 := μ3) (ax_dd KX0_fineWere 4 rfl) (c_X0_awakeAt hs b2) kV_X0_102 e_X0_awakeAt (hs 25 _ rfl) cl_X0 (by decide) rfl rfl (by decide) (by decide) (Nat.le_of_ble_eq_true rfl) rfl ?_
  refine ax_iload_n (pc := 7) (i := 1) (q := 1) (ax_dd KX0_fineWere 5 rfl) rfl rfl ?_
  obtain ⟨v4, b5, h⟩ := ob_bind h
  refine ax_kV (pc := 8) (ci := 0) (k := 25) (As := [.int v1, .int x1]) (rest := [.ref (G.1 + 25)]) (st1 := [.int v4, .ref (G.1 + 25)]) (μ1 := μ3) (ax_dd KX0_fineWere 6 rfl) (c_X0_rulerAmong hs b5) kV_X0_105 e_X0_rulerAmong (hs 25 _ rfl) cl_X0 (by decide) rfl rfl (by decide) (by decide) (Nat.le_of_ble_eq_true rfl) rfl ?_
  refine ax_iload_n (pc := 11) (i := 1) (q := 1) (ax_dd KX0_fineWere 7 rfl) rfl rfl ?_
  refine ax_iload_n (pc := 12) (i := 2) (q := 2) (ax_dd KX0_fineWere 8 rfl) rfl rfl ?_
  obtain ⟨v6, μ8, b7, h⟩ := ob_bind2 h
  refine ax_kV (pc := 13) (ci := 0) (k := 25) (As := [.int v4, .int x1, .int x2]) (rest := []) (st1 := [.int v6]) (μ1 := μ8) (ax_dd KX0_fineWere 9 rfl) (c_X0_fineOf hs b7) kV_X0_98 e_X0_fineOf (hs 25 _ rfl) cl_X0 (by decide) rfl rfl (by decide) (by decide) (Nat.le_of_ble_eq_true rfl) rfl ?_
  obtain rfl := Option.some.inj h
  exact ax_ireti (pc := 16) (ax_dd KX0_fineWere 10 rfl) ⟨_, rfl, rfl⟩ rfl
def m_X0_firstOther_3 (x1 : Nat) (x2 : Int32) (x3 : Int32) : Nat → Int32 → ax_M → Option (Int32 × ax_M)
  | 0, _, _ => none
  | n + 1, x4, μ =>
    if x2 ≤ x4 then
      some ((-1), μ)
    else
      (q_len x1).bind fun j2 =>
      if j2 ≤ x4 then
        some ((-1), μ)
      else
        bind2 (m_X0_fineWere x3 x4 μ) fun v5 μ7 =>
        (q_ld μ7 x1 x4).bind fun j8 =>
        if v5 = j8 then
          m_X0_firstOther_3 x1 x2 x3 n (x4 + 1) μ7
        else
          some (x4, μ7)
set_option maxRecDepth 100000 in
set_option maxHeartbeats 8000000 in
theorem a_X0_firstOther_3 {G : ax_G} {l : Launch} {sh : List ax_E} {x1 : Nat} {x2 : Int32} {x3 : Int32} (hs : ∀ (k : Nat) (e : ax_E), SHc[k]? = some e → sh[k]? = some e) : ∀ (n : Nat) (x4 : Int32) (μ : ax_M) (v : Int32 × ax_M), m_X0_firstOther_3 x1 x2 x3 n x4 μ = some v → ax_X G l RX0 cX0_firstOther 5 (some .int) false 7 (some (.int v.1), sh, v.2) 3 [(0, .ref (G.1 + 25)), (1, .ref (G.1 + (x1))), (2, .int x2), (3, .int x3), (4, .int x4)] [] sh μ := by
  intro n
  induction n with
  | zero =>
    intro x4 μ v h
    rw [m_X0_firstOther_3] at h
    cases h
  | succ n ih =>
    intro x4 μ v h
    rw [m_X0_firstOther_3] at h
    refine ax_iload (pc := 3) (q := 4) (ax_dd KX0_firstOther 2 rfl) rfl ?_
    refine ax_iload_n (pc := 5) (i := 2) (q := 2) (ax_dd KX0_firstOther 3 rfl) rfl rfl ?_
    by_cases c1 : x2 ≤ x4
    · rw [if_pos c1] at h
      refine ax_icmp_ge_t (pc := 6) (tgt := 39) (ax_dd KX0_firstOther 4 rfl) (by decide) c1 ?_
      refine ax_iconst (pc := 39) (v := (-1)) (ax_dd KX0_firstOther 21 rfl) (by decide) ?_
      obtain rfl := Option.some.inj h
      exact ax_ireti (pc := 40) (ax_dd KX0_firstOther 22 rfl) ⟨_, rfl, rfl⟩ rfl
    · rw [if_neg c1] at h
      refine ax_icmp_ge_f (pc := 6) (tgt := 39) (ax_dd KX0_firstOther 4 rfl) (by decide) c1 ?_
      refine ax_iload (pc := 9) (q := 4) (ax_dd KX0_firstOther 5 rfl) rfl ?_
      refine ax_aload_n (pc := 11) (i := 1) (q := 1) (ax_dd KX0_firstOther 6 rfl) rfl rfl ?_
      obtain ⟨j2, b3, h⟩ := ob_bind h
      refine ax_qlen (pc := 12) (ax_dd KX0_firstOther 7 rfl) hs b3 ?_
      by_cases c4 : j2 ≤ x4
      · rw [if_pos c4] at h
        refine ax_icmp_ge_t (pc := 13) (tgt := 39) (ax_dd KX0_firstOther 8 rfl) (by decide) c4 ?_
        refine ax_iconst (pc := 39) (v := (-1)) (ax_dd KX0_firstOther 21 rfl) (by decide) ?_
        obtain rfl := Option.some.inj h
        exact ax_ireti (pc := 40) (ax_dd KX0_firstOther 22 rfl) ⟨_, rfl, rfl⟩ rfl
      · rw [if_neg c4] at h
        refine ax_icmp_ge_f (pc := 13) (tgt := 39) (ax_dd KX0_firstOther 8 rfl) (by decide) c4 ?_
        refine ax_aload_n (pc := 16) (i := 0) (q := 0) (ax_dd KX0_firstOther 9 rfl) rfl rfl ?_
        refine ax_iload_n (pc := 17) (i := 3) (q := 3) (ax_dd KX0_firstOther 10 rfl) rfl rfl ?_
        refine ax_iload (pc := 18) (q := 4) (ax_dd KX0_firstOther 11 rfl) rfl ?_
        obtain ⟨v5, μ7, b6, h⟩ := ob_bind2 h
        refine ax_kV (pc := 20) (ci := 0) (k := 25) (As := [.int x3, .int x4]) (rest := []) (st1 := [.int v5]) (μ1 := μ7) (ax_dd KX0_firstOther 12 rfl) (c_X0_fineWere hs b6) kV_X0_120 e_X0_fineWere (hs 25 _ rfl) cl_X0 (by decide) rfl rfl (by decide) (by decide) (Nat.le_of_ble_eq_true rfl) rfl ?_
        refine ax_aload_n (pc := 23) (i := 1) (q := 1) (ax_dd KX0_firstOther 13 rfl) rfl rfl ?_
        refine ax_iload (pc := 24) (q := 4) (ax_dd KX0_firstOther 14 rfl) rfl ?_
        obtain ⟨j8, b9, h⟩ := ob_bind h
        refine ax_qld (pc := 26) (ax_dd KX0_firstOther 15 rfl) hs b9 ?_
        by_cases c10 : v5 = j8
        · rw [if_pos c10] at h
          refine ax_icmp_eq_t (pc := 27) (tgt := 33) (ax_dd KX0_firstOther 16 rfl) (by decide) c10 ?_
          refine ax_iinc (pc := 33) (q := 4) (v := (x4 + 1)) (lv' := [(4, .int (x4 + 1)), (0, .ref (G.1 + 25)), (1, .ref (G.1 + (x1))), (2, .int x2), (3, .int x3)]) (ax_dd KX0_firstOther 19 rfl) rfl rfl (by decide) rfl ?_
          refine ax_goto (pc := 36) (tgt := 3) (ax_dd KX0_firstOther 20 rfl) (by decide) ?_
          refine ax_sub (lv' := [(0, .ref (G.1 + 25)), (1, .ref (G.1 + (x1))), (2, .int x2), (3, .int x3), (4, .int (x4 + 1))]) [1, 2, 3, 4, 0] rfl ?_
          exact ih _ _ _ h
        · rw [if_neg c10] at h
          refine ax_icmp_eq_f (pc := 27) (tgt := 33) (ax_dd KX0_firstOther 16 rfl) (by decide) c10 ?_
          refine ax_iload (pc := 30) (q := 4) (ax_dd KX0_firstOther 17 rfl) rfl ?_
          obtain rfl := Option.some.inj h
          exact ax_ireti (pc := 32) (ax_dd KX0_firstOther 18 rfl) ⟨_, rfl, rfl⟩ rfl
def m_X0_firstOther (x1 : Nat) (x2 : Int32) (x3 : Int32) (μ : ax_M) : Option (Int32 × ax_M) :=
  m_X0_firstOther_3 x1 x2 x3 fu 0 μ
set_option maxRecDepth 100000 in
set_option maxHeartbeats 8000000 in
theorem c_X0_firstOther {G : ax_G} {l : Launch} {sh : List ax_E} {x1 : Nat} {x2 : Int32} {x3 : Int32} {μ : ax_M} (hs : ∀ (k : Nat) (e : ax_E), SHc[k]? = some e → sh[k]? = some e) {v : Int32 × ax_M} (h : m_X0_firstOther x1 x2 x3 μ = some v) : ax_A G l yX0_firstOther cX0_firstOther 5 (some .int) 7 [.ref (G.1 + 25), .ref (G.1 + (x1)), .int x2, .int x3] sh μ (some (.int v.1), sh, v.2) := by
  refine ax_A.of false (by decide +kernel) (fun h9 => by cases h9) (Nat.le_of_ble_eq_true rfl) (?_ : ax_X G l RX0 cX0_firstOther 5 (some .int) false 7 (some (.int v.1), sh, v.2) 0 [(0, .ref (G.1 + 25)), (1, .ref (G.1 + (x1))), (2, .int x2), (3, .int x3)] [] sh μ)
  unfold m_X0_firstOther at h
  refine ax_iconst (pc := 0) (v := 0) (ax_dd KX0_firstOther 0 rfl) (by decide) ?_
  refine ax_istore (pc := 1) (lv' := [(4, .int 0), (0, .ref (G.1 + 25)), (1, .ref (G.1 + (x1))), (2, .int x2), (3, .int x3)]) (ax_dd KX0_firstOther 1 rfl) (by decide) rfl ?_
  refine ax_sub (lv' := [(0, .ref (G.1 + 25)), (1, .ref (G.1 + (x1))), (2, .int x2), (3, .int x3), (4, .int 0)]) [1, 2, 3, 4, 0] rfl ?_
  exact a_X0_firstOther_3 hs fu _ _ _ h
def m_X1_keep (μ : ax_M) : Option (ax_M) :=
  (q_cp (ax_w (ax_w (ax_w (ax_w μ 39 0 1) 39 1 ((ax_w μ 39 0 1) 25 1)) 39 2 ((ax_w (ax_w μ 39 0 1) 39 1 ((ax_w μ 39 0 1) 25 1)) 25 2)) 39 3 ((ax_w (ax_w (ax_w μ 39 0 1) 39 1 ((ax_w μ 39 0 1) 25 1)) 39 2 ((ax_w (ax_w μ 39 0 1) 39 1 ((ax_w μ 39 0 1) 25 1)) 25 2)) 25 3)) 28 0 40 0 6).bind fun μ1 =>
  (q_cp μ1 29 0 41 0 6).bind fun μ3 =>
  (q_cp μ3 31 0 42 0 6).bind fun μ5 =>
  some μ5
set_option maxRecDepth 100000 in
set_option maxHeartbeats 8000000 in
theorem c_X1_keep {G : ax_G} {l : Launch} {sh : List ax_E} {μ : ax_M} (hs : ∀ (k : Nat) (e : ax_E), SHc[k]? = some e → sh[k]? = some e) {v : ax_M} (h : m_X1_keep μ = some v) : ax_A G l yX1_keep cX1_keep 2 none 2 [.ref (G.1 + 39), .ref (G.1 + 25)] sh μ (none, sh, v) := by
  refine ax_A.of false (by decide +kernel) (fun h9 => by cases h9) (Nat.le_of_ble_eq_true rfl) (?_ : ax_X G l RX1 cX1_keep 2 none false 2 (none, sh, v) 0 [(0, .ref (G.1 + 39)), (1, .ref (G.1 + 25))] [] sh μ)
  unfold m_X1_keep at h
  refine ax_aload_n (pc := 0) (i := 0) (q := 0) (ax_dd KX1_keep 0 rfl) rfl rfl ?_
  refine ax_iconst (pc := 1) (v := 1) (ax_dd KX1_keep 1 rfl) (by decide) ?_
  refine ax_putI (pc := 2) (k := 39) (ax_dd KX1_keep 2 rfl) f_X1_21 ft_X1 (hs 39 _ rfl) rfl (fun _ h9 => by cases h9; rfl) rfl rfl ?_
  refine ax_aload_n (pc := 5) (i := 0) (q := 0) (ax_dd KX1_keep 3 rfl) rfl rfl ?_
  refine ax_aload_n (pc := 6) (i := 1) (q := 1) (ax_dd KX1_keep 4 rfl) rfl rfl ?_
  refine ax_getI (pc := 7) (k := 25) (ax_dd KX1_keep 5 rfl) f_X1_25 (hs 25 _ rfl) rfl ?_
  refine ax_putI (pc := 10) (k := 39) (ax_dd KX1_keep 6 rfl) f_X1_31 ft_X1 (hs 39 _ rfl) rfl (fun _ h9 => by cases h9; rfl) rfl rfl ?_
  refine ax_aload_n (pc := 13) (i := 0) (q := 0) (ax_dd KX1_keep 7 rfl) rfl rfl ?_
  refine ax_aload_n (pc := 14) (i := 1) (q := 1) (ax_dd KX1_keep 8 rfl) rfl rfl ?_
  refine ax_getI (pc := 15) (k := 25) (ax_dd KX1_keep 9 rfl) f_X1_32 (hs 25 _ rfl) rfl ?_
  refine ax_putI (pc := 18) (k := 39) (ax_dd KX1_keep 10 rfl) f_X1_35 ft_X1 (hs 39 _ rfl) rfl (fun _ h9 => by cases h9; rfl) rfl rfl ?_
  refine ax_aload_n (pc := 21) (i := 0) (q := 0) (ax_dd KX1_keep 11 rfl) rfl rfl ?_
  refine ax_aload_n (pc := 22) (i := 1) (q := 1) (ax_dd KX1_keep 12 rfl) rfl rfl ?_
  refine ax_getI (pc := 23) (k := 25) (ax_dd KX1_keep 13 rfl) f_X1_36 (hs 25 _ rfl) rfl ?_
  refine ax_putI (pc := 26) (k := 39) (ax_dd KX1_keep 14 rfl) f_X1_39 ft_X1 (hs 39 _ rfl) rfl (fun _ h9 => by cases h9; rfl) rfl rfl ?_
  refine ax_aload_n (pc := 29) (i := 1) (q := 1) (ax_dd KX1_keep 15 rfl) rfl rfl ?_
  refine ax_getR (pc := 30) (k := 25) (q := 28) (ax_dd KX1_keep 16 rfl) f_X1_40 (hs 25 _ rfl) rfl ?_
  refine ax_iconst (pc := 33) (v := 0) (ax_dd KX1_keep 17 rfl) (by decide) ?_
  refine ax_aload_n (pc := 34) (i := 0) (q := 0) (ax_dd KX1_keep 18 rfl) rfl rfl ?_
  refine ax_getR (pc := 35) (k := 39) (q := 40) (ax_dd KX1_keep 19 rfl) f_X1_9 (hs 39 _ rfl) rfl ?_
  refine ax_iconst (pc := 38) (v := 0) (ax_dd KX1_keep 20 rfl) (by decide) ?_
  refine ax_bipush (pc := 39) (v := 6) (ax_dd KX1_keep 21 rfl) (by decide) ?_
  obtain ⟨μ1, b2, h⟩ := ob_bind h
  refine ax_qcp (pc := 41) (ax_dd KX1_keep 22 rfl) cp_X1_41 hs b2 (by decide) (Nat.le_of_ble_eq_true rfl) ?_
  refine ax_aload_n (pc := 44) (i := 1) (q := 1) (ax_dd KX1_keep 23 rfl) rfl rfl ?_
  refine ax_getR (pc := 45) (k := 25) (q := 29) (ax_dd KX1_keep 24 rfl) f_X1_47 (hs 25 _ rfl) rfl ?_
  refine ax_iconst (pc := 48) (v := 0) (ax_dd KX1_keep 25 rfl) (by decide) ?_
  refine ax_aload_n (pc := 49) (i := 0) (q := 0) (ax_dd KX1_keep 26 rfl) rfl rfl ?_
  refine ax_getR (pc := 50) (k := 39) (q := 41) (ax_dd KX1_keep 27 rfl) f_X1_15 (hs 39 _ rfl) rfl ?_
  refine ax_iconst (pc := 53) (v := 0) (ax_dd KX1_keep 28 rfl) (by decide) ?_
  refine ax_bipush (pc := 54) (v := 6) (ax_dd KX1_keep 29 rfl) (by decide) ?_
  obtain ⟨μ3, b4, h⟩ := ob_bind h
  refine ax_qcp (pc := 56) (ax_dd KX1_keep 30 rfl) cp_X1_41 hs b4 (by decide) (Nat.le_of_ble_eq_true rfl) ?_
  refine ax_aload_n (pc := 59) (i := 1) (q := 1) (ax_dd KX1_keep 31 rfl) rfl rfl ?_
  refine ax_getR (pc := 60) (k := 25) (q := 31) (ax_dd KX1_keep 32 rfl) f_X1_48 (hs 25 _ rfl) rfl ?_
  refine ax_iconst (pc := 63) (v := 0) (ax_dd KX1_keep 33 rfl) (by decide) ?_
  refine ax_aload_n (pc := 64) (i := 0) (q := 0) (ax_dd KX1_keep 34 rfl) rfl rfl ?_
  refine ax_getR (pc := 65) (k := 39) (q := 42) (ax_dd KX1_keep 35 rfl) f_X1_18 (hs 39 _ rfl) rfl ?_
  refine ax_iconst (pc := 68) (v := 0) (ax_dd KX1_keep 36 rfl) (by decide) ?_
  refine ax_bipush (pc := 69) (v := 6) (ax_dd KX1_keep 37 rfl) (by decide) ?_
  obtain ⟨μ5, b6, h⟩ := ob_bind h
  refine ax_qcp (pc := 71) (ax_dd KX1_keep 38 rfl) cp_X1_41 hs b6 (by decide) (Nat.le_of_ble_eq_true rfl) ?_
  obtain rfl := Option.some.inj h
  exact ax_vret (pc := 74) (ax_dd KX1_keep 39 rfl) rfl rfl
def m_X1_restore_63 (μ : ax_M) : Option (ax_M) :=
  (q_cp μ 42 0 31 0 6).bind fun μ1 =>
  some μ1
set_option maxRecDepth 100000 in
set_option maxHeartbeats 8000000 in
theorem a_X1_restore_63 {G : ax_G} {l : Launch} {sh : List ax_E} {μ : ax_M} (hs : ∀ (k : Nat) (e : ax_E), SHc[k]? = some e → sh[k]? = some e) {v : ax_M} (h : m_X1_restore_63 μ = some v) : ax_X G l RX1 cX1_restore 3 none false 4 (none, sh, v) 63 [(0, .ref (G.1 + 39)), (1, .ref (G.1 + 25))] [] sh μ := by
  unfold m_X1_restore_63 at h
  refine ax_aload_n (pc := 63) (i := 0) (q := 0) (ax_dd KX1_restore 34 rfl) rfl rfl ?_
  refine ax_getR (pc := 64) (k := 39) (q := 42) (ax_dd KX1_restore 35 rfl) f_X1_18 (hs 39 _ rfl) rfl ?_
  refine ax_iconst (pc := 67) (v := 0) (ax_dd KX1_restore 36 rfl) (by decide) ?_
  refine ax_aload_n (pc := 68) (i := 1) (q := 1) (ax_dd KX1_restore 37 rfl) rfl rfl ?_
  refine ax_getR (pc := 69) (k := 25) (q := 31) (ax_dd KX1_restore 38 rfl) f_X1_48 (hs 25 _ rfl) rfl ?_
  refine ax_iconst (pc := 72) (v := 0) (ax_dd KX1_restore 39 rfl) (by decide) ?_
  refine ax_bipush (pc := 73) (v := 6) (ax_dd KX1_restore 40 rfl) (by decide) ?_
  obtain ⟨μ1, b2, h⟩ := ob_bind h
  refine ax_qcp (pc := 75) (ax_dd KX1_restore 41 rfl) cp_X1_41 hs b2 (by decide) (Nat.le_of_ble_eq_true rfl) ?_
  obtain rfl := Option.some.inj h
  exact ax_vret (pc := 78) (ax_dd KX1_restore 42 rfl) rfl rfl
def m_X1_restore_26 : Nat → Int32 → ax_M → Option (ax_M)
  | 0, _, _ => none
  | n + 1, x2, μ =>
    if (μ 39 1) ≤ x2 then
      m_X1_restore_63 μ
    else
      if 6 ≤ x2 then
        m_X1_restore_63 μ
      else
        (ix 6 x2).bind fun j3 =>
        (ix 6 x2).bind fun j5 =>
        (m_X0_lay x2 (μ 40 j3) (μ 41 j5) μ).bind fun μ9 =>
        m_X1_restore_26 n (x2 + 1) μ9
set_option maxRecDepth 100000 in
set_option maxHeartbeats 8000000 in
theorem a_X1_restore_26 {G : ax_G} {l : Launch} {sh : List ax_E} (hs : ∀ (k : Nat) (e : ax_E), SHc[k]? = some e → sh[k]? = some e) : ∀ (n : Nat) (x2 : Int32) (μ : ax_M) (v : ax_M), m_X1_restore_26 n x2 μ = some v → ax_X G l RX1 cX1_restore 3 none false 4 (none, sh, v) 26 [(0, .ref (G.1 + 39)), (1, .ref (G.1 + 25)), (2, .int x2)] [] sh μ := by
  intro n
  induction n with
  | zero =>
    intro x2 μ v h
    rw [m_X1_restore_26] at h
    cases h
  | succ n ih =>
    intro x2 μ v h
    rw [m_X1_restore_26] at h
    refine ax_iload_n (pc := 26) (i := 2) (q := 2) (ax_dd KX1_restore 14 rfl) rfl rfl ?_
    refine ax_aload_n (pc := 27) (i := 0) (q := 0) (ax_dd KX1_restore 15 rfl) rfl rfl ?_
    refine ax_getI (pc := 28) (k := 39) (ax_dd KX1_restore 16 rfl) f_X1_31 (hs 39 _ rfl) rfl ?_
    by_cases c1 : (μ 39 1) ≤ x2
    · rw [if_pos c1] at h
      refine ax_icmp_ge_t (pc := 31) (tgt := 63) (ax_dd KX1_restore 17 rfl) (by decide) c1 ?_
      refine ax_sub (lv' := [(0, .ref (G.1 + 39)), (1, .ref (G.1 + 25))]) [0, 1] rfl ?_
      exact a_X1_restore_63 hs h
    · rw [if_neg c1] at h
      refine ax_icmp_ge_f (pc := 31) (tgt := 63) (ax_dd KX1_restore 17 rfl) (by decide) c1 ?_
      refine ax_iload_n (pc := 34) (i := 2) (q := 2) (ax_dd KX1_restore 18 rfl) rfl rfl ?_
      refine ax_bipush (pc := 35) (v := 6) (ax_dd KX1_restore 19 rfl) (by decide) ?_
      by_cases c2 : 6 ≤ x2
      · rw [if_pos c2] at h
        refine ax_icmp_ge_t (pc := 37) (tgt := 63) (ax_dd KX1_restore 20 rfl) (by decide) c2 ?_
        refine ax_sub (lv' := [(0, .ref (G.1 + 39)), (1, .ref (G.1 + 25))]) [0, 1] rfl ?_
        exact a_X1_restore_63 hs h
      · rw [if_neg c2] at h
        refine ax_icmp_ge_f (pc := 37) (tgt := 63) (ax_dd KX1_restore 20 rfl) (by decide) c2 ?_
        refine ax_aload_n (pc := 40) (i := 1) (q := 1) (ax_dd KX1_restore 21 rfl) rfl rfl ?_
        refine ax_iload_n (pc := 41) (i := 2) (q := 2) (ax_dd KX1_restore 22 rfl) rfl rfl ?_
        refine ax_aload_n (pc := 42) (i := 0) (q := 0) (ax_dd KX1_restore 23 rfl) rfl rfl ?_
        refine ax_getR (pc := 43) (k := 39) (q := 40) (ax_dd KX1_restore 24 rfl) f_X1_9 (hs 39 _ rfl) rfl ?_
        refine ax_iload_n (pc := 46) (i := 2) (q := 2) (ax_dd KX1_restore 25 rfl) rfl rfl ?_
        obtain ⟨j3, b4, h⟩ := ob_bind h
        refine ax_ild (pc := 47) (k := 40) (N := 6) (j := j3) (ax_dd KX1_restore 26 rfl) (hs 40 _ rfl) b4 ?_
        refine ax_aload_n (pc := 48) (i := 0) (q := 0) (ax_dd KX1_restore 27 rfl) rfl rfl ?_
        refine ax_getR (pc := 49) (k := 39) (q := 41) (ax_dd KX1_restore 28 rfl) f_X1_15 (hs 39 _ rfl) rfl ?_
        refine ax_iload_n (pc := 52) (i := 2) (q := 2) (ax_dd KX1_restore 29 rfl) rfl rfl ?_
        obtain ⟨j5, b6, h⟩ := ob_bind h
        refine ax_ild (pc := 53) (k := 41) (N := 6) (j := j5) (ax_dd KX1_restore 30 rfl) (hs 41 _ rfl) b6 ?_
        obtain ⟨μ9, b8, h⟩ := ob_bind h
        refine ax_kV (pc := 54) (ci := 0) (k := 25) (As := [.int x2, .int (μ 40 j3), .int (μ 41 j5)]) (rest := []) (st1 := []) (μ1 := μ9) (ax_dd KX1_restore 31 rfl) (c_X0_lay hs b8) kV_X1_49 e_X0_lay (hs 25 _ rfl) cl_X0 (by decide) rfl rfl (by decide) (by decide) (Nat.le_of_ble_eq_true rfl) rfl ?_
        refine ax_iinc (pc := 57) (q := 2) (v := (x2 + 1)) (lv' := [(2, .int (x2 + 1)), (0, .ref (G.1 + 39)), (1, .ref (G.1 + 25))]) (ax_dd KX1_restore 32 rfl) rfl rfl (by decide) rfl ?_
        refine ax_goto (pc := 60) (tgt := 26) (ax_dd KX1_restore 33 rfl) (by decide) ?_
        refine ax_sub (lv' := [(0, .ref (G.1 + 39)), (1, .ref (G.1 + 25)), (2, .int (x2 + 1))]) [1, 2, 0] rfl ?_
        exact ih _ _ _ h
def m_X1_restore (μ : ax_M) : Option (ax_M) :=
  m_X1_restore_26 fu 0 (ax_w (ax_w (ax_w μ 25 1 (μ 39 1)) 25 2 ((ax_w μ 25 1 (μ 39 1)) 39 2)) 25 3 ((ax_w (ax_w μ 25 1 (μ 39 1)) 25 2 ((ax_w μ 25 1 (μ 39 1)) 39 2)) 39 3))
set_option maxRecDepth 100000 in
set_option maxHeartbeats 8000000 in
theorem c_X1_restore {G : ax_G} {l : Launch} {sh : List ax_E} {μ : ax_M} (hs : ∀ (k : Nat) (e : ax_E), SHc[k]? = some e → sh[k]? = some e) {v : ax_M} (h : m_X1_restore μ = some v) : ax_A G l yX1_restore cX1_restore 3 none 4 [.ref (G.1 + 39), .ref (G.1 + 25)] sh μ (none, sh, v) := by
  refine ax_A.of false (by decide +kernel) (fun h9 => by cases h9) (Nat.le_of_ble_eq_true rfl) (?_ : ax_X G l RX1 cX1_restore 3 none false 4 (none, sh, v) 0 [(0, .ref (G.1 + 39)), (1, .ref (G.1 + 25))] [] sh μ)
  unfold m_X1_restore at h
  refine ax_aload_n (pc := 0) (i := 1) (q := 1) (ax_dd KX1_restore 0 rfl) rfl rfl ?_
  refine ax_aload_n (pc := 1) (i := 0) (q := 0) (ax_dd KX1_restore 1 rfl) rfl rfl ?_
  refine ax_getI (pc := 2) (k := 39) (ax_dd KX1_restore 2 rfl) f_X1_31 (hs 39 _ rfl) rfl ?_
  refine ax_putI (pc := 5) (k := 25) (ax_dd KX1_restore 3 rfl) f_X1_25 ft_X0 (hs 25 _ rfl) rfl (fun _ h9 => by cases h9; rfl) rfl rfl ?_
  refine ax_aload_n (pc := 8) (i := 1) (q := 1) (ax_dd KX1_restore 4 rfl) rfl rfl ?_
  refine ax_aload_n (pc := 9) (i := 0) (q := 0) (ax_dd KX1_restore 5 rfl) rfl rfl ?_
  refine ax_getI (pc := 10) (k := 39) (ax_dd KX1_restore 6 rfl) f_X1_35 (hs 39 _ rfl) rfl ?_
  refine ax_putI (pc := 13) (k := 25) (ax_dd KX1_restore 7 rfl) f_X1_32 ft_X0 (hs 25 _ rfl) rfl (fun _ h9 => by cases h9; rfl) rfl rfl ?_
  refine ax_aload_n (pc := 16) (i := 1) (q := 1) (ax_dd KX1_restore 8 rfl) rfl rfl ?_
  refine ax_aload_n (pc := 17) (i := 0) (q := 0) (ax_dd KX1_restore 9 rfl) rfl rfl ?_
  refine ax_getI (pc := 18) (k := 39) (ax_dd KX1_restore 10 rfl) f_X1_39 (hs 39 _ rfl) rfl ?_
  refine ax_putI (pc := 21) (k := 25) (ax_dd KX1_restore 11 rfl) f_X1_36 ft_X0 (hs 25 _ rfl) rfl (fun _ h9 => by cases h9; rfl) rfl rfl ?_
  refine ax_iconst (pc := 24) (v := 0) (ax_dd KX1_restore 12 rfl) (by decide) ?_
  refine ax_istore_n (pc := 25) (i := 2) (lv' := [(2, .int 0), (0, .ref (G.1 + 39)), (1, .ref (G.1 + 25))]) (ax_dd KX1_restore 13 rfl) rfl (by decide) rfl ?_
  refine ax_sub (lv' := [(0, .ref (G.1 + 39)), (1, .ref (G.1 + 25)), (2, .int 0)]) [1, 2, 0] rfl ?_
  exact a_X1_restore_26 hs fu _ _ _ h
def m_X2_stroll_120 (x3 : Int32) (x4 : Int64) (x6 : Int32) (x7 : Int32) (s1 : Int32) (s2 : Int32) (k24 : Int64 → Int32 → ax_M → Option (ax_M)) (μ : ax_M) : Option (ax_M) :=
  k24 x4 (x6 + 1) (ax_w (ax_w μ 38 3 (s1 + s2)) 38 1 x7)
set_option maxRecDepth 100000 in
set_option maxHeartbeats 8000000 in
theorem a_X2_stroll_120 {G : ax_G} {l : Launch} {sh : List ax_E} {x3 : Int32} {x4 : Int64} {x6 : Int32} {x7 : Int32} {s1 : Int32} {s2 : Int32} {k24 : Int64 → Int32 → ax_M → Option (ax_M)} {μ : ax_M} (hs : ∀ (k : Nat) (e : ax_E), SHc[k]? = some e → sh[k]? = some e) (hk24 : ∀ (x4 : Int64) (x6 : Int32) (μ : ax_M) (v : ax_M), k24 x4 x6 μ = some v → ax_X G l RX2 cX2_stroll 8 none false 4 (none, sh, v) 24 [(0, .ref (G.1 + 38)), (3, .int x3), (4, .long x4), (6, .int x6)] [] sh μ) {v : ax_M} (h : m_X2_stroll_120 x3 x4 x6 x7 s1 s2 k24 μ = some v) : ax_X G l RX2 cX2_stroll 8 none false 4 (none, sh, v) 120 [(0, .ref (G.1 + 38)), (3, .int x3), (4, .long x4), (6, .int x6), (7, .int x7)] [.int s2, .int s1, .ref (G.1 + 38)] sh μ := by
  unfold m_X2_stroll_120 at h
  refine ax_iadd (pc := 120) (ax_dd KX2_stroll 65 rfl) ?_
  refine ax_putI (pc := 121) (k := 38) (ax_dd KX2_stroll 66 rfl) f_X2_22 ft_X2 (hs 38 _ rfl) rfl (fun _ h9 => by cases h9; rfl) rfl rfl ?_
  refine ax_aload_n (pc := 124) (i := 0) (q := 0) (ax_dd KX2_stroll 67 rfl) rfl rfl ?_
  refine ax_iload (pc := 125) (q := 4) (ax_dd KX2_stroll 68 rfl) rfl ?_
  refine ax_putI (pc := 127) (k := 38) (ax_dd KX2_stroll 69 rfl) f_X2_15 ft_X2 (hs 38 _ rfl) rfl (fun _ h9 => by cases h9; rfl) rfl rfl ?_
  refine ax_iinc (pc := 130) (q := 3) (v := (x6 + 1)) (lv' := [(6, .int (x6 + 1)), (0, .ref (G.1 + 38)), (3, .int x3), (4, .long x4), (7, .int x7)]) (ax_dd KX2_stroll 70 rfl) rfl rfl (by decide) rfl ?_
  refine ax_goto (pc := 133) (tgt := 24) (ax_dd KX2_stroll 71 rfl) (by decide) ?_
  refine ax_sub (lv' := [(0, .ref (G.1 + 38)), (3, .int x3), (4, .long x4), (6, .int (x6 + 1))]) [1, 2, 3, 0] rfl ?_
  exact hk24 _ _ _ _ h
def m_X2_stroll_24 (x3 : Int32) : Nat → Int64 → Int32 → ax_M → Option (ax_M)
  | 0, _, _, _ => none
  | n + 1, x4, x6, μ =>
    if x3 ≤ x6 then
      some μ
    else
      (ix 36 (μ 38 1)).bind fun j2 =>
      (m_X9_stepFrom ((ax_w μ 38 2 ((μ 38 2) + (μ 33 j2))) 38 1) ((rmL (rmL (x4 * 48271) 2147483647) 4).toInt32) (ax_w μ 38 2 ((μ 38 2) + (μ 33 j2)))).bind fun v4 =>
      if v4 = (-1) then
        m_X2_stroll_24 x3 n (rmL (x4 * 48271) 2147483647) (x6 + 1) (ax_w μ 38 2 ((μ 38 2) + (μ 33 j2)))
      else
        (ix 36 ((ax_w μ 38 2 ((μ 38 2) + (μ 33 j2))) 38 1)).bind fun j7 =>
        (ix 36 v4).bind fun j9 =>
        if ((ax_w μ 38 2 ((μ 38 2) + (μ 33 j2))) 32 j7) = ((ax_w μ 38 2 ((μ 38 2) + (μ 33 j2))) 32 j9) then
          m_X2_stroll_120 x3 (rmL (x4 * 48271) 2147483647) x6 v4 ((ax_w μ 38 2 ((μ 38 2) + (μ 33 j2))) 38 3) 0 (m_X2_stroll_24 x3 n) (ax_w μ 38 2 ((μ 38 2) + (μ 33 j2)))
        else
          m_X2_stroll_120 x3 (rmL (x4 * 48271) 2147483647) x6 v4 ((ax_w μ 38 2 ((μ 38 2) + (μ 33 j2))) 38 3) 1 (m_X2_stroll_24 x3 n) (ax_w μ 38 2 ((μ 38 2) + (μ 33 j2)))
set_option maxRecDepth 100000 in
set_option maxHeartbeats 8000000 in
theorem a_X2_stroll_24 {G : ax_G} {l : Launch} {sh : List ax_E} {x3 : Int32} (hs : ∀ (k : Nat) (e : ax_E), SHc[k]? = some e → sh[k]? = some e) : ∀ (n : Nat) (x4 : Int64) (x6 : Int32) (μ : ax_M) (v : ax_M), m_X2_stroll_24 x3 n x4 x6 μ = some v → ax_X G l RX2 cX2_stroll 8 none false 4 (none, sh, v) 24 [(0, .ref (G.1 + 38)), (3, .int x3), (4, .long x4), (6, .int x6)] [] sh μ := by
  intro n
  induction n with
  | zero =>
    intro x4 x6 μ v h
    rw [m_X2_stroll_24] at h
    cases h
  | succ n ih =>
    intro x4 x6 μ v h
    rw [m_X2_stroll_24] at h
    refine ax_iload (pc := 24) (q := 3) (ax_dd KX2_stroll 16 rfl) rfl ?_
    refine ax_iload_n (pc := 26) (i := 3) (q := 1) (ax_dd KX2_stroll 17 rfl) rfl rfl ?_
    by_cases c1 : x3 ≤ x6
    · rw [if_pos c1] at h
      refine ax_icmp_ge_t (pc := 27) (tgt := 136) (ax_dd KX2_stroll 18 rfl) (by decide) c1 ?_
      obtain rfl := Option.some.inj h
      exact ax_vret (pc := 136) (ax_dd KX2_stroll 72 rfl) rfl rfl
    · rw [if_neg c1] at h
      refine ax_icmp_ge_f (pc := 27) (tgt := 136) (ax_dd KX2_stroll 18 rfl) (by decide) c1 ?_
      refine ax_aload_n (pc := 30) (i := 0) (q := 0) (ax_dd KX2_stroll 19 rfl) rfl rfl ?_
      refine ax_dup (pc := 31) (ax_dd KX2_stroll 20 rfl) rfl ?_
      refine ax_getI (pc := 32) (k := 38) (ax_dd KX2_stroll 21 rfl) f_X2_19 (hs 38 _ rfl) rfl ?_
      refine ax_aload_n (pc := 35) (i := 0) (q := 0) (ax_dd KX2_stroll 22 rfl) rfl rfl ?_
      refine ax_getR (pc := 36) (k := 38) (q := 25) (ax_dd KX2_stroll 23 rfl) f_X2_9 (hs 38 _ rfl) rfl ?_
      refine ax_getR (pc := 39) (k := 25) (q := 33) (ax_dd KX2_stroll 24 rfl) f_X2_25 (hs 25 _ rfl) rfl ?_
      refine ax_aload_n (pc := 42) (i := 0) (q := 0) (ax_dd KX2_stroll 25 rfl) rfl rfl ?_
      refine ax_getI (pc := 43) (k := 38) (ax_dd KX2_stroll 26 rfl) f_X2_15 (hs 38 _ rfl) rfl ?_
      obtain ⟨j2, b3, h⟩ := ob_bind h
      refine ax_ild (pc := 46) (k := 33) (N := 36) (j := j2) (ax_dd KX2_stroll 27 rfl) (hs 33 _ rfl) b3 ?_
      refine ax_iadd (pc := 47) (ax_dd KX2_stroll 28 rfl) ?_
      refine ax_putI (pc := 48) (k := 38) (ax_dd KX2_stroll 29 rfl) f_X2_19 ft_X2 (hs 38 _ rfl) rfl (fun _ h9 => by cases h9; rfl) rfl rfl ?_
      refine ax_lload (pc := 51) (q := 2) (ax_dd KX2_stroll 30 rfl) rfl ?_
      refine ax_ldc2 (pc := 53) (ax_dd KX2_stroll 31 rfl) c_X2_31 ?_
      refine ax_lmul (pc := 56) (ax_dd KX2_stroll 32 rfl) ?_
      refine ax_ldc2 (pc := 57) (ax_dd KX2_stroll 33 rfl) c_X2_33 ?_
      refine ax_lrem (pc := 60) (ax_dd KX2_stroll 34 rfl) (by decide) ?_
      refine ax_lstore (pc := 61) (lv' := [(4, .long (rmL (x4 * 48271) 2147483647)), (0, .ref (G.1 + 38)), (3, .int x3), (6, .int x6)]) (ax_dd KX2_stroll 35 rfl) (by decide) rfl ?_
      refine ax_aload_n (pc := 63) (i := 0) (q := 1) (ax_dd KX2_stroll 36 rfl) rfl rfl ?_
      refine ax_getI (pc := 64) (k := 38) (ax_dd KX2_stroll 37 rfl) f_X2_15 (hs 38 _ rfl) rfl ?_
      refine ax_lload (pc := 67) (q := 0) (ax_dd KX2_stroll 38 rfl) rfl ?_
      refine ax_ldc2 (pc := 69) (ax_dd KX2_stroll 39 rfl) c_X2_35 ?_
      refine ax_lrem (pc := 72) (ax_dd KX2_stroll 40 rfl) (by decide) ?_
      refine ax_l2i (pc := 73) (ax_dd KX2_stroll 41 rfl) ?_
      obtain ⟨v4, b5, h⟩ := ob_bind h
      refine ax_kSN (pc := 74) (i := 8) (As := [.int ((ax_w μ 38 2 ((μ 38 2) + (μ 33 j2))) 38 1), .int ((rmL (rmL (x4 * 48271) 2147483647) 4).toInt32)]) (rest := []) (st1 := [.int v4]) (μ1 := ax_w μ 38 2 ((μ 38 2) + (μ 33 j2))) (ax_dd KX2_stroll 42 rfl) (c_X9_stepFrom hs b5) kN_X2_37 rfl e_X9_stepFrom rfl rfl (by decide) (by decide) (Nat.le_of_ble_eq_true rfl) rfl ?_
      refine ax_istore (pc := 77) (lv' := [(7, .int v4), (4, .long (rmL (x4 * 48271) 2147483647)), (0, .ref (G.1 + 38)), (3, .int x3), (6, .int x6)]) (ax_dd KX2_stroll 43 rfl) (by decide) rfl ?_
      refine ax_iload (pc := 79) (q := 0) (ax_dd KX2_stroll 44 rfl) rfl ?_
      refine ax_iconst (pc := 81) (v := (-1)) (ax_dd KX2_stroll 45 rfl) (by decide) ?_
      by_cases c6 : v4 = (-1)
      · rw [if_pos c6] at h
        refine ax_icmp_eq_t (pc := 82) (tgt := 130) (ax_dd KX2_stroll 46 rfl) (by decide) c6 ?_
        refine ax_iinc (pc := 130) (q := 4) (v := (x6 + 1)) (lv' := [(6, .int (x6 + 1)), (7, .int v4), (4, .long (rmL (x4 * 48271) 2147483647)), (0, .ref (G.1 + 38)), (3, .int x3)]) (ax_dd KX2_stroll 70 rfl) rfl rfl (by decide) rfl ?_
        refine ax_goto (pc := 133) (tgt := 24) (ax_dd KX2_stroll 71 rfl) (by decide) ?_
        refine ax_sub (lv' := [(0, .ref (G.1 + 38)), (3, .int x3), (4, .long (rmL (x4 * 48271) 2147483647)), (6, .int (x6 + 1))]) [3, 4, 2, 0] rfl ?_
        exact ih _ _ _ _ h
      · rw [if_neg c6] at h
        refine ax_icmp_eq_f (pc := 82) (tgt := 130) (ax_dd KX2_stroll 46 rfl) (by decide) c6 ?_
        refine ax_aload_n (pc := 85) (i := 0) (q := 2) (ax_dd KX2_stroll 47 rfl) rfl rfl ?_
        refine ax_dup (pc := 86) (ax_dd KX2_stroll 48 rfl) rfl ?_
        refine ax_getI (pc := 87) (k := 38) (ax_dd KX2_stroll 49 rfl) f_X2_22 (hs 38 _ rfl) rfl ?_
        refine ax_aload_n (pc := 90) (i := 0) (q := 2) (ax_dd KX2_stroll 50 rfl) rfl rfl ?_
        refine ax_getR (pc := 91) (k := 38) (q := 25) (ax_dd KX2_stroll 51 rfl) f_X2_9 (hs 38 _ rfl) rfl ?_
        refine ax_getR (pc := 94) (k := 25) (q := 32) (ax_dd KX2_stroll 52 rfl) f_X2_41 (hs 25 _ rfl) rfl ?_
        refine ax_aload_n (pc := 97) (i := 0) (q := 2) (ax_dd KX2_stroll 53 rfl) rfl rfl ?_
        refine ax_getI (pc := 98) (k := 38) (ax_dd KX2_stroll 54 rfl) f_X2_15 (hs 38 _ rfl) rfl ?_
        obtain ⟨j7, b8, h⟩ := ob_bind h
        refine ax_ild (pc := 101) (k := 32) (N := 36) (j := j7) (ax_dd KX2_stroll 55 rfl) (hs 32 _ rfl) b8 ?_
        refine ax_aload_n (pc := 102) (i := 0) (q := 2) (ax_dd KX2_stroll 56 rfl) rfl rfl ?_
        refine ax_getR (pc := 103) (k := 38) (q := 25) (ax_dd KX2_stroll 57 rfl) f_X2_9 (hs 38 _ rfl) rfl ?_
        refine ax_getR (pc := 106) (k := 25) (q := 32) (ax_dd KX2_stroll 58 rfl) f_X2_41 (hs 25 _ rfl) rfl ?_
        refine ax_iload (pc := 109) (q := 0) (ax_dd KX2_stroll 59 rfl) rfl ?_
        obtain ⟨j9, b10, h⟩ := ob_bind h
        refine ax_ild (pc := 111) (k := 32) (N := 36) (j := j9) (ax_dd KX2_stroll 60 rfl) (hs 32 _ rfl) b10 ?_
        by_cases c11 : ((ax_w μ 38 2 ((μ 38 2) + (μ 33 j2))) 32 j7) = ((ax_w μ 38 2 ((μ 38 2) + (μ 33 j2))) 32 j9)
        · rw [if_pos c11] at h
          refine ax_icmp_ne_f (pc := 112) (tgt := 119) (ax_dd KX2_stroll 61 rfl) (by decide) (fun z => z c11) ?_
          refine ax_iconst (pc := 115) (v := 0) (ax_dd KX2_stroll 62 rfl) (by decide) ?_
          refine ax_goto (pc := 116) (tgt := 120) (ax_dd KX2_stroll 63 rfl) (by decide) ?_
          refine ax_sub (lv' := [(0, .ref (G.1 + 38)), (3, .int x3), (4, .long (rmL (x4 * 48271) 2147483647)), (6, .int x6), (7, .int v4)]) [2, 3, 1, 4, 0] rfl ?_
          exact a_X2_stroll_120 hs ih h
        · rw [if_neg c11] at h
          refine ax_icmp_ne_t (pc := 112) (tgt := 119) (ax_dd KX2_stroll 61 rfl) (by decide) c11 ?_
          refine ax_iconst (pc := 119) (v := 1) (ax_dd KX2_stroll 64 rfl) (by decide) ?_
          refine ax_sub (lv' := [(0, .ref (G.1 + 38)), (3, .int x3), (4, .long (rmL (x4 * 48271) 2147483647)), (6, .int x6), (7, .int v4)]) [2, 3, 1, 4, 0] rfl ?_
          exact a_X2_stroll_120 hs ih h
def m_X2_stroll (x1 : Int32) (x2 : Int32) (x3 : Int32) (μ : ax_M) : Option (ax_M) :=
  m_X2_stroll_24 x3 fu ((x1 + 1).toInt64) 0 (ax_w (ax_w (ax_w μ 38 1 x2) 38 2 0) 38 3 0)
set_option maxRecDepth 100000 in
set_option maxHeartbeats 8000000 in
theorem c_X2_stroll {G : ax_G} {l : Launch} {sh : List ax_E} {x1 : Int32} {x2 : Int32} {x3 : Int32} {μ : ax_M} (hs : ∀ (k : Nat) (e : ax_E), SHc[k]? = some e → sh[k]? = some e) {v : ax_M} (h : m_X2_stroll x1 x2 x3 μ = some v) : ax_A G l yX2_stroll cX2_stroll 8 none 4 [.ref (G.1 + 38), .int x1, .int x2, .int x3] sh μ (none, sh, v) := by
  refine ax_A.of false (by decide +kernel) (fun h9 => by cases h9) (Nat.le_of_ble_eq_true rfl) (?_ : ax_X G l RX2 cX2_stroll 8 none false 4 (none, sh, v) 0 [(0, .ref (G.1 + 38)), (1, .int x1), (2, .int x2), (3, .int x3)] [] sh μ)
  unfold m_X2_stroll at h
  refine ax_aload_n (pc := 0) (i := 0) (q := 0) (ax_dd KX2_stroll 0 rfl) rfl rfl ?_
  refine ax_iload_n (pc := 1) (i := 2) (q := 2) (ax_dd KX2_stroll 1 rfl) rfl rfl ?_
  refine ax_putI (pc := 2) (k := 38) (ax_dd KX2_stroll 2 rfl) f_X2_15 ft_X2 (hs 38 _ rfl) rfl (fun _ h9 => by cases h9; rfl) rfl rfl ?_
  refine ax_aload_n (pc := 5) (i := 0) (q := 0) (ax_dd KX2_stroll 3 rfl) rfl rfl ?_
  refine ax_iconst (pc := 6) (v := 0) (ax_dd KX2_stroll 4 rfl) (by decide) ?_
  refine ax_putI (pc := 7) (k := 38) (ax_dd KX2_stroll 5 rfl) f_X2_19 ft_X2 (hs 38 _ rfl) rfl (fun _ h9 => by cases h9; rfl) rfl rfl ?_
  refine ax_aload_n (pc := 10) (i := 0) (q := 0) (ax_dd KX2_stroll 6 rfl) rfl rfl ?_
  refine ax_iconst (pc := 11) (v := 0) (ax_dd KX2_stroll 7 rfl) (by decide) ?_
  refine ax_putI (pc := 12) (k := 38) (ax_dd KX2_stroll 8 rfl) f_X2_22 ft_X2 (hs 38 _ rfl) rfl (fun _ h9 => by cases h9; rfl) rfl rfl ?_
  refine ax_iload_n (pc := 15) (i := 1) (q := 1) (ax_dd KX2_stroll 9 rfl) rfl rfl ?_
  refine ax_iconst (pc := 16) (v := 1) (ax_dd KX2_stroll 10 rfl) (by decide) ?_
  refine ax_iadd (pc := 17) (ax_dd KX2_stroll 11 rfl) ?_
  refine ax_i2l (pc := 18) (ax_dd KX2_stroll 12 rfl) ?_
  refine ax_lstore (pc := 19) (lv' := [(4, .long ((x1 + 1).toInt64)), (0, .ref (G.1 + 38)), (1, .int x1), (2, .int x2), (3, .int x3)]) (ax_dd KX2_stroll 13 rfl) (by decide) rfl ?_
  refine ax_iconst (pc := 21) (v := 0) (ax_dd KX2_stroll 14 rfl) (by decide) ?_
  refine ax_istore (pc := 22) (lv' := [(6, .int 0), (4, .long ((x1 + 1).toInt64)), (0, .ref (G.1 + 38)), (1, .int x1), (2, .int x2), (3, .int x3)]) (ax_dd KX2_stroll 15 rfl) (by decide) rfl ?_
  refine ax_sub (lv' := [(0, .ref (G.1 + 38)), (3, .int x3), (4, .long ((x1 + 1).toInt64)), (6, .int 0)]) [2, 5, 1, 0] rfl ?_
  exact a_X2_stroll_24 hs fu _ _ _ _ h
def m_X6_sortOf_14 (x0 : Int32) (μ : ax_M) : Option (Int32) :=
  if x0 < 48 then
    some 0
  else
    if 57 < x0 then
      some 0
    else
      some 2
set_option maxRecDepth 100000 in
set_option maxHeartbeats 8000000 in
theorem a_X6_sortOf_14 {G : ax_G} {l : Launch} {sh : List ax_E} {x0 : Int32} {μ : ax_M} (hs : ∀ (k : Nat) (e : ax_E), SHc[k]? = some e → sh[k]? = some e) {v : Int32} (h : m_X6_sortOf_14 x0 μ = some v) : ax_X G l RX6 cX6_sortOf 1 (some .int) false 2 (some (.int v), sh, μ) 14 [(0, .int x0)] [] sh μ := by
  unfold m_X6_sortOf_14 at h
  refine ax_iload_n (pc := 14) (i := 0) (q := 0) (ax_dd KX6_sortOf 8 rfl) rfl rfl ?_
  refine ax_bipush (pc := 15) (v := 48) (ax_dd KX6_sortOf 9 rfl) (by decide) ?_
  by_cases c1 : x0 < 48
  · rw [if_pos c1] at h
    refine ax_icmp_lt_t (pc := 17) (tgt := 30) (ax_dd KX6_sortOf 10 rfl) (by decide) c1 ?_
    refine ax_iconst (pc := 30) (v := 0) (ax_dd KX6_sortOf 16 rfl) (by decide) ?_
    obtain rfl := Option.some.inj h
    exact ax_ireti (pc := 31) (ax_dd KX6_sortOf 17 rfl) ⟨_, rfl, rfl⟩ rfl
  · rw [if_neg c1] at h
    refine ax_icmp_lt_f (pc := 17) (tgt := 30) (ax_dd KX6_sortOf 10 rfl) (by decide) c1 ?_
    refine ax_iload_n (pc := 20) (i := 0) (q := 0) (ax_dd KX6_sortOf 11 rfl) rfl rfl ?_
    refine ax_bipush (pc := 21) (v := 57) (ax_dd KX6_sortOf 12 rfl) (by decide) ?_
    by_cases c2 : 57 < x0
    · rw [if_pos c2] at h
      refine ax_icmp_gt_t (pc := 23) (tgt := 30) (ax_dd KX6_sortOf 13 rfl) (by decide) c2 ?_
      refine ax_iconst (pc := 30) (v := 0) (ax_dd KX6_sortOf 16 rfl) (by decide) ?_
      obtain rfl := Option.some.inj h
      exact ax_ireti (pc := 31) (ax_dd KX6_sortOf 17 rfl) ⟨_, rfl, rfl⟩ rfl
    · rw [if_neg c2] at h
      refine ax_icmp_gt_f (pc := 23) (tgt := 30) (ax_dd KX6_sortOf 13 rfl) (by decide) c2 ?_
      refine ax_iconst (pc := 26) (v := 2) (ax_dd KX6_sortOf 14 rfl) (by decide) ?_
      refine ax_goto (pc := 27) (tgt := 31) (ax_dd KX6_sortOf 15 rfl) (by decide) ?_
      obtain rfl := Option.some.inj h
      exact ax_ireti (pc := 31) (ax_dd KX6_sortOf 17 rfl) ⟨_, rfl, rfl⟩ rfl
def m_X6_sortOf (x0 : Int32) (μ : ax_M) : Option (Int32) :=
  if x0 < 97 then
    m_X6_sortOf_14 x0 μ
  else
    if 122 < x0 then
      m_X6_sortOf_14 x0 μ
    else
      some 1
set_option maxRecDepth 100000 in
set_option maxHeartbeats 8000000 in
theorem c_X6_sortOf {G : ax_G} {l : Launch} {sh : List ax_E} {x0 : Int32} {μ : ax_M} (hs : ∀ (k : Nat) (e : ax_E), SHc[k]? = some e → sh[k]? = some e) {v : Int32} (h : m_X6_sortOf x0 μ = some v) : ax_A G l yX6_sortOf cX6_sortOf 1 (some .int) 2 [.int x0] sh μ (some (.int v), sh, μ) := by
  refine ax_A.of false (by decide +kernel) (fun h9 => by cases h9) (Nat.le_of_ble_eq_true rfl) (?_ : ax_X G l RX6 cX6_sortOf 1 (some .int) false 2 (some (.int v), sh, μ) 0 [(0, .int x0)] [] sh μ)
  unfold m_X6_sortOf at h
  refine ax_iload_n (pc := 0) (i := 0) (q := 0) (ax_dd KX6_sortOf 0 rfl) rfl rfl ?_
  refine ax_bipush (pc := 1) (v := 97) (ax_dd KX6_sortOf 1 rfl) (by decide) ?_
  by_cases c1 : x0 < 97
  · rw [if_pos c1] at h
    refine ax_icmp_lt_t (pc := 3) (tgt := 14) (ax_dd KX6_sortOf 2 rfl) (by decide) c1 ?_
    exact a_X6_sortOf_14 hs h
  · rw [if_neg c1] at h
    refine ax_icmp_lt_f (pc := 3) (tgt := 14) (ax_dd KX6_sortOf 2 rfl) (by decide) c1 ?_
    refine ax_iload_n (pc := 6) (i := 0) (q := 0) (ax_dd KX6_sortOf 3 rfl) rfl rfl ?_
    refine ax_bipush (pc := 7) (v := 122) (ax_dd KX6_sortOf 4 rfl) (by decide) ?_
    by_cases c2 : 122 < x0
    · rw [if_pos c2] at h
      refine ax_icmp_gt_t (pc := 9) (tgt := 14) (ax_dd KX6_sortOf 5 rfl) (by decide) c2 ?_
      exact a_X6_sortOf_14 hs h
    · rw [if_neg c2] at h
      refine ax_icmp_gt_f (pc := 9) (tgt := 14) (ax_dd KX6_sortOf 5 rfl) (by decide) c2 ?_
      refine ax_iconst (pc := 12) (v := 1) (ax_dd KX6_sortOf 6 rfl) (by decide) ?_
      obtain rfl := Option.some.inj h
      exact ax_ireti (pc := 13) (ax_dd KX6_sortOf 7 rfl) ⟨_, rfl, rfl⟩ rfl
def m_X6_endOf_17 (x2 : Int32) (μ : ax_M) : Nat → Int32 → Int32 → Option (Int32)
  | 0, _, _ => none
  | n + 1, x3, x4 =>
    if 160 ≤ x4 then
      some x3
    else
      if x2 = 0 then
        some x3
      else
        if (μ 18 1) ≤ x3 then
          some x3
        else
          (ix 160 x3).bind fun j4 =>
          (m_X6_sortOf (μ 19 j4) μ).bind fun v6 =>
          if v6 = x2 then
            m_X6_endOf_17 x2 μ n (x3 + 1) (x4 + 1)
          else
            some x3
set_option maxRecDepth 100000 in
set_option maxHeartbeats 8000000 in
theorem a_X6_endOf_17 {G : ax_G} {l : Launch} {sh : List ax_E} {x2 : Int32} {μ : ax_M} (hs : ∀ (k : Nat) (e : ax_E), SHc[k]? = some e → sh[k]? = some e) : ∀ (n : Nat) (x3 : Int32) (x4 : Int32) (v : Int32), m_X6_endOf_17 x2 μ n x3 x4 = some v → ax_X G l RX6 cX6_endOf 5 (some .int) false 3 (some (.int v), sh, μ) 17 [(0, .ref (G.1 + 18)), (2, .int x2), (3, .int x3), (4, .int x4)] [] sh μ := by
  intro n
  induction n with
  | zero =>
    intro x3 x4 v h
    rw [m_X6_endOf_17] at h
    cases h
  | succ n ih =>
    intro x3 x4 v h
    rw [m_X6_endOf_17] at h
    refine ax_iload (pc := 17) (q := 3) (ax_dd KX6_endOf 12 rfl) rfl ?_
    refine ax_sipush (pc := 19) (v := 160) (ax_dd KX6_endOf 13 rfl) (by decide) ?_
    by_cases c1 : 160 ≤ x4
    · rw [if_pos c1] at h
      refine ax_icmp_ge_t (pc := 22) (tgt := 59) (ax_dd KX6_endOf 14 rfl) (by decide) c1 ?_
      refine ax_iload_n (pc := 59) (i := 3) (q := 2) (ax_dd KX6_endOf 31 rfl) rfl rfl ?_
      obtain rfl := Option.some.inj h
      exact ax_ireti (pc := 60) (ax_dd KX6_endOf 32 rfl) ⟨_, rfl, rfl⟩ rfl
    · rw [if_neg c1] at h
      refine ax_icmp_ge_f (pc := 22) (tgt := 59) (ax_dd KX6_endOf 14 rfl) (by decide) c1 ?_
      refine ax_iload_n (pc := 25) (i := 2) (q := 1) (ax_dd KX6_endOf 15 rfl) rfl rfl ?_
      by_cases c2 : x2 = 0
      · rw [if_pos c2] at h
        refine ax_if_eq_t (pc := 26) (tgt := 59) (ax_dd KX6_endOf 16 rfl) (by decide) c2 ?_
        refine ax_iload_n (pc := 59) (i := 3) (q := 2) (ax_dd KX6_endOf 31 rfl) rfl rfl ?_
        obtain rfl := Option.some.inj h
        exact ax_ireti (pc := 60) (ax_dd KX6_endOf 32 rfl) ⟨_, rfl, rfl⟩ rfl
      · rw [if_neg c2] at h
        refine ax_if_eq_f (pc := 26) (tgt := 59) (ax_dd KX6_endOf 16 rfl) (by decide) c2 ?_
        refine ax_iload_n (pc := 29) (i := 3) (q := 2) (ax_dd KX6_endOf 17 rfl) rfl rfl ?_
        refine ax_aload_n (pc := 30) (i := 0) (q := 0) (ax_dd KX6_endOf 18 rfl) rfl rfl ?_
        refine ax_getI (pc := 31) (k := 18) (ax_dd KX6_endOf 19 rfl) f_X6_21 (hs 18 _ rfl) rfl ?_
        by_cases c3 : (μ 18 1) ≤ x3
        · rw [if_pos c3] at h
          refine ax_icmp_ge_t (pc := 34) (tgt := 59) (ax_dd KX6_endOf 20 rfl) (by decide) c3 ?_
          refine ax_iload_n (pc := 59) (i := 3) (q := 2) (ax_dd KX6_endOf 31 rfl) rfl rfl ?_
          obtain rfl := Option.some.inj h
          exact ax_ireti (pc := 60) (ax_dd KX6_endOf 32 rfl) ⟨_, rfl, rfl⟩ rfl
        · rw [if_neg c3] at h
          refine ax_icmp_ge_f (pc := 34) (tgt := 59) (ax_dd KX6_endOf 20 rfl) (by decide) c3 ?_
          refine ax_aload_n (pc := 37) (i := 0) (q := 0) (ax_dd KX6_endOf 21 rfl) rfl rfl ?_
          refine ax_getR (pc := 38) (k := 18) (q := 19) (ax_dd KX6_endOf 22 rfl) f_X6_9 (hs 18 _ rfl) rfl ?_
          refine ax_iload_n (pc := 41) (i := 3) (q := 2) (ax_dd KX6_endOf 23 rfl) rfl rfl ?_
          obtain ⟨j4, b5, h⟩ := ob_bind h
          refine ax_ild (pc := 42) (k := 19) (N := 160) (j := j4) (ax_dd KX6_endOf 24 rfl) (hs 19 _ rfl) b5 ?_
          obtain ⟨v6, b7, h⟩ := ob_bind h
          refine ax_kS (pc := 43) (As := [.int (μ 19 j4)]) (rest := []) (st1 := [.int v6]) (μ1 := μ) (ax_dd KX6_endOf 25 rfl) (c_X6_sortOf hs b7) kS_X6_40 e_X6_sortOf rfl rfl (by decide) (by decide) (Nat.le_of_ble_eq_true rfl) rfl ?_
          refine ax_iload_n (pc := 46) (i := 2) (q := 1) (ax_dd KX6_endOf 26 rfl) rfl rfl ?_
          by_cases c8 : v6 = x2
          · rw [if_pos c8] at h
            refine ax_icmp_ne_f (pc := 47) (tgt := 59) (ax_dd KX6_endOf 27 rfl) (by decide) (fun z => z c8) ?_
            refine ax_iinc (pc := 50) (q := 2) (v := (x3 + 1)) (lv' := [(3, .int (x3 + 1)), (0, .ref (G.1 + 18)), (2, .int x2), (4, .int x4)]) (ax_dd KX6_endOf 28 rfl) rfl rfl (by decide) rfl ?_
            refine ax_iinc (pc := 53) (q := 3) (v := (x4 + 1)) (lv' := [(4, .int (x4 + 1)), (3, .int (x3 + 1)), (0, .ref (G.1 + 18)), (2, .int x2)]) (ax_dd KX6_endOf 29 rfl) rfl rfl (by decide) rfl ?_
            refine ax_goto (pc := 56) (tgt := 17) (ax_dd KX6_endOf 30 rfl) (by decide) ?_
            refine ax_sub (lv' := [(0, .ref (G.1 + 18)), (2, .int x2), (3, .int (x3 + 1)), (4, .int (x4 + 1))]) [2, 3, 1, 0] rfl ?_
            exact ih _ _ _ h
          · rw [if_neg c8] at h
            refine ax_icmp_ne_t (pc := 47) (tgt := 59) (ax_dd KX6_endOf 27 rfl) (by decide) c8 ?_
            refine ax_iload_n (pc := 59) (i := 3) (q := 2) (ax_dd KX6_endOf 31 rfl) rfl rfl ?_
            obtain rfl := Option.some.inj h
            exact ax_ireti (pc := 60) (ax_dd KX6_endOf 32 rfl) ⟨_, rfl, rfl⟩ rfl
def m_X6_endOf (x1 : Int32) (μ : ax_M) : Option (Int32) :=
  (ix 160 x1).bind fun j1 =>
  (m_X6_sortOf (μ 19 j1) μ).bind fun v3 =>
  m_X6_endOf_17 v3 μ fu (x1 + 1) 0
set_option maxRecDepth 100000 in
set_option maxHeartbeats 8000000 in
theorem c_X6_endOf {G : ax_G} {l : Launch} {sh : List ax_E} {x1 : Int32} {μ : ax_M} (hs : ∀ (k : Nat) (e : ax_E), SHc[k]? = some e → sh[k]? = some e) {v : Int32} (h : m_X6_endOf x1 μ = some v) : ax_A G l yX6_endOf cX6_endOf 5 (some .int) 3 [.ref (G.1 + 18), .int x1] sh μ (some (.int v), sh, μ) := by
  refine ax_A.of false (by decide +kernel) (fun h9 => by cases h9) (Nat.le_of_ble_eq_true rfl) (?_ : ax_X G l RX6 cX6_endOf 5 (some .int) false 3 (some (.int v), sh, μ) 0 [(0, .ref (G.1 + 18)), (1, .int x1)] [] sh μ)
  unfold m_X6_endOf at h
  refine ax_aload_n (pc := 0) (i := 0) (q := 0) (ax_dd KX6_endOf 0 rfl) rfl rfl ?_
  refine ax_getR (pc := 1) (k := 18) (q := 19) (ax_dd KX6_endOf 1 rfl) f_X6_9 (hs 18 _ rfl) rfl ?_
  refine ax_iload_n (pc := 4) (i := 1) (q := 1) (ax_dd KX6_endOf 2 rfl) rfl rfl ?_
  obtain ⟨j1, b2, h⟩ := ob_bind h
  refine ax_ild (pc := 5) (k := 19) (N := 160) (j := j1) (ax_dd KX6_endOf 3 rfl) (hs 19 _ rfl) b2 ?_
  obtain ⟨v3, b4, h⟩ := ob_bind h
  refine ax_kS (pc := 6) (As := [.int (μ 19 j1)]) (rest := []) (st1 := [.int v3]) (μ1 := μ) (ax_dd KX6_endOf 4 rfl) (c_X6_sortOf hs b4) kS_X6_40 e_X6_sortOf rfl rfl (by decide) (by decide) (Nat.le_of_ble_eq_true rfl) rfl ?_
  refine ax_istore_n (pc := 9) (i := 2) (lv' := [(2, .int v3), (0, .ref (G.1 + 18)), (1, .int x1)]) (ax_dd KX6_endOf 5 rfl) rfl (by decide) rfl ?_
  refine ax_iload_n (pc := 10) (i := 1) (q := 2) (ax_dd KX6_endOf 6 rfl) rfl rfl ?_
  refine ax_iconst (pc := 11) (v := 1) (ax_dd KX6_endOf 7 rfl) (by decide) ?_
  refine ax_iadd (pc := 12) (ax_dd KX6_endOf 8 rfl) ?_
  refine ax_istore_n (pc := 13) (i := 3) (lv' := [(3, .int (x1 + 1)), (2, .int v3), (0, .ref (G.1 + 18)), (1, .int x1)]) (ax_dd KX6_endOf 9 rfl) rfl (by decide) rfl ?_
  refine ax_iconst (pc := 14) (v := 0) (ax_dd KX6_endOf 10 rfl) (by decide) ?_
  refine ax_istore (pc := 15) (lv' := [(4, .int 0), (3, .int (x1 + 1)), (2, .int v3), (0, .ref (G.1 + 18)), (1, .int x1)]) (ax_dd KX6_endOf 11 rfl) (by decide) rfl ?_
  refine ax_sub (lv' := [(0, .ref (G.1 + 18)), (2, .int v3), (3, .int (x1 + 1)), (4, .int 0)]) [3, 2, 1, 0] rfl ?_
  exact a_X6_endOf_17 hs fu _ _ _ h
def m_X6_spelled (x0 : Int32) (μ : ax_M) : Option (Nat) :=
  if x0 = 0 then
    some 1
  else
    if x0 = 1 then
      some 2
    else
      if x0 = 2 then
        some 3
      else
        if x0 = 3 then
          some 4
        else
          if x0 = 4 then
            some 5
          else
            if x0 = 5 then
              some 6
            else
              if x0 = 6 then
                some 7
              else
                if x0 = 7 then
                  some 8
                else
                  if x0 = 8 then
                    some 9
                  else
                    if x0 = 9 then
                      some 10
                    else
                      if x0 = 10 then
                        some 11
                      else
                        some 12
set_option maxRecDepth 100000 in
set_option maxHeartbeats 8000000 in
theorem c_X6_spelled {G : ax_G} {l : Launch} {sh : List ax_E} {x0 : Int32} {μ : ax_M} (hs : ∀ (k : Nat) (e : ax_E), SHc[k]? = some e → sh[k]? = some e) {v : Nat} (h : m_X6_spelled x0 μ = some v) : ax_A G l yX6_spelled cX6_spelled 1 (some (.object "java/lang/String")) 2 [.int x0] sh μ (some (.ref (G.2.2.2.1 v)), sh, μ) := by
  refine ax_A.of false (by decide +kernel) (fun h9 => by cases h9) (Nat.le_of_ble_eq_true rfl) (?_ : ax_X G l RX6 cX6_spelled 1 (some (.object "java/lang/String")) false 2 (some (.ref (G.2.2.2.1 v)), sh, μ) 0 [(0, .int x0)] [] sh μ)
  unfold m_X6_spelled at h
  refine ax_iload_n (pc := 0) (i := 0) (q := 0) (ax_dd KX6_spelled 0 rfl) rfl rfl ?_
  by_cases c1 : x0 = 0
  · rw [if_pos c1] at h
    refine ax_tab (pc := 1) (off := 59) (tgt := 60) (ax_dd KX6_spelled 1 rfl) (by rw [c1]; decide) (by rw [c1]; decide) (by rw [c1]; rfl) (by decide) ?_
    refine ax_ldcS (pc := 60) (i := 1) (ax_dd KX6_spelled 2 rfl) rfl rfl rfl ?_
    obtain rfl := Option.some.inj h
    exact ax_aret (pc := 62) (ax_dd KX6_spelled 3 rfl) rfl rfl
  · rw [if_neg c1] at h
    by_cases c2 : x0 = 1
    · rw [if_pos c2] at h
      refine ax_tab (pc := 1) (off := 62) (tgt := 63) (ax_dd KX6_spelled 1 rfl) (by rw [c2]; decide) (by rw [c2]; decide) (by rw [c2]; rfl) (by decide) ?_
      refine ax_ldcS (pc := 63) (i := 2) (ax_dd KX6_spelled 4 rfl) rfl rfl rfl ?_
      obtain rfl := Option.some.inj h
      exact ax_aret (pc := 65) (ax_dd KX6_spelled 5 rfl) rfl rfl
    · rw [if_neg c2] at h
      by_cases c3 : x0 = 2
      · rw [if_pos c3] at h
        refine ax_tab (pc := 1) (off := 65) (tgt := 66) (ax_dd KX6_spelled 1 rfl) (by rw [c3]; decide) (by rw [c3]; decide) (by rw [c3]; rfl) (by decide) ?_
        refine ax_ldcS (pc := 66) (i := 3) (ax_dd KX6_spelled 6 rfl) rfl rfl rfl ?_
        obtain rfl := Option.some.inj h
        exact ax_aret (pc := 68) (ax_dd KX6_spelled 7 rfl) rfl rfl
      · rw [if_neg c3] at h
        by_cases c4 : x0 = 3
        · rw [if_pos c4] at h
          refine ax_tab (pc := 1) (off := 68) (tgt := 69) (ax_dd KX6_spelled 1 rfl) (by rw [c4]; decide) (by rw [c4]; decide) (by rw [c4]; rfl) (by decide) ?_
          refine ax_ldcS (pc := 69) (i := 4) (ax_dd KX6_spelled 8 rfl) rfl rfl rfl ?_
          obtain rfl := Option.some.inj h
          exact ax_aret (pc := 71) (ax_dd KX6_spelled 9 rfl) rfl rfl
        · rw [if_neg c4] at h
          by_cases c5 : x0 = 4
          · rw [if_pos c5] at h
            refine ax_tab (pc := 1) (off := 71) (tgt := 72) (ax_dd KX6_spelled 1 rfl) (by rw [c5]; decide) (by rw [c5]; decide) (by rw [c5]; rfl) (by decide) ?_
            refine ax_ldcS (pc := 72) (i := 5) (ax_dd KX6_spelled 10 rfl) rfl rfl rfl ?_
            obtain rfl := Option.some.inj h
            exact ax_aret (pc := 74) (ax_dd KX6_spelled 11 rfl) rfl rfl
          · rw [if_neg c5] at h
            by_cases c6 : x0 = 5
            · rw [if_pos c6] at h
              refine ax_tab (pc := 1) (off := 74) (tgt := 75) (ax_dd KX6_spelled 1 rfl) (by rw [c6]; decide) (by rw [c6]; decide) (by rw [c6]; rfl) (by decide) ?_
              refine ax_ldcS (pc := 75) (i := 6) (ax_dd KX6_spelled 12 rfl) rfl rfl rfl ?_
              obtain rfl := Option.some.inj h
              exact ax_aret (pc := 77) (ax_dd KX6_spelled 13 rfl) rfl rfl
            · rw [if_neg c6] at h
              by_cases c7 : x0 = 6
              · rw [if_pos c7] at h
                refine ax_tab (pc := 1) (off := 77) (tgt := 78) (ax_dd KX6_spelled 1 rfl) (by rw [c7]; decide) (by rw [c7]; decide) (by rw [c7]; rfl) (by decide) ?_
                refine ax_ldcS (pc := 78) (i := 7) (ax_dd KX6_spelled 14 rfl) rfl rfl rfl ?_
                obtain rfl := Option.some.inj h
                exact ax_aret (pc := 80) (ax_dd KX6_spelled 15 rfl) rfl rfl
              · rw [if_neg c7] at h
                by_cases c8 : x0 = 7
                · rw [if_pos c8] at h
                  refine ax_tab (pc := 1) (off := 80) (tgt := 81) (ax_dd KX6_spelled 1 rfl) (by rw [c8]; decide) (by rw [c8]; decide) (by rw [c8]; rfl) (by decide) ?_
                  refine ax_ldcS (pc := 81) (i := 8) (ax_dd KX6_spelled 16 rfl) rfl rfl rfl ?_
                  obtain rfl := Option.some.inj h
                  exact ax_aret (pc := 83) (ax_dd KX6_spelled 17 rfl) rfl rfl
                · rw [if_neg c8] at h
                  by_cases c9 : x0 = 8
                  · rw [if_pos c9] at h
                    refine ax_tab (pc := 1) (off := 83) (tgt := 84) (ax_dd KX6_spelled 1 rfl) (by rw [c9]; decide) (by rw [c9]; decide) (by rw [c9]; rfl) (by decide) ?_
                    refine ax_ldcS (pc := 84) (i := 9) (ax_dd KX6_spelled 18 rfl) rfl rfl rfl ?_
                    obtain rfl := Option.some.inj h
                    exact ax_aret (pc := 86) (ax_dd KX6_spelled 19 rfl) rfl rfl
                  · rw [if_neg c9] at h
                    by_cases c10 : x0 = 9
                    · rw [if_pos c10] at h
                      refine ax_tab (pc := 1) (off := 86) (tgt := 87) (ax_dd KX6_spelled 1 rfl) (by rw [c10]; decide) (by rw [c10]; decide) (by rw [c10]; rfl) (by decide) ?_
                      refine ax_ldcS (pc := 87) (i := 10) (ax_dd KX6_spelled 20 rfl) rfl rfl rfl ?_
                      obtain rfl := Option.some.inj h
                      exact ax_aret (pc := 89) (ax_dd KX6_spelled 21 rfl) rfl rfl
                    · rw [if_neg c10] at h
                      by_cases c11 : x0 = 10
                      · rw [if_pos c11] at h
                        refine ax_tab (pc := 1) (off := 89) (tgt := 90) (ax_dd KX6_spelled 1 rfl) (by rw [c11]; decide) (by rw [c11]; decide) (by rw [c11]; rfl) (by decide) ?_
                        refine ax_ldcS (pc := 90) (i := 11) (ax_dd KX6_spelled 22 rfl) rfl rfl rfl ?_
                        obtain rfl := Option.some.inj h
                        exact ax_aret (pc := 92) (ax_dd KX6_spelled 23 rfl) rfl rfl
                      · rw [if_neg c11] at h
                        refine ax_tabD (pc := 1) (tgt := 93) (ax_dd KX6_spelled 1 rfl) (by have e0 := ax_ne c1 (a := 0) rfl; have e1 := ax_ne c2 (a := 1) rfl; have e2 := ax_ne c3 (a := 2) rfl; have e3 := ax_ne c4 (a := 3) rfl; have e4 := ax_ne c5 (a := 4) rfl; have e5 := ax_ne c6 (a := 5) rfl; have e6 := ax_ne c7 (a := 6) rfl; have e7 := ax_ne c8 (a := 7) rfl; have e8 := ax_ne c9 (a := 8) rfl; have e9 := ax_ne c10 (a := 9) rfl; have e10 := ax_ne c11 (a := 10) rfl; omega) (by decide) ?_
                        refine ax_ldcS (pc := 93) (i := 12) (ax_dd KX6_spelled 24 rfl) rfl rfl rfl ?_
                        obtain rfl := Option.some.inj h
                        exact ax_aret (pc := 95) (ax_dd KX6_spelled 25 rfl) rfl rfl
