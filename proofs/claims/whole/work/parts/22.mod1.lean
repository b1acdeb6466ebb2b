def m_X10_unwinds_67 (x1 : Int32) (x2 : Int32) (s1 : Int32) (s2 : Int32) (k0 : ax_M → Option (ax_M)) (μ : ax_M) : Option (ax_M) :=
  (m_X10_puts x2 (ax_w μ 51 25 (s1 - s2))).bind fun μ3 =>
  k0 μ3
set_option maxRecDepth 100000 in
set_option maxHeartbeats 8000000 in
theorem a_X10_unwinds_67 {G : ax_G} {l : Launch} {sh : List ax_E} {x1 : Int32} {x2 : Int32} {s1 : Int32} {s2 : Int32} {k0 : ax_M → Option (ax_M)} {μ : ax_M} (hs : ∀ (k : Nat) (e : ax_E), SHF[k]? = some e → sh[k]? = some e) (hk0 : ∀  (μ : ax_M) (v : ax_M), k0  μ = some v → ax_X G l RX10 cX10_unwinds 3 none false 3 (none, sh, v) 0 [(0, .ref (G.1 + 51)), (1, .int x1)] [] sh μ) {v : ax_M} (h : m_X10_unwinds_67 x1 x2 s1 s2 k0 μ = some v) : ax_X G l RX10 cX10_unwinds 3 none false 3 (none, sh, v) 67 [(0, .ref (G.1 + 51)), (1, .int x1), (2, .int x2)] [.int s2, .int s1, .ref (G.1 + 51)] sh μ := by
  unfold m_X10_unwinds_67 at h
  refine ax_isub (pc := 67) (ax_dd KX10_unwinds 37 rfl) ?_
  refine ax_putI (pc := 68) (k := 51) (ax_dd KX10_unwinds 38 rfl) f_X10_124 ft_X10 (hs 51 _ rfl) rfl (fun _ h9 => by cases h9; rfl) rfl rfl ?_
  refine ax_aload_n (pc := 71) (i := 0) (q := 0) (ax_dd KX10_unwinds 39 rfl) rfl rfl ?_
  refine ax_iload_n (pc := 72) (i := 2) (q := 2) (ax_dd KX10_unwinds 40 rfl) rfl rfl ?_
  obtain ⟨μ3, b2, h⟩ := ob_bind h
  refine ax_kV (pc := 73) (ci := 10) (k := 51) (As := [.int x2]) (rest := []) (st1 := []) (μ1 := μ3) (ax_dd KX10_unwinds 41 rfl) (c_X10_puts hs b2) kV_X10_127 e_X10_puts (hs 51 _ rfl) cl_X10 (by decide) rfl rfl (by decide) (by decide) (Nat.le_of_ble_eq_true rfl) rfl ?_
  refine ax_goto (pc := 76) (tgt := 0) (ax_dd KX10_unwinds 42 rfl) (by decide) ?_
  refine ax_sub (lv' := [(0, .ref (G.1 + 51)), (1, .int x1)]) [0, 1] rfl ?_
  exact hk0  _ _ h
def m_X10_unwinds_0 (x1 : Int32) : Nat → ax_M → Option (ax_M)
  | 0, _ => none
  | n + 1, μ =>
    if (μ 51 24) ≤ 0 then
      some μ
    else
      (ix 200 ((μ 51 24) - 1)).bind fun j2 =>
      (m_X10_rank (μ 65 j2) μ).bind fun v4 =>
      if v4 < x1 then
        some μ
      else
        (ix 200 ((ax_w μ 51 24 ((μ 51 24) - 1)) 51 24)).bind fun j7 =>
        if ((ax_w μ 51 24 ((μ 51 24) - 1)) 65 j7) = 13 then
          m_X10_unwinds_67 x1 ((ax_w μ 51 24 ((μ 51 24) - 1)) 65 j7) ((ax_w μ 51 24 ((μ 51 24) - 1)) 51 25) 1 (m_X10_unwinds_0 x1 n) (ax_w μ 51 24 ((μ 51 24) - 1))
        else
          if ((ax_w μ 51 24 ((μ 51 24) - 1)) 65 j7) = 19 then
            m_X10_unwinds_67 x1 ((ax_w μ 51 24 ((μ 51 24) - 1)) 65 j7) ((ax_w μ 51 24 ((μ 51 24) - 1)) 51 25) 1 (m_X10_unwinds_0 x1 n) (ax_w μ 51 24 ((μ 51 24) - 1))
          else
            m_X10_unwinds_67 x1 ((ax_w μ 51 24 ((μ 51 24) - 1)) 65 j7) ((ax_w μ 51 24 ((μ 51 24) - 1)) 51 25) 0 (m_X10_unwinds_0 x1 n) (ax_w μ 51 24 ((μ 51 24) - 1))
set_option maxRecDepth 100000 in
set_option maxHeartbeats 8000000 in
theorem a_X10_unwinds_0 {G : ax_G} {l : Launch} {sh : List ax_E} {x1 : Int32} (hs : ∀ (k : Nat) (e : ax_E), SHF[k]? = some e → sh[k]? = some e) : ∀ (n : Nat)  (μ : ax_M) (v : ax_M), m_X10_unwinds_0 x1 n  μ = some v → ax_X G l RX10 cX10_unwinds 3 none false 3 (none, sh, v) 0 [(0, .ref (G.1 + 51)), (1, .int x1)] [] sh μ := by
  intro n
  induction n with
  | zero =>
    intro  μ v h
    rw [m_X10_unwinds_0] at h
    cases h
  | succ n ih =>
    intro  μ v h
    rw [m_X10_unwinds_0] at h
    refine ax_aload_n (pc := 0) (i := 0) (q := 0) (ax_dd KX10_unwinds 0 rfl) rfl rfl ?_
    refine ax_getI (pc := 1) (k := 51) (ax_dd KX10_unwinds 1 rfl) f_X10_117 (hs 51 _ rfl) rfl ?_
    by_cases c1 : (μ 51 24) ≤ 0
    · rw [if_pos c1] at h
      refine ax_if_le_t (pc := 4) (tgt := 79) (ax_dd KX10_unwinds 2 rfl) (by decide) c1 ?_
      obtain rfl := Option.some.inj h
      exact ax_vret (pc := 79) (ax_dd KX10_unwinds 43 rfl) rfl rfl
    · rw [if_neg c1] at h
      refine ax_if_le_f (pc := 4) (tgt := 79) (ax_dd KX10_unwinds 2 rfl) (by decide) c1 ?_
      refine ax_aload_n (pc := 7) (i := 0) (q := 0) (ax_dd KX10_unwinds 3 rfl) rfl rfl ?_
      refine ax_getR (pc := 8) (k := 51) (q := 65) (ax_dd KX10_unwinds 4 rfl) f_X10_53 (hs 51 _ rfl) rfl ?_
      refine ax_aload_n (pc := 11) (i := 0) (q := 0) (ax_dd KX10_unwinds 5 rfl) rfl rfl ?_
      refine ax_getI (pc := 12) (k := 51) (ax_dd KX10_unwinds 6 rfl) f_X10_117 (hs 51 _ rfl) rfl ?_
      refine ax_iconst (pc := 15) (v := 1) (ax_dd KX10_unwinds 7 rfl) (by decide) ?_
      refine ax_isub (pc := 16) (ax_dd KX10_unwinds 8 rfl) ?_
      obtain ⟨j2, b3, h⟩ := ob_bind h
      refine ax_ild (pc := 17) (k := 65) (N := 200) (j := j2) (ax_dd KX10_unwinds 9 rfl) (hs 65 _ rfl) b3 ?_
      obtain ⟨v4, b5, h⟩ := ob_bind h
      refine ax_kS (pc := 18) (As := [.int (μ 65 j2)]) (rest := []) (st1 := [.int v4]) (μ1 := μ) (ax_dd KX10_unwinds 10 rfl) (c_X10_rank hs b5) kS_X10_120 e_X10_rank rfl rfl (by decide) (by decide) (Nat.le_of_ble_eq_true rfl) rfl ?_
      refine ax_iload_n (pc := 21) (i := 1) (q := 1) (ax_dd KX10_unwinds 11 rfl) rfl rfl ?_
      by_cases c6 : v4 < x1
      · rw [if_pos c6] at h
        refine ax_icmp_lt_t (pc := 22) (tgt := 79) (ax_dd KX10_unwinds 12 rfl) (by decide) c6 ?_
        obtain rfl := Option.some.inj h
        exact ax_vret (pc := 79) (ax_dd KX10_unwinds 43 rfl) rfl rfl
      · rw [if_neg c6] at h
        refine ax_icmp_lt_f (pc := 22) (tgt := 79) (ax_dd KX10_unwinds 12 rfl) (by decide) c6 ?_
        refine ax_aload_n (pc := 25) (i := 0) (q := 0) (ax_dd KX10_unwinds 13 rfl) rfl rfl ?_
        refine ax_dup (pc := 26) (ax_dd KX10_unwinds 14 rfl) rfl ?_
        refine ax_getI (pc := 27) (k := 51) (ax_dd KX10_unwinds 15 rfl) f_X10_117 (hs 51 _ rfl) rfl ?_
        refine ax_iconst (pc := 30) (v := 1) (ax_dd KX10_unwinds 16 rfl) (by decide) ?_
        refine ax_isub (pc := 31) (ax_dd KX10_unwinds 17 rfl) ?_
        refine ax_putI (pc := 32) (k := 51) (ax_dd KX10_unwinds 18 rfl) f_X10_117 ft_X10 (hs 51 _ rfl) rfl (fun _ h9 => by cases h9; rfl) rfl rfl ?_
        refine ax_aload_n (pc := 35) (i := 0) (q := 0) (ax_dd KX10_unwinds 19 rfl) rfl rfl ?_
        refine ax_getR (pc := 36) (k := 51) (q := 65) (ax_dd KX10_unwinds 20 rfl) f_X10_53 (hs 51 _ rfl) rfl ?_
        refine ax_aload_n (pc := 39) (i := 0) (q := 0) (ax_dd KX10_unwinds 21 rfl) rfl rfl ?_
        refine ax_getI (pc := 40) (k := 51) (ax_dd KX10_unwinds 22 rfl) f_X10_117 (hs 51 _ rfl) rfl ?_
        obtain ⟨j7, b8, h⟩ := ob_bind h
        refine ax_ild (pc := 43) (k := 65) (N := 200) (j := j7) (ax_dd KX10_unwinds 23 rfl) (hs 65 _ rfl) b8 ?_
        refine ax_istore_n (pc := 44) (i := 2) (lv' := [(2, .int ((ax_w μ 51 24 ((μ 51 24) - 1)) 65 j7)), (0, .ref (G.1 + 51)), (1, .int x1)]) (ax_dd KX10_unwinds 24 rfl) rfl (by decide) rfl ?_
        refine ax_aload_n (pc := 45) (i := 0) (q := 1) (ax_dd KX10_unwinds 25 rfl) rfl rfl ?_
        refine ax_dup (pc := 46) (ax_dd KX10_unwinds 26 rfl) rfl ?_
        refine ax_getI (pc := 47) (k := 51) (ax_dd KX10_unwinds 27 rfl) f_X10_124 (hs 51 _ rfl) rfl ?_
        refine ax_iload_n (pc := 50) (i := 2) (q := 0) (ax_dd KX10_unwinds 28 rfl) rfl rfl ?_
        refine ax_bipush (pc := 51) (v := 13) (ax_dd KX10_unwinds 29 rfl) (by decide) ?_
        by_cases c9 : ((ax_w μ 51 24 ((μ 51 24) - 1)) 65 j7) = 13
        · rw [if_pos c9] at h
          refine ax_icmp_eq_t (pc := 53) (tgt := 62) (ax_dd KX10_unwinds 30 rfl) (by decide) c9 ?_
          refine ax_iconst (pc := 62) (v := 1) (ax_dd KX10_unwinds 34 rfl) (by decide) ?_
          refine ax_goto (pc := 63) (tgt := 67) (ax_dd KX10_unwinds 35 rfl) (by decide) ?_
          refine ax_sub (lv' := [(0, .ref (G.1 + 51)), (1, .int x1), (2, .int ((ax_w μ 51 24 ((μ 51 24) - 1)) 65 j7))]) [1, 2, 0] rfl ?_
          exact a_X10_unwinds_67 hs ih h
        · rw [if_neg c9] at h
          refine ax_icmp_eq_f (pc := 53) (tgt := 62) (ax_dd KX10_unwinds 30 rfl) (by decide) c9 ?_
          refine ax_iload_n (pc := 56) (i := 2) (q := 0) (ax_dd KX10_unwinds 31 rfl) rfl rfl ?_
          refine ax_bipush (pc := 57) (v := 19) (ax_dd KX10_unwinds 32 rfl) (by decide) ?_
          by_cases c10 : ((ax_w μ 51 24 ((μ 51 24) - 1)) 65 j7) = 19
          · rw [if_pos c10] at h
            refine ax_icmp_ne_f (pc := 59) (tgt := 66) (ax_dd KX10_unwinds 33 rfl) (by decide) (fun z => z c10) ?_
            refine ax_iconst (pc := 62) (v := 1) (ax_dd KX10_unwinds 34 rfl) (by decide) ?_
            refine ax_goto (pc := 63) (tgt := 67) (ax_dd KX10_unwinds 35 rfl) (by decide) ?_
            refine ax_sub (lv' := [(0, .ref (G.1 + 51)), (1, .int x1), (2, .int ((ax_w μ 51 24 ((μ 51 24) - 1)) 65 j7))]) [1, 2, 0] rfl ?_
            exact a_X10_unwinds_67 hs ih h
          · rw [if_neg c10] at h
            refine ax_icmp_ne_t (pc := 59) (tgt := 66) (ax_dd KX10_unwinds 33 rfl) (by decide) c10 ?_
            refine ax_iconst (pc := 66) (v := 0) (ax_dd KX10_unwinds 36 rfl) (by decide) ?_
            refine ax_sub (lv' := [(0, .ref (G.1 + 51)), (1, .int x1), (2, .int ((ax_w μ 51 24 ((μ 51 24) - 1)) 65 j7))]) [1, 2, 0] rfl ?_
            exact a_X10_unwinds_67 hs ih h
def m_X10_unwinds (x1 : Int32) (μ : ax_M) : Option (ax_M) :=
  m_X10_unwinds_0 x1 fu μ
set_option maxRecDepth 100000 in
set_option maxHeartbeats 8000000 in
theorem c_X10_unwinds {G : ax_G} {l : Launch} {sh : List ax_E} {x1 : Int32} {μ : ax_M} (hs : ∀ (k : Nat) (e : ax_E), SHF[k]? = some e → sh[k]? = some e) {v : ax_M} (h : m_X10_unwinds x1 μ = some v) : ax_A G l yX10_unwinds cX10_unwinds 3 none 3 [.ref (G.1 + 51), .int x1] sh μ (none, sh, v) := by
  refine ax_A.of false (by decide +kernel) (fun h9 => by cases h9) (Nat.le_of_ble_eq_true rfl) (?_ : ax_X G l RX10 cX10_unwinds 3 none false 3 (none, sh, v) 0 [(0, .ref (G.1 + 51)), (1, .int x1)] [] sh μ)
  unfold m_X10_unwinds at h
  exact a_X10_unwinds_0 hs fu  _ _ h
def m_X10_holds (x1 : Int32) (μ : ax_M) : Option (ax_M) :=
  (ix 200 (μ 51 24)).bind fun j1 =>
  some (ax_w (ax_w μ 65 j1 x1) 51 24 (((ax_w μ 65 j1 x1) 51 24) + 1))
set_option maxRecDepth 100000 in
set_option maxHeartbeats 8000000 in
theorem c_X10_holds {G : ax_G} {l : Launch} {sh : List ax_E} {x1 : Int32} {μ : ax_M} (hs : ∀ (k : Nat) (e : ax_E), SHF[k]? = some e → sh[k]? = some e) {v : ax_M} (h : m_X10_holds x1 μ = some v) : ax_A G l yX10_holds cX10_holds 2 none 2 [.ref (G.1 + 51), .int x1] sh μ (none, sh, v) := by
  refine ax_A.of false (by decide +kernel) (fun h9 => by cases h9) (Nat.le_of_ble_eq_true rfl) (?_ : ax_X G l RX10 cX10_holds 2 none false 2 (none, sh, v) 0 [(0, .ref (G.1 + 51)), (1, .int x1)] [] sh μ)
  unfold m_X10_holds at h
  refine ax_aload_n (pc := 0) (i := 0) (q := 0) (ax_dd KX10_holds 0 rfl) rfl rfl ?_
  refine ax_getR (pc := 1) (k := 51) (q := 65) (ax_dd KX10_holds 1 rfl) f_X10_53 (hs 51 _ rfl) rfl ?_
  refine ax_aload_n (pc := 4) (i := 0) (q := 0) (ax_dd KX10_holds 2 rfl) rfl rfl ?_
  refine ax_getI (pc := 5) (k := 51) (ax_dd KX10_holds 3 rfl) f_X10_117 (hs 51 _ rfl) rfl ?_
  refine ax_iload_n (pc := 8) (i := 1) (q := 1) (ax_dd KX10_holds 4 rfl) rfl rfl ?_
  obtain ⟨j1, b2, h⟩ := ob_bind h
  refine ax_ist (pc := 9) (k := 65) (N := 200) (j := j1) (ax_dd KX10_holds 5 rfl) (hs 65 _ rfl) b2 ?_
  refine ax_aload_n (pc := 10) (i := 0) (q := 0) (ax_dd KX10_holds 6 rfl) rfl rfl ?_
  refine ax_dup (pc := 11) (ax_dd KX10_holds 7 rfl) rfl ?_
  refine ax_getI (pc := 12) (k := 51) (ax_dd KX10_holds 8 rfl) f_X10_117 (hs 51 _ rfl) rfl ?_
  refine ax_iconst (pc := 15) (v := 1) (ax_dd KX10_holds 9 rfl) (by decide) ?_
  refine ax_iadd (pc := 16) (ax_dd KX10_holds 10 rfl) ?_
  refine ax_putI (pc := 17) (k := 51) (ax_dd KX10_holds 11 rfl) f_X10_117 ft_X10 (hs 51 _ rfl) rfl (fun _ h9 => by cases h9; rfl) rfl rfl ?_
  obtain rfl := Option.some.inj h
  exact ax_vret (pc := 20) (ax_dd KX10_holds 12 rfl) rfl rfl
def m_X10_opensOne (x1 : Int32) (μ : ax_M) : Option (Int32 × ax_M) :=
  if (μ 51 25) = 5 then
    some (0, μ)
  else
    (m_X10_holds x1 (ax_w μ 51 25 ((μ 51 25) + 1))).bind fun μ4 =>
    some (1, μ4)
set_option maxRecDepth 100000 in
set_option maxHeartbeats 8000000 in
theorem c_X10_opensOne {G : ax_G} {l : Launch} {sh : List ax_E} {x1 : Int32} {μ : ax_M} (hs : ∀ (k : Nat) (e : ax_E), SHF[k]? = some e → sh[k]? = some e) {v : Int32 × ax_M} (h : m_X10_opensOne x1 μ = some v) : ax_A G l yX10_opensOne cX10_opensOne 2 (some .boolean) 3 [.ref (G.1 + 51), .int x1] sh μ (some (.int v.1), sh, v.2) := by
  refine ax_A.of false (by decide +kernel) (fun h9 => by cases h9) (Nat.le_of_ble_eq_true rfl) (?_ : ax_X G l RX10 cX10_opensOne 2 (some .boolean) false 3 (some (.int v.1), sh, v.2) 0 [(0, .ref (G.1 + 51)), (1, .int x1)] [] sh μ)
  unfold m_X10_opensOne at h
  refine ax_aload_n (pc := 0) (i := 0) (q := 0) (ax_dd KX10_opensOne 0 rfl) rfl rfl ?_
  refine ax_getI (pc := 1) (k := 51) (ax_dd KX10_opensOne 1 rfl) f_X10_124 (hs 51 _ rfl) rfl ?_
  refine ax_iconst (pc := 4) (v := 5) (ax_dd KX10_opensOne 2 rfl) (by decide) ?_
  by_cases c1 : (μ 51 25) = 5
  · rw [if_pos c1] at h
    refine ax_icmp_ne_f (pc := 5) (tgt := 10) (ax_dd KX10_opensOne 3 rfl) (by decide) (fun z => z c1) ?_
    refine ax_iconst (pc := 8) (v := 0) (ax_dd KX10_opensOne 4 rfl) (by decide) ?_
    obtain rfl := Option.some.inj h
    exact ax_ireti (pc := 9) (ax_dd KX10_opensOne 5 rfl) ⟨_, rfl, rfl⟩ rfl
  · rw [if_neg c1] at h
    refine ax_icmp_ne_t (pc := 5) (tgt := 10) (ax_dd KX10_opensOne 3 rfl) (by decide) c1 ?_
    refine ax_aload_n (pc := 10) (i := 0) (q := 0) (ax_dd KX10_opensOne 6 rfl) rfl rfl ?_
    refine ax_dup (pc := 11) (ax_dd KX10_opensOne 7 rfl) rfl ?_
    refine ax_getI (pc := 12) (k := 51) (ax_dd KX10_opensOne 8 rfl) f_X10_124 (hs 51 _ rfl) rfl ?_
    refine ax_iconst (pc := 15) (v := 1) (ax_dd KX10_opensOne 9 rfl) (by decide) ?_
    refine ax_iadd (pc := 16) (ax_dd KX10_opensOne 10 rfl) ?_
    refine ax_putI (pc := 17) (k := 51) (ax_dd KX10_opensOne 11 rfl) f_X10_124 ft_X10 (hs 51 _ rfl) rfl (fun _ h9 => by cases h9; rfl) rfl rfl ?_
    refine ax_aload_n (pc := 20) (i := 0) (q := 0) (ax_dd KX10_opensOne 12 rfl) rfl rfl ?_
    refine ax_iload_n (pc := 21) (i := 1) (q := 1) (ax_dd KX10_opensOne 13 rfl) rfl rfl ?_
    obtain ⟨μ4, b3, h⟩ := ob_bind h
    refine ax_kV (pc := 22) (ci := 10) (k := 51) (As := [.int x1]) (rest := []) (st1 := []) (μ1 := μ4) (ax_dd KX10_opensOne 14 rfl) (c_X10_holds hs b3) kV_X10_131 e_X10_holds (hs 51 _ rfl) cl_X10 (by decide) rfl rfl (by decide) (by decide) (Nat.le_of_ble_eq_true rfl) rfl ?_
    refine ax_iconst (pc := 25) (v := 1) (ax_dd KX10_opensOne 15 rfl) (by decide) ?_
    obtain rfl := Option.some.inj h
    exact ax_ireti (pc := 26) (ax_dd KX10_opensOne 16 rfl) ⟨_, rfl, rfl⟩ rfl
def m_X10_signOf (μ : ax_M) : Option (Int32) :=
  if (μ 51 20) = 4 then
    some 11
  else
    if (μ 51 20) = 5 then
      some 12
    else
      if (μ 51 20) = 60 then
        some 14
      else
        if (μ 51 20) = 61 then
          some 15
        else
          if (μ 51 20) = 43 then
            some 16
          else
            if (μ 51 20) = 45 then
              some 17
            else
              if (μ 51 20) = 42 then
                some 18
              else
                some (-1)
set_option maxRecDepth 100000 in
set_option maxHeartbeats 8000000 in
theorem c_X10_signOf {G : ax_G} {l : Launch} {sh : List ax_E} {μ : ax_M} (hs : ∀ (k : Nat) (e : ax_E), SHF[k]? = some e → sh[k]? = some e) {v : Int32} (h : m_X10_signOf μ = some v) : ax_A G l yX10_signOf cX10_signOf 1 (some .int) 2 [.ref (G.1 + 51)] sh μ (some (.int v), sh, μ) := by
  refine ax_A.of false (by decide +kernel) (fun h9 => by cases h9) (Nat.le_of_ble_eq_true rfl) (?_ : ax_X G l RX10 cX10_signOf 1 (some .int) false 2 (some (.int v), sh, μ) 0 [(0, .ref (G.1 + 51))] [] sh μ)
  unfold m_X10_signOf at h
  refine ax_aload_n (pc := 0) (i := 0) (q := 0) (ax_dd KX10_signOf 0 rfl) rfl rfl ?_
  refine ax_getI (pc := 1) (k := 51) (ax_dd KX10_signOf 1 rfl) f_X10_105 (hs 51 _ rfl) rfl ?_
  refine ax_iconst (pc := 4) (v := 4) (ax_dd KX10_signOf 2 rfl) (by decide) ?_
  by_cases c1 : (μ 51 20) = 4
  · rw [if_pos c1] at h
    refine ax_icmp_ne_f (pc := 5) (tgt := 13) (ax_dd KX10_signOf 3 rfl) (by decide) (fun z => z c1) ?_
    refine ax_bipush (pc := 8) (v := 11) (ax_dd KX10_signOf 4 rfl) (by decide) ?_
    refine ax_goto (pc := 10) (tgt := 97) (ax_dd KX10_signOf 5 rfl) (by decide) ?_
    obtain rfl := Option.some.inj h
    exact ax_ireti (pc := 97) (ax_dd KX10_signOf 43 rfl) ⟨_, rfl, rfl⟩ rfl
  · rw [if_neg c1] at h
    refine ax_icmp_ne_t (pc := 5) (tgt := 13) (ax_dd KX10_signOf 3 rfl) (by decide) c1 ?_
    refine ax_aload_n (pc := 13) (i := 0) (q := 0) (ax_dd KX10_signOf 6 rfl) rfl rfl ?_
    refine ax_getI (pc := 14) (k := 51) (ax_dd KX10_signOf 7 rfl) f_X10_105 (hs 51 _ rfl) rfl ?_
    refine ax_iconst (pc := 17) (v := 5) (ax_dd KX10_signOf 8 rfl) (by decide) ?_
    by_cases c2 : (μ 51 20) = 5
    · rw [if_pos c2] at h
      refine ax_icmp_ne_f (pc := 18) (tgt := 26) (ax_dd KX10_signOf 9 rfl) (by decide) (fun z => z c2) ?_
      refine ax_bipush (pc := 21) (v := 12) (ax_dd KX10_signOf 10 rfl) (by decide) ?_
      refine ax_goto (pc := 23) (tgt := 97) (ax_dd KX10_signOf 11 rfl) (by decide) ?_
      obtain rfl := Option.some.inj h
      exact ax_ireti (pc := 97) (ax_dd KX10_signOf 43 rfl) ⟨_, rfl, rfl⟩ rfl
    · rw [if_neg c2] at h
      refine ax_icmp_ne_t (pc := 18) (tgt := 26) (ax_dd KX10_signOf 9 rfl) (by decide) c2 ?_
      refine ax_aload_n (pc := 26) (i := 0) (q := 0) (ax_dd KX10_signOf 12 rfl) rfl rfl ?_
      refine ax_getI (pc := 27) (k := 51) (ax_dd KX10_signOf 13 rfl) f_X10_105 (hs 51 _ rfl) rfl ?_
      refine ax_bipush (pc := 30) (v := 60) (ax_dd KX10_signOf 14 rfl) (by decide) ?_
      by_cases c3 : (μ 51 20) = 60
      · rw [if_pos c3] at h
        refine ax_icmp_ne_f (pc := 32) (tgt := 40) (ax_dd KX10_signOf 15 rfl) (by decide) (fun z => z c3) ?_
        refine ax_bipush (pc := 35) (v := 14) (ax_dd KX10_signOf 16 rfl) (by decide) ?_
        refine ax_goto (pc := 37) (tgt := 97) (ax_dd KX10_signOf 17 rfl) (by decide) ?_
        obtain rfl := Option.some.inj h
        exact ax_ireti (pc := 97) (ax_dd KX10_signOf 43 rfl) ⟨_, rfl, rfl⟩ rfl
      · rw [if_neg c3] at h
        refine ax_icmp_ne_t (pc := 32) (tgt := 40) (ax_dd KX10_signOf 15 rfl) (by decide) c3 ?_
        refine ax_aload_n (pc := 40) (i := 0) (q := 0) (ax_dd KX10_signOf 18 rfl) rfl rfl ?_
        refine ax_getI (pc := 41) (k := 51) (ax_dd KX10_signOf 19 rfl) f_X10_105 (hs 51 _ rfl) rfl ?_
        refine ax_bipush (pc := 44) (v := 61) (ax_dd KX10_signOf 20 rfl) (by decide) ?_
        by_cases c4 : (μ 51 20) = 61
        · rw [if_pos c4] at h
          refine ax_icmp_ne_f (pc := 46) (tgt := 54) (ax_dd KX10_signOf 21 rfl) (by decide) (fun z => z c4) ?_
          refine ax_bipush (pc := 49) (v := 15) (ax_dd KX10_signOf 22 rfl) (by decide) ?_
          refine ax_goto (pc := 51) (tgt := 97) (ax_dd KX10_signOf 23 rfl) (by decide) ?_
          obtain rfl := Option.some.inj h
          exact ax_ireti (pc := 97) (ax_dd KX10_signOf 43 rfl) ⟨_, rfl, rfl⟩ rfl
        · rw [if_neg c4] at h
          refine ax_icmp_ne_t (pc := 46) (tgt := 54) (ax_dd KX10_signOf 21 rfl) (by decide) c4 ?_
          refine ax_aload_n (pc := 54) (i := 0) (q := 0) (ax_dd KX10_signOf 24 rfl) rfl rfl ?_
          refine ax_getI (pc := 55) (k := 51) (ax_dd KX10_signOf 25 rfl) f_X10_105 (hs 51 _ rfl) rfl ?_
          refine ax_bipush (pc := 58) (v := 43) (ax_dd KX10_signOf 26 rfl) (by decide) ?_
          by_cases c5 : (μ 51 20) = 43
          · rw [if_pos c5] at h
            refine ax_icmp_ne_f (pc := 60) (tgt := 68) (ax_dd KX10_signOf 27 rfl) (by decide) (fun z => z c5) ?_
            refine ax_bipush (pc := 63) (v := 16) (ax_dd KX10_signOf 28 rfl) (by decide) ?_
            refine ax_goto (pc := 65) (tgt := 97) (ax_dd KX10_signOf 29 rfl) (by decide) ?_
            obtain rfl := Option.some.inj h
            exact ax_ireti (pc := 97) (ax_dd KX10_signOf 43 rfl) ⟨_, rfl, rfl⟩ rfl
          · rw [if_neg c5] at h
            refine ax_icmp_ne_t (pc := 60) (tgt := 68) (ax_dd KX10_signOf 27 rfl) (by decide) c5 ?_
            refine ax_aload_n (pc := 68) (i := 0) (q := 0) (ax_dd KX10_signOf 30 rfl) rfl rfl ?_
            refine ax_getI (pc := 69) (k := 51) (ax_dd KX10_signOf 31 rfl) f_X10_105 (hs 51 _ rfl) rfl ?_
            refine ax_bipush (pc := 72) (v := 45) (ax_dd KX10_signOf 32 rfl) (by decide) ?_
            by_cases c6 : (μ 51 20) = 45
            · rw [if_pos c6] at h
              refine ax_icmp_ne_f (pc := 74) (tgt := 82) (ax_dd KX10_signOf 33 rfl) (by decide) (fun z => z c6) ?_
              refine ax_bipush (pc := 77) (v := 17) (ax_dd KX10_signOf 34 rfl) (by decide) ?_
              refine ax_goto (pc := 79) (tgt := 97) (ax_dd KX10_signOf 35 rfl) (by decide) ?_
              obtain rfl := Option.some.inj h
              exact ax_ireti (pc := 97) (ax_dd KX10_signOf 43 rfl) ⟨_, rfl, rfl⟩ rfl
            · rw [if_neg c6] at h
              refine ax_icmp_ne_t (pc := 74) (tgt := 82) (ax_dd KX10_signOf 33 rfl) (by decide) c6 ?_
              refine ax_aload_n (pc := 82) (i := 0) (q := 0) (ax_dd KX10_signOf 36 rfl) rfl rfl ?_
              refine ax_getI (pc := 83) (k := 51) (ax_dd KX10_signOf 37 rfl) f_X10_105 (hs 51 _ rfl) rfl ?_
              refine ax_bipush (pc := 86) (v := 42) (ax_dd KX10_signOf 38 rfl) (by decide) ?_
              by_cases c7 : (μ 51 20) = 42
              · rw [if_pos c7] at h
                refine ax_icmp_ne_f (pc := 88) (tgt := 96) (ax_dd KX10_signOf 39 rfl) (by decide) (fun z => z c7) ?_
                refine ax_bipush (pc := 91) (v := 18) (ax_dd KX10_signOf 40 rfl) (by decide) ?_
                refine ax_goto (pc := 93) (tgt := 97) (ax_dd KX10_signOf 41 rfl) (by decide) ?_
                obtain rfl := Option.some.inj h
                exact ax_ireti (pc := 97) (ax_dd KX10_signOf 43 rfl) ⟨_, rfl, rfl⟩ rfl
              · rw [if_neg c7] at h
                refine ax_icmp_ne_t (pc := 88) (tgt := 96) (ax_dd KX10_signOf 39 rfl) (by decide) c7 ?_
                refine ax_iconst (pc := 96) (v := (-1)) (ax_dd KX10_signOf 42 rfl) (by decide) ?_
                obtain rfl := Option.some.inj h
                exact ax_ireti (pc := 97) (ax_dd KX10_signOf 43 rfl) ⟨_, rfl, rfl⟩ rfl
def m_X10_between_17 (x1 : Int32) (s1 : Int32) (μ : ax_M) : Option (Int32 × ax_M) :=
  (m_X10_unwinds s1 μ).bind fun μ3 =>
  (m_X10_rank x1 μ3).bind fun v4 =>
  if v4 = 4 then
    if (μ3 51 24) ≤ 0 then
      (m_X10_holds x1 μ3).bind fun μ10 =>
      some (1, μ10)
    else
      (ix 200 ((μ3 51 24) - 1)).bind fun j11 =>
      (m_X10_rank (μ3 65 j11) μ3).bind fun v13 =>
      if v13 = 4 then
        some (0, μ3)
      else
        (m_X10_holds x1 μ3).bind fun μ18 =>
        some (1, μ18)
  else
    (m_X10_holds x1 μ3).bind fun μ21 =>
    some (1, μ21)
set_option maxRecDepth 100000 in
set_option maxHeartbeats 8000000 in
theorem a_X10_between_17 {G : ax_G} {l : Launch} {sh : List ax_E} {x1 : Int32} {s1 : Int32} {μ : ax_M} (hs : ∀ (k : Nat) (e : ax_E), SHF[k]? = some e → sh[k]? = some e) {v : Int32 × ax_M} (h : m_X10_between_17 x1 s1 μ = some v) : ax_X G l RX10 cX10_between 2 (some .boolean) false 4 (some (.int v.1), sh, v.2) 17 [(0, .ref (G.1 + 51)), (1, .int x1)] [.int s1, .ref (G.1 + 51)] sh μ := by
  unfold m_X10_between_17 at h
  obtain ⟨μ3, b2, h⟩ := ob_bind h
  refine ax_kV (pc := 17) (ci := 10) (k := 51) (As := [.int s1]) (rest := []) (st1 := []) (μ1 := μ3) (ax_dd KX10_between 9 rfl) (c_X10_unwinds hs b2) kV_X10_134 e_X10_unwinds (hs 51 _ rfl) cl_X10 (by decide) rfl rfl (by decide) (by decide) (Nat.le_of_ble_eq_true rfl) rfl ?_
  refine ax_iload_n (pc := 20) (i := 1) (q := 1) (ax_dd KX10_between 10 rfl) rfl rfl ?_
  obtain ⟨v4, b5, h⟩ := ob_bind h
  refine ax_kS (pc := 21) (As := [.int x1]) (rest := []) (st1 := [.int v4]) (μ1 := μ3) (ax_dd KX10_between 11 rfl) (c_X10_rank hs b5) kS_X10_120 e_X10_rank rfl rfl (by decide) (by decide) (Nat.le_of_ble_eq_true rfl) rfl ?_
  refine ax_iconst (pc := 24) (v := 4) (ax_dd KX10_between 12 rfl) (by decide) ?_
  by_cases c6 : v4 = 4
  · rw [if_pos c6] at h
    refine ax_icmp_ne_f (pc := 25) (tgt := 55) (ax_dd KX10_between 13 rfl) (by decide) (fun z => z c6) ?_
    refine ax_aload_n (pc := 28) (i := 0) (q := 0) (ax_dd KX10_between 14 rfl) rfl rfl ?_
    refine ax_getI (pc := 29) (k := 51) (ax_dd KX10_between 15 rfl) f_X10_117 (hs 51 _ rfl) rfl ?_
    by_cases c7 : (μ3 51 24) ≤ 0
    · rw [if_pos c7] at h
      refine ax_if_le_t (pc := 32) (tgt := 55) (ax_dd KX10_between 16 rfl) (by decide) c7 ?_
      refine ax_aload_n (pc := 55) (i := 0) (q := 0) (ax_dd KX10_between 29 rfl) rfl rfl ?_
      refine ax_iload_n (pc := 56) (i := 1) (q := 1) (ax_dd KX10_between 30 rfl) rfl rfl ?_
      obtain ⟨μ10, b9, h⟩ := ob_bind h
      refine ax_kV (pc := 57) (ci := 10) (k := 51) (As := [.int x1]) (rest := []) (st1 := []) (μ1 := μ10) (ax_dd KX10_between 31 rfl) (c_X10_holds hs b9) kV_X10_131 e_X10_holds (hs 51 _ rfl) cl_X10 (by decide) rfl rfl (by decide) (by decide) (Nat.le_of_ble_eq_true rfl) rfl ?_
      refine ax_iconst (pc := 60) (v := 1) (ax_dd KX10_between 32 rfl) (by decide) ?_
      obtain rfl := Option.some.inj h
      exact ax_ireti (pc := 61) (ax_dd KX10_between 33 rfl) ⟨_, rfl, rfl⟩ rfl
    · rw [if_neg c7] at h
      refine ax_if_le_f (pc := 32) (tgt := 55) (ax_dd KX10_between 16 rfl) (by decide) c7 ?_
      refine ax_aload_n (pc := 35) (i := 0) (q := 0) (ax_dd KX10_between 17 rfl) rfl rfl ?_
      refine ax_getR (pc := 36) (k := 51) (q := 65) (ax_dd KX10_between 18 rfl) f_X10_53 (hs 51 _ rfl) rfl ?_
      refine ax_aload_n (pc := 39) (i := 0) (q := 0) (ax_dd KX10_between 19 rfl) rfl rfl ?_
      refine ax_getI (pc := 40) (k := 51) (ax_dd KX10_between 20 rfl) f_X10_117 (hs 51 _ rfl) rfl ?_
      refine ax_iconst (pc := 43) (v := 1) (ax_dd KX10_between 21 rfl) (by decide) ?_
      refine ax_isub (pc := 44) (ax_dd KX10_between 22 rfl) ?_
      obtain ⟨j11, b12, h⟩ := ob_bind h
      refine ax_ild (pc := 45) (k := 65) (N := 200) (j := j11) (ax_dd KX10_between 23 rfl) (hs 65 _ rfl) b12 ?_
      obtain ⟨v13, b14, h⟩ := ob_bind h
      refine ax_kS (pc := 46) (As := [.int (μ3 65 j11)]) (rest := []) (st1 := [.int v13]) (μ1 := μ3) (ax_dd KX10_between 24 rfl) (c_X10_rank hs b14) kS_X10_120 e_X10_rank rfl rfl (by decide) (by decide) (Nat.le_of_ble_eq_true rfl) rfl ?_
      refine ax_iconst (pc := 49) (v := 4) (ax_dd KX10_between 25 rfl) (by decide) ?_
      by_cases c15 : v13 = 4
      · rw [if_pos c15] at h
        refine ax_icmp_ne_f (pc := 50) (tgt := 55) (ax_dd KX10_between 26 rfl) (by decide) (fun z => z c15) ?_
        refine ax_iconst (pc := 53) (v := 0) (ax_dd KX10_between 27 rfl) (by decide) ?_
        obtain rfl := Option.some.inj h
        exact ax_ireti (pc := 54) (ax_dd KX10_between 28 rfl) ⟨_, rfl, rfl⟩ rfl
      · rw [if_neg c15] at h
        refine ax_icmp_ne_t (pc := 50) (tgt := 55) (ax_dd KX10_between 26 rfl) (by decide) c15 ?_
        refine ax_aload_n (pc := 55) (i := 0) (q := 0) (ax_dd KX10_between 29 rfl) rfl rfl ?_
        refine ax_iload_n (pc := 56) (i := 1) (q := 1) (ax_dd KX10_between 30 rfl) rfl rfl ?_
        obtain ⟨μ18, b17, h⟩ := ob_bind h
        refine ax_kV (pc := 57) (ci := 10) (k := 51) (As := [.int x1]) (rest := []) (st1 := []) (μ1 := μ18) (ax_dd KX10_between 31 rfl) (c_X10_holds hs b17) kV_X10_131 e_X10_holds (hs 51 _ rfl) cl_X10 (by decide) rfl rfl (by decide) (by decide) (Nat.le_of_ble_eq_true rfl) rfl ?_
        refine ax_iconst (pc := 60) (v := 1) (ax_dd KX10_between 32 rfl) (by decide) ?_
        obtain rfl := Option.some.inj h
        exact ax_ireti (pc := 61) (ax_dd KX10_between 33 rfl) ⟨_, rfl, rfl⟩ rfl
  · rw [if_neg c6] at h
    refine ax_icmp_ne_t (pc := 25) (tgt := 55) (ax_dd KX10_between 13 rfl) (by decide) c6 ?_
    refine ax_aload_n (pc := 55) (i := 0) (q := 0) (ax_dd KX10_between 29 rfl) rfl rfl ?_
    refine ax_iload_n (pc := 56) (i := 1) (q := 1) (ax_dd KX10_between 30 rfl) rfl rfl ?_
    obtain ⟨μ21, b20, h⟩ := ob_bind h
    refine ax_kV (pc := 57) (ci := 10) (k := 51) (As := [.int x1]) (rest := []) (st1 := []) (μ1 := μ21) (ax_dd KX10_between 31 rfl) (c_X10_holds hs b20) kV_X10_131 e_X10_holds (hs 51 _ rfl) cl_X10 (by decide) rfl rfl (by decide) (by decide) (Nat.le_of_ble_eq_true rfl) rfl ?_
    refine ax_iconst (pc := 60) (v := 1) (ax_dd KX10_between 32 rfl) (by decide) ?_
    obtain rfl := Option.some.inj h
    exact ax_ireti (pc := 61) (ax_dd KX10_between 33 rfl) ⟨_, rfl, rfl⟩ rfl
def m_X10_between (x1 : Int32) (μ : ax_M) : Option (Int32 × ax_M) :=
  (m_X10_rank x1 μ).bind fun v1 =>
  if v1 = 4 then
    m_X10_between_17 x1 5 μ
  else
    (m_X10_rank x1 μ).bind fun v4 =>
    m_X10_between_17 x1 v4 μ
set_option maxRecDepth 100000 in
set_option maxHeartbeats 8000000 in
theorem c_X10_between {G : ax_G} {l : Launch} {sh : List ax_E} {x1 : Int32} {μ : ax_M} (hs : ∀ (k : Nat) (e : ax_E), SHF[k]? = some e → sh[k]? = some e) {v : Int32 × ax_M} (h : m_X10_between x1 μ = some v) : ax_A G l yX10_between cX10_between 2 (some .boolean) 4 [.ref (G.1 + 51), .int x1] sh μ (some (.int v.1), sh, v.2) := by
  refine ax_A.of false (by decide +kernel) (fun h9 => by cases h9) (Nat.le_of_ble_eq_true rfl) (?_ : ax_X G l RX10 cX10_between 2 (some .boolean) false 4 (some (.int v.1), sh, v.2) 0 [(0, .ref (G.1 + 51)), (1, .int x1)] [] sh μ)
  unfold m_X10_between at h
  refine ax_aload_n (pc := 0) (i := 0) (q := 0) (ax_dd KX10_between 0 rfl) rfl rfl ?_
  refine ax_iload_n (pc := 1) (i := 1) (q := 1) (ax_dd KX10_between 1 rfl) rfl rfl ?_
  obtain ⟨v1, b2, h⟩ := ob_bind h
  refine ax_kS (pc := 2) (As := [.int x1]) (rest := [.ref (G.1 + 51)]) (st1 := [.int v1, .ref (G.1 + 51)]) (μ1 := μ) (ax_dd KX10_between 2 rfl) (c_X10_rank hs b2) kS_X10_120 e_X10_rank rfl rfl (by decide) (by decide) (Nat.le_of_ble_eq_true rfl) rfl ?_
  refine ax_iconst (pc := 5) (v := 4) (ax_dd KX10_between 3 rfl) (by decide) ?_
  by_cases c3 : v1 = 4
  · rw [if_pos c3] at h
    refine ax_icmp_ne_f (pc := 6) (tgt := 13) (ax_dd KX10_between 4 rfl) (by decide) (fun z => z c3) ?_
    refine ax_iconst (pc := 9) (v := 5) (ax_dd KX10_between 5 rfl) (by decide) ?_
    refine ax_goto (pc := 10) (tgt := 17) (ax_dd KX10_between 6 rfl) (by decide) ?_
    exact a_X10_between_17 hs h
  · rw [if_neg c3] at h
    refine ax_icmp_ne_t (pc := 6) (tgt := 13) (ax_dd KX10_between 4 rfl) (by decide) c3 ?_
    refine ax_iload_n (pc := 13) (i := 1) (q := 1) (ax_dd KX10_between 7 rfl) rfl rfl ?_
    obtain ⟨v4, b5, h⟩ := ob_bind h
    refine ax_kS (pc := 14) (As := [.int x1]) (rest := [.ref (G.1 + 51)]) (st1 := [.int v4, .ref (G.1 + 51)]) (μ1 := μ) (ax_dd KX10_between 8 rfl) (c_X10_rank hs b5) kS_X10_120 e_X10_rank rfl rfl (by decide) (by decide) (Nat.le_of_ble_eq_true rfl) rfl ?_
    exact a_X10_between_17 hs h
def m_X10_eRead_61 (x2 : Int32) (s1 : Int32) (k14 : Int32 → Int32 → ax_M → Option (Int32 × ax_M)) (μ : ax_M) : Option (Int32 × ax_M) :=
  (m_X10_puts s1 μ).bind fun μ3 =>
  (m_X10_unwinds 7 μ3).bind fun μ6 =>
  k14 0 x2 μ6
set_option maxRecDepth 100000 in
set_option maxHeartbeats 8000000 in
theorem a_X10_eRead_61 {G : ax_G} {l : Launch} {sh : List ax_E} {x2 : Int32} {s1 : Int32} {k14 : Int32 → Int32 → ax_M → Option (Int32 × ax_M)} {μ : ax_M} (hs : ∀ (k : Nat) (e : ax_E), SHF[k]? = some e → sh[k]? = some e) (hk14 : ∀ (x1 : Int32) (x2 : Int32) (μ : ax_M) (v : Int32 × ax_M), k14 x1 x2 μ = some v → ax_X G l RX10 cX10_eRead 4 (some .boolean) false 5 (some (.int v.1), sh, v.2) 14 [(0, .ref (G.1 + 51)), (1, .int x1), (2, .int x2)] [] sh μ) {v : Int32 × ax_M} (h : m_X10_eRead_61 x2 s1 k14 μ = some v) : ax_X G l RX10 cX10_eRead 4 (some .boolean) false 5 (some (.int v.1), sh, v.2) 61 [(0, .ref (G.1 + 51)), (2, .int x2)] [.int s1, .ref (G.1 + 51)] sh μ := by
  unfold m_X10_eRead_61 at h
  obtain ⟨μ3, b2, h⟩ := ob_bind h
  refine ax_kV (pc := 61) (ci := 10) (k := 51) (As := [.int s1]) (rest := []) (st1 := []) (μ1 := μ3) (ax_dd KX10_eRead 34 rfl) (c_X10_puts hs b2) kV_X10_127 e_X10_puts (hs 51 _ rfl) cl_X10 (by decide) rfl rfl (by decide) (by decide) (Nat.le_of_ble_eq_true rfl) rfl ?_
  refine ax_aload_n (pc := 64) (i := 0) (q := 0) (ax_dd KX10_eRead 35 rfl) rfl rfl ?_
  refine ax_bipush (pc := 65) (v := 7) (ax_dd KX10_eRead 36 rfl) (by decide) ?_
  obtain ⟨μ6, b5, h⟩ := ob_bind h
  refine ax_kV (pc := 67) (ci := 10) (k := 51) (As := [.int 7]) (rest := []) (st1 := []) (μ1 := μ6) (ax_dd KX10_eRead 37 rfl) (c_X10_unwinds hs b5) kV_X10_134 e_X10_unwinds (hs 51 _ rfl) cl_X10 (by decide) rfl rfl (by decide) (by decide) (Nat.le_of_ble_eq_true rfl) rfl ?_
  refine ax_iconst (pc := 70) (v := 0) (ax_dd KX10_eRead 38 rfl) (by decide) ?_
  refine ax_istore_n (pc := 71) (i := 1) (lv' := [(1, .int 0), (0, .ref (G.1 + 51)), (2, .int x2)]) (ax_dd KX10_eRead 39 rfl) rfl (by decide) rfl ?_
  refine ax_goto (pc := 72) (tgt := 14) (ax_dd KX10_eRead 40 rfl) (by decide) ?_
  refine ax_sub (lv' := [(0, .ref (G.1 + 51)), (1, .int 0), (2, .int x2)]) [1, 0, 2] rfl ?_
  exact hk14 _ _ _ _ h
def m_X10_eRead_38 (x2 : Int32) (k14 : Int32 → Int32 → ax_M → Option (Int32 × ax_M)) (μ : ax_M) : Option (Int32 × ax_M) :=
  if (μ 51 20) = 1 then
    m_X10_eRead_61 x2 ((100000 : Int32) + (μ 51 21)) k14 μ
  else
    m_X10_eRead_61 x2 (μ 51 21) k14 μ
set_option maxRecDepth 100000 in
set_option maxHeartbeats 8000000 in
theorem a_X10_eRead_38 {G : ax_G} {l : Launch} {sh : List ax_E} {x2 : Int32} {k14 : Int32 → Int32 → ax_M → Option (Int32 × ax_M)} {μ : ax_M} (hs : ∀ (k : Nat) (e : ax_E), SHF[k]? = some e → sh[k]? = some e) (hk14 : ∀ (x1 : Int32) (x2 : Int32) (μ : ax_M) (v : Int32 × ax_M), k14 x1 x2 μ = some v → ax_X G l RX10 cX10_eRead 4 (some .boolean) false 5 (some (.int v.1), sh, v.2) 14 [(0, .ref (G.1 + 51)), (1, .int x1), (2, .int x2)] [] sh μ) {v : Int32 × ax_M} (h : m_X10_eRead_38 x2 k14 μ = some v) : ax_X G l RX10 cX10_eRead 4 (some .boolean) false 5 (some (.int v.1), sh, v.2) 38 [(0, .ref (G.1 + 51)), (2, .int x2)] [] sh μ := by
  unfold m_X10_eRead_38 at h
  refine ax_aload_n (pc := 38) (i := 0) (q := 0) (ax_dd KX10_eRead 22 rfl) rfl rfl ?_
  refine ax_aload_n (pc := 39) (i := 0) (q := 0) (ax_dd KX10_eRead 23 rfl) rfl rfl ?_
  refine ax_getI (pc := 40) (k := 51) (ax_dd KX10_eRead 24 rfl) f_X10_105 (hs 51 _ rfl) rfl ?_
  refine ax_iconst (pc := 43) (v := 1) (ax_dd KX10_eRead 25 rfl) (by decide) ?_
  by_cases c1 : (μ 51 20) = 1
  · rw [if_pos c1] at h
    refine ax_icmp_ne_f (pc := 44) (tgt := 57) (ax_dd KX10_eRead 26 rfl) (by decide) (fun z => z c1) ?_
    refine ax_ldc (pc := 47) (ax_dd KX10_eRead 27 rfl) c_X10_140 ?_
    refine ax_aload_n (pc := 49) (i := 0) (q := 0) (ax_dd KX10_eRead 28 rfl) rfl rfl ?_
    refine ax_getI (pc := 50) (k := 51) (ax_dd KX10_eRead 29 rfl) f_X10_108 (hs 51 _ rfl) rfl ?_
    refine ax_iadd (pc := 53) (ax_dd KX10_eRead 30 rfl) ?_
    refine ax_goto (pc := 54) (tgt := 61) (ax_dd KX10_eRead 31 rfl) (by decide) ?_
    exact a_X10_eRead_61 hs hk14 h
  · rw [if_neg c1] at h
    refine ax_icmp_ne_t (pc := 44) (tgt := 57) (ax_dd KX10_eRead 26 rfl) (by decide) c1 ?_
    refine ax_aload_n (pc := 57) (i := 0) (q := 0) (ax_dd KX10_eRead 32 rfl) rfl rfl ?_
    refine ax_getI (pc := 58) (k := 51) (ax_dd KX10_eRead 33 rfl) f_X10_108 (hs 51 _ rfl) rfl ?_
    exact a_X10_eRead_61 hs hk14 h
def m_X10_eRead_99 (x1 : Int32) (k14 : Int32 → Int32 → ax_M → Option (Int32 × ax_M)) (μ : ax_M) : Option (Int32 × ax_M) :=
  if (μ 51 20) = 45 then
    bind2 (m_X10_opensOne 19 μ) fun v2 μ4 =>
    if v2 = 0 then
      some (0, μ4)
    else
      k14 x1 0 μ4
  else
    if (μ 51 20) = 40 then
      bind2 (m_X10_opensOne 0 μ) fun v7 μ9 =>
      if v7 = 0 then
        some (0, μ9)
      else
        k14 x1 1 μ9
    else
      some (0, μ)
set_option maxRecDepth 100000 in
set_option maxHeartbeats 8000000 in
theorem a_X10_eRead_99 {G : ax_G} {l : Launch} {sh : List ax_E} {x1 : Int32} {k14 : Int32 → Int32 → ax_M → Option (Int32 × ax_M)} {μ : ax_M} (hs : ∀ (k : Nat) (e : ax_E), SHF[k]? = some e → sh[k]? = some e) (hk14 : ∀ (x1 : Int32) (x2 : Int32) (μ : ax_M) (v : Int32 × ax_M), k14 x1 x2 μ = some v → ax_X G l RX10 cX10_eRead 4 (some .boolean) false 5 (some (.int v.1), sh, v.2) 14 [(0, .ref (G.1 + 51)), (1, .int x1), (2, .int x2)] [] sh μ) {v : Int32 × ax_M} (h : m_X10_eRead_99 x1 k14 μ = some v) : ax_X G l RX10 cX10_eRead 4 (some .boolean) false 5 (some (.int v.1), sh, v.2) 99 [(0, .ref (G.1 + 51)), (1, .int x1)] [] sh μ := by
  unfold m_X10_eRead_99 at h
  refine ax_aload_n (pc := 99) (i := 0) (q := 0) (ax_dd KX10_eRead 53 rfl) rfl rfl ?_
  refine ax_getI (pc := 100) (k := 51) (ax_dd KX10_eRead 54 rfl) f_X10_105 (hs 51 _ rfl) rfl ?_
  refine ax_bipush (pc := 103) (v := 45) (ax_dd KX10_eRead 55 rfl) (by decide) ?_
  by_cases c1 : (μ 51 20) = 45
  · rw [if_pos c1] at h
    refine ax_icmp_ne_f (pc := 105) (tgt := 124) (ax_dd KX10_eRead 56 rfl) (by decide) (fun z => z c1) ?_
    refine ax_aload_n (pc := 108) (i := 0) (q := 0) (ax_dd KX10_eRead 57 rfl) rfl rfl ?_
    refine ax_bipush (pc := 109) (v := 19) (ax_dd KX10_eRead 58 rfl) (by decide) ?_
    obtain ⟨v2, μ4, b3, h⟩ := ob_bind2 h
    refine ax_kV (pc := 111) (ci := 10) (k := 51) (As := [.int 19]) (rest := []) (st1 := [.int v2]) (μ1 := μ4) (ax_dd KX10_eRead 59 rfl) (c_X10_opensOne hs b3) kV_X10_141 e_X10_opensOne (hs 51 _ rfl) cl_X10 (by decide) rfl rfl (by decide) (by decide) (Nat.le_of_ble_eq_true rfl) rfl ?_
    by_cases c5 : v2 = 0
    · rw [if_pos c5] at h
      refine ax_if_ne_f (pc := 114) (tgt := 119) (ax_dd KX10_eRead 60 rfl) (by decide) (fun z => z c5) ?_
      refine ax_iconst (pc := 117) (v := 0) (ax_dd KX10_eRead 61 rfl) (by decide) ?_
      obtain rfl := Option.some.inj h
      exact ax_ireti (pc := 118) (ax_dd KX10_eRead 62 rfl) ⟨_, rfl, rfl⟩ rfl
    · rw [if_neg c5] at h
      refine ax_if_ne_t (pc := 114) (tgt := 119) (ax_dd KX10_eRead 60 rfl) (by decide) c5 ?_
      refine ax_iconst (pc := 119) (v := 0) (ax_dd KX10_eRead 63 rfl) (by decide) ?_
      refine ax_istore_n (pc := 120) (i := 2) (lv' := [(2, .int 0), (0, .ref (G.1 + 51)), (1, .int x1)]) (ax_dd KX10_eRead 64 rfl) rfl (by decide) rfl ?_
      refine ax_goto (pc := 121) (tgt := 14) (ax_dd KX10_eRead 65 rfl) (by decide) ?_
      refine ax_sub (lv' := [(0, .ref (G.1 + 51)), (1, .int x1), (2, .int 0)]) [1, 2, 0] rfl ?_
      exact hk14 _ _ _ _ h
  · rw [if_neg c1] at h
    refine ax_icmp_ne_t (pc := 105) (tgt := 124) (ax_dd KX10_eRead 56 rfl) (by decide) c1 ?_
    refine ax_aload_n (pc := 124) (i := 0) (q := 0) (ax_dd KX10_eRead 66 rfl) rfl rfl ?_
    refine ax_getI (pc := 125) (k := 51) (ax_dd KX10_eRead 67 rfl) f_X10_105 (hs 51 _ rfl) rfl ?_
    refine ax_bipush (pc := 128) (v := 40) (ax_dd KX10_eRead 68 rfl) (by decide) ?_
    by_cases c6 : (μ 51 20) = 40
    · rw [if_pos c6] at h
      refine ax_icmp_ne_f (pc := 130) (tgt := 148) (ax_dd KX10_eRead 69 rfl) (by decide) (fun z => z c6) ?_
      refine ax_aload_n (pc := 133) (i := 0) (q := 0) (ax_dd KX10_eRead 70 rfl) rfl rfl ?_
      refine ax_iconst (pc := 134) (v := 0) (ax_dd KX10_eRead 71 rfl) (by decide) ?_
      obtain ⟨v7, μ9, b8, h⟩ := ob_bind2 h
      refine ax_kV (pc := 135) (ci := 10) (k := 51) (As := [.int 0]) (rest := []) (st1 := [.int v7]) (μ1 := μ9) (ax_dd KX10_eRead 72 rfl) (c_X10_opensOne hs b8) kV_X10_141 e_X10_opensOne (hs 51 _ rfl) cl_X10 (by decide) rfl rfl (by decide) (by decide) (Nat.le_of_ble_eq_true rfl) rfl ?_
      by_cases c10 : v7 = 0
      · rw [if_pos c10] at h
        refine ax_if_ne_f (pc := 138) (tgt := 143) (ax_dd KX10_eRead 73 rfl) (by decide) (fun z => z c10) ?_
        refine ax_iconst (pc := 141) (v := 0) (ax_dd KX10_eRead 74 rfl) (by decide) ?_
        obtain rfl := Option.some.inj h
        exact ax_ireti (pc := 142) (ax_dd KX10_eRead 75 rfl) ⟨_, rfl, rfl⟩ rfl
      · rw [if_neg c10] at h
        refine ax_if_ne_t (pc := 138) (tgt := 143) (ax_dd KX10_eRead 73 rfl) (by decide) c10 ?_
        refine ax_iconst (pc := 143) (v := 1) (ax_dd KX10_eRead 76 rfl) (by decide) ?_
        refine ax_istore_n (pc := 144) (i := 2) (lv' := [(2, .int 1), (0, .ref (G.1 + 51)), (1, .int x1)]) (ax_dd KX10_eRead 77 rfl) rfl (by decide) rfl ?_
        refine ax_goto (pc := 145) (tgt := 14) (ax_dd KX10_eRead 78 rfl) (by decide) ?_
        refine ax_sub (lv' := [(0, .ref (G.1 + 51)), (1, .int x1), (2, .int 1)]) [1, 2, 0] rfl ?_
        exact hk14 _ _ _ _ h
    · rw [if_neg c6] at h
      refine ax_icmp_ne_t (pc := 130) (tgt := 148) (ax_dd KX10_eRead 69 rfl) (by decide) c6 ?_
      refine ax_iconst (pc := 148) (v := 0) (ax_dd KX10_eRead 79 rfl) (by decide) ?_
      obtain rfl := Option.some.inj h
      exact ax_ireti (pc := 149) (ax_dd KX10_eRead 80 rfl) ⟨_, rfl, rfl⟩ rfl
def m_X10_eRead_14 : Nat → Int32 → Int32 → ax_M → Option (Int32 × ax_M)
  | 0, _, _, _ => none
  | n + 1, x1, x2, μ =>
    (m_X10_next μ).bind fun μ3 =>
    if x1 = 0 then
      if (μ3 51 20) = 59 then
        (m_X10_unwinds 1 μ3).bind fun μ8 =>
        if (μ8 51 24) = 0 then
          some (1, μ8)
        else
          some (0, μ8)
      else
        if (μ3 51 20) = 41 then
          (m_X10_unwinds 1 μ3).bind fun μ13 =>
          if (μ13 51 24) = 0 then
            some (0, μ13)
          else
            (m_X10_unwinds 7 (ax_w (ax_w μ13 51 24 ((μ13 51 24) - 1)) 51 25 (((ax_w μ13 51 24 ((μ13 51 24) - 1)) 51 25) - 1))).bind fun μ17 =>
            m_X10_eRead_14 n x1 x2 μ17
        else
          (m_X10_signOf μ3).bind fun v18 =>
          if v18 = (-1) then
            some (0, μ3)
          else
            bind2 (m_X10_between v18 μ3) fun v21 μ23 =>
            if v21 = 0 then
              some (0, μ23)
            else
              if 12 < v18 then
                m_X10_eRead_14 n 1 0 μ23
              else
                m_X10_eRead_14 n 1 1 μ23
    else
      if (μ3 51 20) = 1 then
        m_X10_eRead_38 x2 (m_X10_eRead_14 n) μ3
      else
        if (μ3 51 20) = 2 then
          m_X10_eRead_38 x2 (m_X10_eRead_14 n) μ3
        else
          if (μ3 51 20) = 6 then
            if x2 = 0 then
              m_X10_eRead_99 x1 (m_X10_eRead_14 n) μ3
            else
              bind2 (m_X10_opensOne 13 μ3) fun v30 μ32 =>
              if v30 = 0 then
                some (0, μ32)
              else
                m_X10_eRead_14 n x1 x2 μ32
          else
            m_X10_eRead_99 x1 (m_X10_eRead_14 n) μ3
set_option maxRecDepth 100000 in
set_option maxHeartbeats 8000000 in
theorem a_X10_eRead_14 {G : ax_G} {l : Launch} {sh : List ax_E} (hs : ∀ (k : Nat) (e : ax_E), SHF[k]? = some e → sh[k]? = some e) : ∀ (n : Nat) (x1 : Int32) (x2 : Int32) (μ : ax_M) (v : Int32 × ax_M), m_X10_eRead_14 n x1 x2 μ = some v → ax_X G l RX10 cX10_eRead 4 (some .boolean) false 5 (some (.int v.1), sh, v.2) 14 [(0, .ref (G.1 + 51)), (1, .int x1), (2, .int x2)] [] sh μ := by
  intro n
  induction n with
  | zero =>
    intro x1 x2 μ v h
    rw [m_X10_eRead_14] at h
    cases h
  | succ n ih =>
    intro x1 x2 μ v h
    rw [m_X10_eRead_14] at h
    refine ax_aload_n (pc := 14) (i := 0) (q := 0) (ax_dd KX10_eRead 10 rfl) rfl rfl ?_
    obtain ⟨μ3, b2, h⟩ := ob_bind h
    refine ax_kV (pc := 15) (ci := 10) (k := 51) (As := []) (rest := []) (st1 := []) (μ1 := μ3) (ax_dd KX10_eRead 11 rfl) (c_X10_next hs b2) kV_X10_137 e_X10_next (hs 51 _ rfl) cl_X10 (by decide) rfl rfl (by decide) (by decide) (Nat.le_of_ble_eq_true rfl) rfl ?_
    refine ax_iload_n (pc := 18) (i := 1) (q := 1) (ax_dd KX10_eRead 12 rfl) rfl rfl ?_
    by_cases c4 : x1 = 0
    · rw [if_pos c4] at h
      refine ax_if_eq_t (pc := 19) (tgt := 150) (ax_dd KX10_eRead 13 rfl) (by decide) c4 ?_
      refine ax_aload_n (pc := 150) (i := 0) (q := 0) (ax_dd KX10_eRead 81 rfl) rfl rfl ?_
      refine ax_getI (pc := 151) (k := 51) (ax_dd KX10_eRead 82 rfl) f_X10_105 (hs 51 _ rfl) rfl ?_
      refine ax_bipush (pc := 154) (v := 59) (ax_dd KX10_eRead 83 rfl) (by decide) ?_
      by_cases c5 : (μ3 51 20) = 59
      · rw [if_pos c5] at h
        refine ax_icmp_ne_f (pc := 156) (tgt := 177) (ax_dd KX10_eRead 84 rfl) (by decide) (fun z => z c5) ?_
        refine ax_aload_n (pc := 159) (i := 0) (q := 0) (ax_dd KX10_eRead 85 rfl) rfl rfl ?_
        refine ax_iconst (pc := 160) (v := 1) (ax_dd KX10_eRead 86 rfl) (by decide) ?_
        obtain ⟨μ8, b7, h⟩ := ob_bind h
        refine ax_kV (pc := 161) (ci := 10) (k := 51) (As := [.int 1]) (rest := []) (st1 := []) (μ1 := μ8) (ax_dd KX10_eRead 87 rfl) (c_X10_unwinds hs b7) kV_X10_134 e_X10_unwinds (hs 51 _ rfl) cl_X10 (by decide) rfl rfl (by decide) (by decide) (Nat.le_of_ble_eq_true rfl) rfl ?_
        refine ax_aload_n (pc := 164) (i := 0) (q := 0) (ax_dd KX10_eRead 88 rfl) rfl rfl ?_
        refine ax_getI (pc := 165) (k := 51) (ax_dd KX10_eRead 89 rfl) f_X10_117 (hs 51 _ rfl) rfl ?_
        by_cases c9 : (μ8 51 24) = 0
        · rw [if_pos c9] at h
          refine ax_if_ne_f (pc := 168) (tgt := 175) (ax_dd KX10_eRead 90 rfl) (by decide) (fun z => z c9) ?_
          refine ax_iconst (pc := 171) (v := 1) (ax_dd KX10_eRead 91 rfl) (by decide) ?_
          refine ax_goto (pc := 172) (tgt := 176) (ax_dd KX10_eRead 92 rfl) (by decide) ?_
          obtain rfl := Option.some.inj h
          exact ax_ireti (pc := 176) (ax_dd KX10_eRead 94 rfl) ⟨_, rfl, rfl⟩ rfl
        · rw [if_neg c9] at h
          refine ax_if_ne_t (pc := 168) (tgt := 175) (ax_dd KX10_eRead 90 rfl) (by decide) c9 ?_
          refine ax_iconst (pc := 175) (v := 0) (ax_dd KX10_eRead 93 rfl) (by decide) ?_
          obtain rfl := Option.some.inj h
          exact ax_ireti (pc := 176) (ax_dd KX10_eRead 94 rfl) ⟨_, rfl, rfl⟩ rfl
      · rw [if_neg c5] at h
        refine ax_icmp_ne_t (pc := 156) (tgt := 177) (ax_dd KX10_eRead 84 rfl) (by decide) c5 ?_
        refine ax_aload_n (pc := 177) (i := 0) (q := 0) (ax_dd KX10_eRead 95 rfl) rfl rfl ?_
        refine ax_getI (pc := 178) (k := 51) (ax_dd KX10_eRead 96 rfl) f_X10_105 (hs 51 _ rfl) rfl ?_
        refine ax_bipush (pc := 181) (v := 41) (ax_dd KX10_eRead 97 rfl) (by decide) ?_
        by_cases c10 : (μ3 51 20) = 41
        · rw [if_pos c10] at h
          refine ax_icmp_ne_f (pc := 183) (tgt := 229) (ax_dd KX10_eRead 98 rfl) (by decide) (fun z => z c10) ?_
          refine ax_aload_n (pc := 186) (i := 0) (q := 0) (ax_dd KX10_eRead 99 rfl) rfl rfl ?_
          refine ax_iconst (pc := 187) (v := 1) (ax_dd KX10_eRead 100 rfl) (by decide) ?_
          obtain ⟨μ13, b12, h⟩ := ob_bind h
          refine ax_kV (pc := 188) (ci := 10) (k := 51) (As := [.int 1]) (rest := []) (st1 := []) (μ1 := μ13) (ax_dd KX10_eRead 101 rfl) (c_X10_unwinds hs b12) kV_X10_134 e_X10_unwinds (hs 51 _ rfl) cl_X10 (by decide) rfl rfl (by decide) (by decide) (Nat.le_of_ble_eq_true rfl) rfl ?_
          refine ax_aload_n (pc := 191) (i := 0) (q := 0) (ax_dd KX10_eRead 102 rfl) rfl rfl ?_
          refine ax_getI (pc := 192) (k := 51) (ax_dd KX10_eRead 103 rfl) f_X10_117 (hs 51 _ rfl) rfl ?_
          by_cases c14 : (μ13 51 24) = 0
          · rw [if_pos c14] at h
            refine ax_if_ne_f (pc := 195) (tgt := 200) (ax_dd KX10_eRead 104 rfl) (by decide) (fun z => z c14) ?_
            refine ax_iconst (pc := 198) (v := 0) (ax_dd KX10_eRead 105 rfl) (by decide) ?_
            obtain rfl := Option.some.inj h
            exact ax_ireti (pc := 199) (ax_dd KX10_eRead 106 rfl) ⟨_, rfl, rfl⟩ rfl
          · rw [if_neg c14] at h
            refine ax_if_ne_t (pc := 195) (tgt := 200) (ax_dd KX10_eRead 104 rfl) (by decide) c14 ?_
            refine ax_aload_n (pc := 200) (i := 0) (q := 0) (ax_dd KX10_eRead 107 rfl) rfl rfl ?_
            refine ax_dup (pc := 201) (ax_dd KX10_eRead 108 rfl) rfl ?_
            refine ax_getI (pc := 202) (k := 51) (ax_dd KX10_eRead 109 rfl) f_X10_117 (hs 51 _ rfl) rfl ?_
            refine ax_iconst (pc := 205) (v := 1) (ax_dd KX10_eRead 110 rfl) (by decide) ?_
            refine ax_isub (pc := 206) (ax_dd KX10_eRead 111 rfl) ?_
            refine ax_putI (pc := 207) (k := 51) (ax_dd KX10_eRead 112 rfl) f_X10_117 ft_X10 (hs 51 _ rfl) rfl (fun _ h9 => by cases h9; rfl) rfl rfl ?_
            refine ax_aload_n (pc := 210) (i := 0) (q := 0) (ax_dd KX10_eRead 113 rfl) rfl rfl ?_
            refine ax_dup (pc := 211) (ax_dd KX10_eRead 114 rfl) rfl ?_
            refine ax_getI (pc := 212) (k := 51) (ax_dd KX10_eRead 115 rfl) f_X10_124 (hs 51 _ rfl) rfl ?_
            refine ax_iconst (pc := 215) (v := 1) (ax_dd KX10_eRead 116 rfl) (by decide) ?_
            refine ax_isub (pc := 216) (ax_dd KX10_eRead 117 rfl) ?_
            refine ax_putI (pc := 217) (k := 51) (ax_dd KX10_eRead 118 rfl) f_X10_124 ft_X10 (hs 51 _ rfl) rfl (fun _ h9 => by cases h9; rfl) rfl rfl ?_
            refine ax_aload_n (pc := 220) (i := 0) (q := 0) (ax_dd KX10_eRead 119 rfl) rfl rfl ?_
            refine ax_bipush (pc := 221) (v := 7) (ax_dd KX10_eRead 120 rfl) (by decide) ?_
            obtain ⟨μ17, b16, h⟩ := ob_bind h
            refine ax_kV (pc := 223) (ci := 10) (k := 51) (As := [.int 7]) (rest := []) (st1 := []) (μ1 := μ17) (ax_dd KX10_eRead 121 rfl) (c_X10_unwinds hs b16) kV_X10_134 e_X10_unwinds (hs 51 _ rfl) cl_X10 (by decide) rfl rfl (by decide) (by decide) (Nat.le_of_ble_eq_true rfl) rfl ?_
            refine ax_goto (pc := 226) (tgt := 14) (ax_dd KX10_eRead 122 rfl) (by decide) ?_
            exact ih _ _ _ _ h
        · rw [if_neg c10] at h
          refine ax_icmp_ne_t (pc := 183) (tgt := 229) (ax_dd KX10_eRead 98 rfl) (by decide) c10 ?_
          refine ax_aload_n (pc := 229) (i := 0) (q := 0) (ax_dd KX10_eRead 123 rfl) rfl rfl ?_
          obtain ⟨v18, b19, h⟩ := ob_bind h
          refine ax_kV (pc := 230) (ci := 10) (k := 51) (As := []) (rest := []) (st1 := [.int v18]) (μ1 := μ3) (ax_dd KX10_eRead 124 rfl) (c_X10_signOf hs b19) kV_X10_144 e_X10_signOf (hs 51 _ rfl) cl_X10 (by decide) rfl rfl (by decide) (by decide) (Nat.le_of_ble_eq_true rfl) rfl ?_
          refine ax_istore_n (pc := 233) (i := 3) (lv' := [(3, .int v18), (0, .ref (G.1 + 51)), (1, .int x1), (2, .int x2)]) (ax_dd KX10_eRead 125 rfl) rfl (by decide) rfl ?_
          refine ax_iload_n (pc := 234) (i := 3) (q := 0) (ax_dd KX10_eRead 126 rfl) rfl rfl ?_
          refine ax_iconst (pc := 235) (v := (-1)) (ax_dd KX10_eRead 127 rfl) (by decide) ?_
          by_cases c20 : v18 = (-1)
          · rw [if_pos c20] at h
            refine ax_icmp_eq_t (pc := 236) (tgt := 247) (ax_dd KX10_eRead 128 rfl) (by decide) c20 ?_
            refine ax_iconst (pc := 247) (v := 0) (ax_dd KX10_eRead 133 rfl) (by decide) ?_
            obtain rfl := Option.some.inj h
            exact ax_ireti (pc := 248) (ax_dd KX10_eRead 134 rfl) ⟨_, rfl, rfl⟩ rfl
          · rw [if_neg c20] at h
            refine ax_icmp_eq_f (pc := 236) (tgt := 247) (ax_dd KX10_eRead 128 rfl) (by decide) c20 ?_
            refine ax_aload_n (pc := 239) (i := 0) (q := 1) (ax_dd KX10_eRead 129 rfl) rfl rfl ?_
            refine ax_iload_n (pc := 240) (i := 3) (q := 0) (ax_dd KX10_eRead 130 rfl) rfl rfl ?_
            obtain ⟨v21, μ23, b22, h⟩ := ob_bind2 h
            refine ax_kV (pc := 241) (ci := 10) (k := 51) (As := [.int v18]) (rest := []) (st1 := [.int v21]) (μ1 := μ23) (ax_dd KX10_eRead 131 rfl) (c_X10_between hs b22) kV_X10_147 e_X10_between (hs 51 _ rfl) cl_X10 (by decide) rfl rfl (by decide) (by decide) (Nat.le_of_ble_eq_true rfl) rfl ?_
            by_cases c24 : v21 = 0
            · rw [if_pos c24] at h
              refine ax_if_ne_f (pc := 244) (tgt := 249) (ax_dd KX10_eRead 132 rfl) (by decide) (fun z => z c24) ?_
              refine ax_iconst (pc := 247) (v := 0) (ax_dd KX10_eRead 133 rfl) (by decide) ?_
              obtain rfl := Option.some.inj h
              exact ax_ireti (pc := 248) (ax_dd KX10_eRead 134 rfl) ⟨_, rfl, rfl⟩ rfl
            · rw [if_neg c24] at h
              refine ax_if_ne_t (pc := 244) (tgt := 249) (ax_dd KX10_eRead 132 rfl) (by decide) c24 ?_
              refine ax_iconst (pc := 249) (v := 1) (ax_dd KX10_eRead 135 rfl) (by decide) ?_
              refine ax_istore_n (pc := 250) (i := 1) (lv' := [(1, .int 1), (3, .int v18), (0, .ref (G.1 + 51)), (2, .int x2)]) (ax_dd KX10_eRead 136 rfl) rfl (by decide) rfl ?_
              refine ax_iload_n (pc := 251) (i := 3) (q := 1) (ax_dd KX10_eRead 137 rfl) rfl rfl ?_
              refine ax_bipush (pc := 252) (v := 12) (ax_dd KX10_eRead 138 rfl) (by decide) ?_
              by_cases c25 : 12 < v18
              · rw [if_pos c25] at h
                refine ax_icmp_gt_t (pc := 254) (tgt := 261) (ax_dd KX10_eRead 139 rfl) (by decide) c25 ?_
                refine ax_iconst (pc := 261) (v := 0) (ax_dd KX10_eRead 142 rfl) (by decide) ?_
                refine ax_istore_n (pc := 262) (i := 2) (lv' := [(2, .int 0), (1, .int 1), (3, .int v18), (0, .ref (G.1 + 51))]) (ax_dd KX10_eRead 143 rfl) rfl (by decide) rfl ?_
                refine ax_goto (pc := 263) (tgt := 14) (ax_dd KX10_eRead 144 rfl) (by decide) ?_
                refine ax_sub (lv' := [(0, .ref (G.1 + 51)), (1, .int 1), (2, .int 0)]) [3, 1, 0] rfl ?_
                exact ih _ _ _ _ h
              · rw [if_neg c25] at h
                refine ax_icmp_gt_f (pc := 254) (tgt := 261) (ax_dd KX10_eRead 139 rfl) (by decide) c25 ?_
                refine ax_iconst (pc := 257) (v := 1) (ax_dd KX10_eRead 140 rfl) (by decide) ?_
                refine ax_goto (pc := 258) (tgt := 262) (ax_dd KX10_eRead 141 rfl) (by decide) ?_
                refine ax_istore_n (pc := 262) (i := 2) (lv' := [(2, .int 1), (1, .int 1), (3, .int v18), (0, .ref (G.1 + 51))]) (ax_dd KX10_eRead 143 rfl) rfl (by decide) rfl ?_
                refine ax_goto (pc := 263) (tgt := 14) (ax_dd KX10_eRead 144 rfl) (by decide) ?_
                refine ax_sub (lv' := [(0, .ref (G.1 + 51)), (1, .int 1), (2, .int 1)]) [3, 1, 0] rfl ?_
                exact ih _ _ _ _ h
    · rw [if_neg c4] at h
      refine ax_if_eq_f (pc := 19) (tgt := 150) (ax_dd KX10_eRead 13 rfl) (by decide) c4 ?_
      refine ax_aload_n (pc := 22) (i := 0) (q := 0) (ax_dd KX10_eRead 14 rfl) rfl rfl ?_
      refine ax_getI (pc := 23) (k := 51) (ax_dd KX10_eRead 15 rfl) f_X10_105 (hs 51 _ rfl) rfl ?_
      refine ax_iconst (pc := 26) (v := 1) (ax_dd KX10_eRead 16 rfl) (by decide) ?_
      by_cases c26 : (μ3 51 20) = 1
      · rw [if_pos c26] at h
        refine ax_icmp_eq_t (pc := 27) (tgt := 38) (ax_dd KX10_eRead 17 rfl) (by decide) c26 ?_
        refine ax_sub (lv' := [(0, .ref (G.1 + 51)), (2, .int x2)]) [0, 2] rfl ?_
        exact a_X10_eRead_38 hs ih h
      · rw [if_neg c26] at h
        refine ax_icmp_eq_f (pc := 27) (tgt := 38) (ax_dd KX10_eRead 17 rfl) (by decide) c26 ?_
        refine ax_aload_n (pc := 30) (i := 0) (q := 0) (ax_dd KX10_eRead 18 rfl) rfl rfl ?_
        refine ax_getI (pc := 31) (k := 51) (ax_dd KX10_eRead 19 rfl) f_X10_105 (hs 51 _ rfl) rfl ?_
        refine ax_iconst (pc := 34) (v := 2) (ax_dd KX10_eRead 20 rfl) (by decide) ?_
        by_cases c27 : (μ3 51 20) = 2
        · rw [if_pos c27] at h
          refine ax_icmp_ne_f (pc := 35) (tgt := 75) (ax_dd KX10_eRead 21 rfl) (by decide) (fun z => z c27) ?_
          refine ax_sub (lv' := [(0, .ref (G.1 + 51)), (2, .int x2)]) [0, 2] rfl ?_
          exact a_X10_eRead_38 hs ih h
        · rw [if_neg c27] at h
          refine ax_icmp_ne_t (pc := 35) (tgt := 75) (ax_dd KX10_eRead 21 rfl) (by decide) c27 ?_
          refine ax_aload_n (pc := 75) (i := 0) (q := 0) (ax_dd KX10_eRead 41 rfl) rfl rfl ?_
          refine ax_getI (pc := 76) (k := 51) (ax_dd KX10_eRead 42 rfl) f_X10_105 (hs 51 _ rfl) rfl ?_
          refine ax_bipush (pc := 79) (v := 6) (ax_dd KX10_eRead 43 rfl) (by decide) ?_
          by_cases c28 : (μ3 51 20) = 6
          · rw [if_pos c28] at h
            refine ax_icmp_ne_f (pc := 81) (tgt := 99) (ax_dd KX10_eRead 44 rfl) (by decide) (fun z => z c28) ?_
            refine ax_iload_n (pc := 84) (i := 2) (q := 2) (ax_dd KX10_eRead 45 rfl) rfl rfl ?_
            by_cases c29 : x2 = 0
            · rw [if_pos c29] at h
              refine ax_if_eq_t (pc := 85) (tgt := 99) (ax_dd KX10_eRead 46 rfl) (by decide) c29 ?_
              refine ax_sub (lv' := [(0, .ref (G.1 + 51)), (1, .int x1)]) [0, 1] rfl ?_
              exact a_X10_eRead_99 hs ih h
            · rw [if_neg c29] at h
              refine ax_if_eq_f (pc := 85) (tgt := 99) (ax_dd KX10_eRead 46 rfl) (by decide) c29 ?_
              refine ax_aload_n (pc := 88) (i := 0) (q := 0) (ax_dd KX10_eRead 47 rfl) rfl rfl ?_
              refine ax_bipush (pc := 89) (v := 13) (ax_dd KX10_eRead 48 rfl) (by decide) ?_
              obtain ⟨v30, μ32, b31, h⟩ := ob_bind2 h
              refine ax_kV (pc := 91) (ci := 10) (k := 51) (As := [.int 13]) (rest := []) (st1 := [.int v30]) (μ1 := μ32) (ax_dd KX10_eRead 49 rfl) (c_X10_opensOne hs b31) kV_X10_141 e_X10_opensOne (hs 51 _ rfl) cl_X10 (by decide) rfl rfl (by decide) (by decide) (Nat.le_of_ble_eq_true rfl) rfl ?_
              by_cases c33 : v30 = 0
              · rw [if_pos c33] at h
                refine ax_if_ne_f (pc := 94) (tgt := 14) (ax_dd KX10_eRead 50 rfl) (by decide) (fun z => z c33) ?_
                refine ax_iconst (pc := 97) (v := 0) (ax_dd KX10_eRead 51 rfl) (by decide) ?_
                obtain rfl := Option.some.inj h
                exact ax_ireti (pc := 98) (ax_dd KX10_eRead 52 rfl) ⟨_, rfl, rfl⟩ rfl
              · rw [if_neg c33] at h
                refine ax_if_ne_t (pc := 94) (tgt := 14) (ax_dd KX10_eRead 50 rfl) (by decide) c33 ?_
                exact ih _ _ _ _ h
          · rw [if_neg c28] at h
            refine ax_icmp_ne_t (pc := 81) (tgt := 99) (ax_dd KX10_eRead 44 rfl) (by decide) c28 ?_
            refine ax_sub (lv' := [(0, .ref (G.1 + 51)), (1, .int x1)]) [0, 1] rfl ?_
            exact a_X10_eRead_99 hs ih h
def m_X10_eRead (μ : ax_M) : Option (Int32 × ax_M) :=
  m_X10_eRead_14 fu 1 1 (ax_w (ax_w μ 51 24 0) 51 25 0)
set_option maxRecDepth 100000 in
set_option maxHeartbeats 8000000 in
theorem c_X10_eRead {G : ax_G} {l : Launch} {sh : List ax_E} {μ : ax_M} (hs : ∀ (k : Nat) (e : ax_E), SHF[k]? = some e → sh[k]? = some e) {v : Int32 × ax_M} (h : m_X10_eRead μ = some v) : ax_A G l yX10_eRead cX10_eRead 4 (some .boolean) 5 [.ref (G.1 + 51)] sh μ (some (.int v.1), sh, v.2) := by
  refine ax_A.of false (by decide +kernel) (fun h9 => by cases h9) (Nat.le_of_ble_eq_true rfl) (?_ : ax_X G l RX10 cX10_eRead 4 (some .boolean) false 5 (some (.int v.1), sh, v.2) 0 [(0, .ref (G.1 + 51))] [] sh μ)
  unfold m_X10_eRead at h
  refine ax_aload_n (pc := 0) (i := 0) (q := 0) (ax_dd KX10_eRead 0 rfl) rfl rfl ?_
  refine ax_iconst (pc := 1) (v := 0) (ax_dd KX10_eRead 1 rfl) (by decide) ?_
  refine ax_putI (pc := 2) (k := 51) (ax_dd KX10_eRead 2 rfl) f_X10_117 ft_X10 (hs 51 _ rfl) rfl (fun _ h9 => by cases h9; rfl) rfl rfl ?_
  refine ax_aload_n (pc := 5) (i := 0) (q := 0) (ax_dd KX10_eRead 3 rfl) rfl rfl ?_
  refine ax_iconst (pc := 6) (v := 0) (ax_dd KX10_eRead 4 rfl) (by decide) ?_
  refine ax_putI (pc := 7) (k := 51) (ax_dd KX10_eRead 5 rfl) f_X10_124 ft_X10 (hs 51 _ rfl) rfl (fun _ h9 => by cases h9; rfl) rfl rfl ?_
  refine ax_iconst (pc := 10) (v := 1) (ax_dd KX10_eRead 6 rfl) (by decide) ?_
  refine ax_istore_n (pc := 11) (i := 1) (lv' := [(1, .int 1), (0, .ref (G.1 + 51))]) (ax_dd KX10_eRead 7 rfl) rfl (by decide) rfl ?_
  refine ax_iconst (pc := 12) (v := 1) (ax_dd KX10_eRead 8 rfl) (by decide) ?_
  refine ax_istore_n (pc := 13) (i := 2) (lv' := [(2, .int 1), (1, .int 1), (0, .ref (G.1 + 51))]) (ax_dd KX10_eRead 9 rfl) rfl (by decide) rfl ?_
  refine ax_sub (lv' := [(0, .ref (G.1 + 51)), (1, .int 1), (2, .int 1)]) [2, 1, 0] rfl ?_
  exact a_X10_eRead_14 hs fu _ _ _ _ h
def m_X10_text_122 (x1 : Int32) (μ : ax_M) : Option (Int32 × ax_M) :=
  (ix 24 (((4 : Int32) * (μ 51 9)) + 3)).bind fun j1 =>
  if x1 = 0 then
    some (((-100 : Int32) - ((ax_w (ax_w μ 57 j1 (μ 51 26)) 51 6 0) 51 19)), ax_w (ax_w μ 57 j1 (μ 51 26)) 51 6 0)
  else
    some ((((ax_w (ax_w (ax_w μ 57 j1 (μ 51 26)) 51 6 0) 51 9 (((ax_w (ax_w μ 57 j1 (μ 51 26)) 51 6 0) 51 9) + 1)) 51 9) - 1), ax_w (ax_w (ax_w μ 57 j1 (μ 51 26)) 51 6 0) 51 9 (((ax_w (ax_w μ 57 j1 (μ 51 26)) 51 6 0) 51 9) + 1))
set_option maxRecDepth 100000 in
set_option maxHeartbeats 8000000 in
theorem a_X10_text_122 {G : ax_G} {l : Launch} {sh : List ax_E} {x1 : Int32} {μ : ax_M} (hs : ∀ (k : Nat) (e : ax_E), SHF[k]? = some e → sh[k]? = some e) {v : Int32 × ax_M} (h : m_X10_text_122 x1 μ = some v) : ax_X G l RX10 cX10_text 3 (some .int) false 6 (some (.int v.1), sh, v.2) 122 [(0, .ref (G.1 + 51)), (1, .int x1)] [] sh μ := by
  unfold m_X10_text_122 at h
  refine ax_aload_n (pc := 122) (i := 0) (q := 0) (ax_dd KX10_text 68 rfl) rfl rfl ?_
  refine ax_getR (pc := 123) (k := 51) (q := 57) (ax_dd KX10_text 69 rfl) f_X10_29 (hs 51 _ rfl) rfl ?_
  refine ax_iconst (pc := 126) (v := 4) (ax_dd KX10_text 70 rfl) (by decide) ?_
  refine ax_aload_n (pc := 127) (i := 0) (q := 0) (ax_dd KX10_text 71 rfl) rfl rfl ?_
  refine ax_getI (pc := 128) (k := 51) (ax_dd KX10_text 72 rfl) f_X10_89 (hs 51 _ rfl) rfl ?_
  refine ax_imul (pc := 131) (ax_dd KX10_text 73 rfl) ?_
  refine ax_iconst (pc := 132) (v := 3) (ax_dd KX10_text 74 rfl) (by decide) ?_
  refine ax_iadd (pc := 133) (ax_dd KX10_text 75 rfl) ?_
  refine ax_aload_n (pc := 134) (i := 0) (q := 0) (ax_dd KX10_text 76 rfl) rfl rfl ?_
  refine ax_getI (pc := 135) (k := 51) (ax_dd KX10_text 77 rfl) f_X10_114 (hs 51 _ rfl) rfl ?_
  obtain ⟨j1, b2, h⟩ := ob_bind h
  refine ax_ist (pc := 138) (k := 57) (N := 24) (j := j1) (ax_dd KX10_text 78 rfl) (hs 57 _ rfl) b2 ?_
  refine ax_aload_n (pc := 139) (i := 0) (q := 0) (ax_dd KX10_text 79 rfl) rfl rfl ?_
  refine ax_iconst (pc := 140) (v := 0) (ax_dd KX10_text 80 rfl) (by decide) ?_
  refine ax_putI (pc := 141) (k := 51) (ax_dd KX10_text 81 rfl) f_X10_71 ft_X10 (hs 51 _ rfl) rfl (fun _ h9 => by cases h9; rfl) rfl rfl ?_
  refine ax_iload_n (pc := 144) (i := 1) (q := 1) (ax_dd KX10_text 82 rfl) rfl rfl ?_
  by_cases c3 : x1 = 0
  · rw [if_pos c3] at h
    refine ax_if_ne_f (pc := 145) (tgt := 156) (ax_dd KX10_text 83 rfl) (by decide) (fun z => z c3) ?_
    refine ax_bipush (pc := 148) (v := (-100)) (ax_dd KX10_text 84 rfl) (by decide) ?_
    refine ax_aload_n (pc := 150) (i := 0) (q := 0) (ax_dd KX10_text 85 rfl) rfl rfl ?_
    refine ax_getI (pc := 151) (k := 51) (ax_dd KX10_text 86 rfl) f_X10_102 (hs 51 _ rfl) rfl ?_
    refine ax_isub (pc := 154) (ax_dd KX10_text 87 rfl) ?_
    obtain rfl := Option.some.inj h
    exact ax_ireti (pc := 155) (ax_dd KX10_text 88 rfl) ⟨_, rfl, rfl⟩ rfl
  · rw [if_neg c3] at h
    refine ax_if_ne_t (pc := 145) (tgt := 156) (ax_dd KX10_text 83 rfl) (by decide) c3 ?_
    refine ax_aload_n (pc := 156) (i := 0) (q := 0) (ax_dd KX10_text 89 rfl) rfl rfl ?_
    refine ax_dup (pc := 157) (ax_dd KX10_text 90 rfl) rfl ?_
    refine ax_getI (pc := 158) (k := 51) (ax_dd KX10_text 91 rfl) f_X10_89 (hs 51 _ rfl) rfl ?_
    refine ax_iconst (pc := 161) (v := 1) (ax_dd KX10_text 92 rfl) (by decide) ?_
    refine ax_iadd (pc := 162) (ax_dd KX10_text 93 rfl) ?_
    refine ax_putI (pc := 163) (k := 51) (ax_dd KX10_text 94 rfl) f_X10_89 ft_X10 (hs 51 _ rfl) rfl (fun _ h9 => by cases h9; rfl) rfl rfl ?_
    refine ax_aload_n (pc := 166) (i := 0) (q := 0) (ax_dd KX10_text 95 rfl) rfl rfl ?_
    refine ax_getI (pc := 167) (k := 51) (ax_dd KX10_text 96 rfl) f_X10_89 (hs 51 _ rfl) rfl ?_
    refine ax_iconst (pc := 170) (v := 1) (ax_dd KX10_text 97 rfl) (by decide) ?_
    refine ax_isub (pc := 171) (ax_dd KX10_text 98 rfl) ?_
    obtain rfl := Option.some.inj h
    exact ax_ireti (pc := 172) (ax_dd KX10_text 99 rfl) ⟨_, rfl, rfl⟩ rfl
def m_X10_text_101 (x1 : Int32) (μ : ax_M) : Option (Int32 × ax_M) :=
  if x1 = 0 then
    m_X10_text_122 x1 μ
  else
    (m_X10_next μ).bind fun μ4 =>
    if (μ4 51 20) = 0 then
      m_X10_text_122 1 μ4
    else
      m_X10_text_122 0 μ4
set_option maxRecDepth 100000 in
set_option maxHeartbeats 8000000 in
theorem a_X10_text_101 {G : ax_G} {l : Launch} {sh : List ax_E} {x1 : Int32} {μ : ax_M} (hs : ∀ (k : Nat) (e : ax_E), SHF[k]? = some e → sh[k]? = some e) {v : Int32 × ax_M} (h : m_X10_text_101 x1 μ = some v) : ax_X G l RX10 cX10_text 3 (some .int) false 6 (some (.int v.1), sh, v.2) 101 [(0, .ref (G.1 + 51)), (1, .int x1)] [] sh μ := by
  unfold m_X10_text_101 at h
  refine ax_iload_n (pc := 101) (i := 1) (q := 1) (ax_dd KX10_text 57 rfl) rfl rfl ?_
  by_cases c1 : x1 = 0
  · rw [if_pos c1] at h
    refine ax_if_eq_t (pc := 102) (tgt := 122) (ax_dd KX10_text 58 rfl) (by decide) c1 ?_
    exact a_X10_text_122 hs h
  · rw [if_neg c1] at h
    refine ax_if_eq_f (pc := 102) (tgt := 122) (ax_dd KX10_text 58 rfl) (by decide) c1 ?_
    refine ax_aload_n (pc := 105) (i := 0) (q := 0) (ax_dd KX10_text 59 rfl) rfl rfl ?_
    obtain ⟨μ4, b3, h⟩ := ob_bind h
    refine ax_kV (pc := 106) (ci := 10) (k := 51) (As := []) (rest := []) (st1 := []) (μ1 := μ4) (ax_dd KX10_text 60 rfl) (c_X10_next hs b3) kV_X10_137 e_X10_next (hs 51 _ rfl) cl_X10 (by decide) rfl rfl (by decide) (by decide) (Nat.le_of_ble_eq_true rfl) rfl ?_
    refine ax_aload_n (pc := 109) (i := 0) (q := 0) (ax_dd KX10_text 61 rfl) rfl rfl ?_
    refine ax_getI (pc := 110) (k := 51) (ax_dd KX10_text 62 rfl) f_X10_105 (hs 51 _ rfl) rfl ?_
    by_cases c5 : (μ4 51 20) = 0
    · rw [if_pos c5] at h
      refine ax_if_ne_f (pc := 113) (tgt := 120) (ax_dd KX10_text 63 rfl) (by decide) (fun z => z c5) ?_
      refine ax_iconst (pc := 116) (v := 1) (ax_dd KX10_text 64 rfl) (by decide) ?_
      refine ax_goto (pc := 117) (tgt := 121) (ax_dd KX10_text 65 rfl) (by decide) ?_
      refine ax_istore_n (pc := 121) (i := 1) (lv' := [(1, .int 1), (0, .ref (G.1 + 51))]) (ax_dd KX10_text 67 rfl) rfl (by decide) rfl ?_
      refine ax_sub (lv' := [(0, .ref (G.1 + 51)), (1, .int 1)]) [1, 0] rfl ?_
      exact a_X10_text_122 hs h
    · rw [if_neg c5] at h
      refine ax_if_ne_t (pc := 113) (tgt := 120) (ax_dd KX10_text 63 rfl) (by decide) c5 ?_
      refine ax_iconst (pc := 120) (v := 0) (ax_dd KX10_text 66 rfl) (by decide) ?_
      refine ax_istore_n (pc := 121) (i := 1) (lv' := [(1, .int 0), (0, .ref (G.1 + 51))]) (ax_dd KX10_text 67 rfl) rfl (by decide) rfl ?_
      refine ax_sub (lv' := [(0, .ref (G.1 + 51)), (1, .int 0)]) [1, 0] rfl ?_
      exact a_X10_text_122 hs h
def m_X10_text_60 (x2 : Int32) (s0 : Int32) (k26 : Int32 → Int32 → ax_M → Option (Int32 × ax_M)) (μ : ax_M) : Option (Int32 × ax_M) :=
  (ix 24 (((4 : Int32) * (μ 51 9)) + x2)).bind fun j1 =>
  if s0 = 0 then
    k26 0 (x2 + 1) (ax_w μ 57 j1 (μ 51 26))
  else
    bind2 (m_X10_eRead (ax_w μ 57 j1 (μ 51 26))) fun v4 μ6 =>
    if v4 = 0 then
      k26 0 (x2 + 1) μ6
    else
      k26 1 (x2 + 1) μ6
set_option maxRecDepth 100000 in
set_option maxHeartbeats 8000000 in
theorem a_X10_text_60 {G : ax_G} {l : Launch} {sh : List ax_E} {x2 : Int32} {s0 : Int32} {k26 : Int32 → Int32 → ax_M → Option (Int32 × ax_M)} {μ : ax_M} (hs : ∀ (k : Nat) (e : ax_E), SHF[k]? = some e → sh[k]? = some e) (hk26 : ∀ (x1 : Int32) (x2 : Int32) (μ : ax_M) (v : Int32 × ax_M), k26 x1 x2 μ = some v → ax_X G l RX10 cX10_text 3 (some .int) false 6 (some (.int v.1), sh, v.2) 26 [(0, .ref (G.1 + 51)), (1, .int x1), (2, .int x2)] [] sh μ) {v : Int32 × ax_M} (h : m_X10_text_60 x2 s0 k26 μ = some v) : ax_X G l RX10 cX10_text 3 (some .int) false 6 (some (.int v.1), sh, v.2) 60 [(0, .ref (G.1 + 51)), (2, .int x2)] [.int s0] sh μ := by
  unfold m_X10_text_60 at h
  refine ax_istore_n (pc := 60) (i := 1) (lv' := [(1, .int s0), (0, .ref (G.1 + 51)), (2, .int x2)]) (ax_dd KX10_text 34 rfl) rfl (by decide) rfl ?_
  refine ax_aload_n (pc := 61) (i := 0) (q := 1) (ax_dd KX10_text 35 rfl) rfl rfl ?_
  refine ax_getR (pc := 62) (k := 51) (q := 57) (ax_dd KX10_text 36 rfl) f_X10_29 (hs 51 _ rfl) rfl ?_
  refine ax_iconst (pc := 65) (v := 4) (ax_dd KX10_text 37 rfl) (by decide) ?_
  refine ax_aload_n (pc := 66) (i := 0) (q := 1) (ax_dd KX10_text 38 rfl) rfl rfl ?_
  refine ax_getI (pc := 67) (k := 51) (ax_dd KX10_text 39 rfl) f_X10_89 (hs 51 _ rfl) rfl ?_
  refine ax_imul (pc := 70) (ax_dd KX10_text 40 rfl) ?_
  refine ax_iload_n (pc := 71) (i := 2) (q := 2) (ax_dd KX10_text 41 rfl) rfl rfl ?_
  refine ax_iadd (pc := 72) (ax_dd KX10_text 42 rfl) ?_
  refine ax_aload_n (pc := 73) (i := 0) (q := 1) (ax_dd KX10_text 43 rfl) rfl rfl ?_
  refine ax_getI (pc := 74) (k := 51) (ax_dd KX10_text 44 rfl) f_X10_114 (hs 51 _ rfl) rfl ?_
  obtain ⟨j1, b2, h⟩ := ob_bind h
  refine ax_ist (pc := 77) (k := 57) (N := 24) (j := j1) (ax_dd KX10_text 45 rfl) (hs 57 _ rfl) b2 ?_
  refine ax_iload_n (pc := 78) (i := 1) (q := 0) (ax_dd KX10_text 46 rfl) rfl rfl ?_
  by_cases c3 : s0 = 0
  · rw [if_pos c3] at h
    refine ax_if_eq_t (pc := 79) (tgt := 93) (ax_dd KX10_text 47 rfl) (by decide) c3 ?_
    refine ax_iconst (pc := 93) (v := 0) (ax_dd KX10_text 53 rfl) (by decide) ?_
    refine ax_istore_n (pc := 94) (i := 1) (lv' := [(1, .int 0), (0, .ref (G.1 + 51)), (2, .int x2)]) (ax_dd KX10_text 54 rfl) rfl (by decide) rfl ?_
    refine ax_iinc (pc := 95) (q := 2) (v := (x2 + 1)) (lv' := [(2, .int (x2 + 1)), (1, .int 0), (0, .ref (G.1 + 51))]) (ax_dd KX10_text 55 rfl) rfl rfl (by decide) rfl ?_
    refine ax_goto (pc := 98) (tgt := 26) (ax_dd KX10_text 56 rfl) (by decide) ?_
    refine ax_sub (lv' := [(0, .ref (G.1 + 51)), (1, .int 0), (2, .int (x2 + 1))]) [2, 1, 0] rfl ?_
    exact hk26 _ _ _ _ h
  · rw [if_neg c3] at h
    refine ax_if_eq_f (pc := 79) (tgt := 93) (ax_dd KX10_text 47 rfl) (by decide) c3 ?_
    refine ax_aload_n (pc := 82) (i := 0) (q := 1) (ax_dd KX10_text 48 rfl) rfl rfl ?_
    obtain ⟨v4, μ6, b5, h⟩ := ob_bind2 h
    refine ax_kV (pc := 83) (ci := 10) (k := 51) (As := []) (rest := []) (st1 := [.int v4]) (μ1 := μ6) (ax_dd KX10_text 49 rfl) (c_X10_eRead hs b5) kV_X10_150 e_X10_eRead (hs 51 _ rfl) cl_X10 (by decide) rfl rfl (by decide) (by decide) (Nat.le_of_ble_eq_true rfl) rfl ?_
    by_cases c7 : v4 = 0
    · rw [if_pos c7] at h
      refine ax_if_eq_t (pc := 86) (tgt := 93) (ax_dd KX10_text 50 rfl) (by decide) c7 ?_
      refine ax_iconst (pc := 93) (v := 0) (ax_dd KX10_text 53 rfl) (by decide) ?_
      refine ax_istore_n (pc := 94) (i := 1) (lv' := [(1, .int 0), (0, .ref (G.1 + 51)), (2, .int x2)]) (ax_dd KX10_text 54 rfl) rfl (by decide) rfl ?_
      refine ax_iinc (pc := 95) (q := 2) (v := (x2 + 1)) (lv' := [(2, .int (x2 + 1)), (1, .int 0), (0, .ref (G.1 + 51))]) (ax_dd KX10_text 55 rfl) rfl rfl (by decide) rfl ?_
      refine ax_goto (pc := 98) (tgt := 26) (ax_dd KX10_text 56 rfl) (by decide) ?_
      refine ax_sub (lv' := [(0, .ref (G.1 + 51)), (1, .int 0), (2, .int (x2 + 1))]) [2, 1, 0] rfl ?_
      exact hk26 _ _ _ _ h
    · rw [if_neg c7] at h
      refine ax_if_eq_f (pc := 86) (tgt := 93) (ax_dd KX10_text 50 rfl) (by decide) c7 ?_
      refine ax_iconst (pc := 89) (v := 1) (ax_dd KX10_text 51 rfl) (by decide) ?_
      refine ax_goto (pc := 90) (tgt := 94) (ax_dd KX10_text 52 rfl) (by decide) ?_
      refine ax_istore_n (pc := 94) (i := 1) (lv' := [(1, .int 1), (0, .ref (G.1 + 51)), (2, .int x2)]) (ax_dd KX10_text 54 rfl) rfl (by decide) rfl ?_
      refine ax_iinc (pc := 95) (q := 2) (v := (x2 + 1)) (lv' := [(2, .int (x2 + 1)), (1, .int 1), (0, .ref (G.1 + 51))]) (ax_dd KX10_text 55 rfl) rfl rfl (by decide) rfl ?_
      refine ax_goto (pc := 98) (tgt := 26) (ax_dd KX10_text 56 rfl) (by decide) ?_
      refine ax_sub (lv' := [(0, .ref (G.1 + 51)), (1, .int 1), (2, .int (x2 + 1))]) [2, 1, 0] rfl ?_
      exact hk26 _ _ _ _ h
