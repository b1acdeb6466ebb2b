def m_X10_in (x0 : Int32) (x1 : Int32) (x2 : Int32) (μ : ax_M) : Option (Int32) :=
  if x0 < x1 then
    some 0
  else
    if x2 < x0 then
      some 0
    else
      some 1
set_option maxRecDepth 100000 in
set_option maxHeartbeats 8000000 in
theorem c_X10_in {G : ax_G} {l : Launch} {sh : List ax_E} {x0 : Int32} {x1 : Int32} {x2 : Int32} {μ : ax_M} (hs : ∀ (k : Nat) (e : ax_E), SHF[k]? = some e → sh[k]? = some e) {v : Int32} (h : m_X10_in x0 x1 x2 μ = some v) : ax_A G l yX10_in cX10_in 3 (some .boolean) 2 [.int x0, .int x1, .int x2] sh μ (some (.int v), sh, μ) := by
  refine ax_A.of false (by decide +kernel) (fun h9 => by cases h9) (Nat.le_of_ble_eq_true rfl) (?_ : ax_X G l RX10 cX10_in 3 (some .boolean) false 2 (some (.int v), sh, μ) 0 [(0, .int x0), (1, .int x1), (2, .int x2)] [] sh μ)
  unfold m_X10_in at h
  refine ax_iload_n (pc := 0) (i := 0) (q := 0) (ax_dd KX10_in 0 rfl) rfl rfl ?_
  refine ax_iload_n (pc := 1) (i := 1) (q := 1) (ax_dd KX10_in 1 rfl) rfl rfl ?_
  by_cases c1 : x0 < x1
  · rw [if_pos c1] at h
    refine ax_icmp_lt_t (pc := 2) (tgt := 14) (ax_dd KX10_in 2 rfl) (by decide) c1 ?_
    refine ax_iconst (pc := 14) (v := 0) (ax_dd KX10_in 8 rfl) (by decide) ?_
    obtain rfl := Option.some.inj h
    exact ax_ireti (pc := 15) (ax_dd KX10_in 9 rfl) ⟨_, rfl, rfl⟩ rfl
  · rw [if_neg c1] at h
    refine ax_icmp_lt_f (pc := 2) (tgt := 14) (ax_dd KX10_in 2 rfl) (by decide) c1 ?_
    refine ax_iload_n (pc := 5) (i := 0) (q := 0) (ax_dd KX10_in 3 rfl) rfl rfl ?_
    refine ax_iload_n (pc := 6) (i := 2) (q := 2) (ax_dd KX10_in 4 rfl) rfl rfl ?_
    by_cases c2 : x2 < x0
    · rw [if_pos c2] at h
      refine ax_icmp_gt_t (pc := 7) (tgt := 14) (ax_dd KX10_in 5 rfl) (by decide) c2 ?_
      refine ax_iconst (pc := 14) (v := 0) (ax_dd KX10_in 8 rfl) (by decide) ?_
      obtain rfl := Option.some.inj h
      exact ax_ireti (pc := 15) (ax_dd KX10_in 9 rfl) ⟨_, rfl, rfl⟩ rfl
    · rw [if_neg c2] at h
      refine ax_icmp_gt_f (pc := 7) (tgt := 14) (ax_dd KX10_in 5 rfl) (by decide) c2 ?_
      refine ax_iconst (pc := 10) (v := 1) (ax_dd KX10_in 6 rfl) (by decide) ?_
      refine ax_goto (pc := 11) (tgt := 15) (ax_dd KX10_in 7 rfl) (by decide) ?_
      obtain rfl := Option.some.inj h
      exact ax_ireti (pc := 15) (ax_dd KX10_in 9 rfl) ⟨_, rfl, rfl⟩ rfl
def m_X10_wordFrom_88 (x1 : Int32) (x2 : Int32) (x3 : Int32) (x4 : Int32) (k2 : Int32 → Option (Int32)) (μ : ax_M) : Option (Int32) :=
  if x4 = 0 then
    k2 (x3 + 1)
  else
    some x3
set_option maxRecDepth 100000 in
set_option maxHeartbeats 8000000 in
theorem a_X10_wordFrom_88 {G : ax_G} {l : Launch} {sh : List ax_E} {x1 : Int32} {x2 : Int32} {x3 : Int32} {x4 : Int32} {k2 : Int32 → Option (Int32)} {μ : ax_M} (hs : ∀ (k : Nat) (e : ax_E), SHF[k]? = some e → sh[k]? = some e) (hk2 : ∀ (x3 : Int32) (v : Int32), k2 x3 = some v → ax_X G l RX10 cX10_wordFrom 6 (some .int) false 2 (some (.int v), sh, μ) 2 [(0, .ref (G.1 + 51)), (1, .int x1), (2, .int x2), (3, .int x3)] [] sh μ) {v : Int32} (h : m_X10_wordFrom_88 x1 x2 x3 x4 k2 μ = some v) : ax_X G l RX10 cX10_wordFrom 6 (some .int) false 2 (some (.int v), sh, μ) 88 [(0, .ref (G.1 + 51)), (1, .int x1), (2, .int x2), (3, .int x3), (4, .int x4)] [] sh μ := by
  unfold m_X10_wordFrom_88 at h
  refine ax_iload (pc := 88) (q := 4) (ax_dd KX10_wordFrom 49 rfl) rfl ?_
  by_cases c1 : x4 = 0
  · rw [if_pos c1] at h
    refine ax_if_eq_t (pc := 90) (tgt := 95) (ax_dd KX10_wordFrom 50 rfl) (by decide) c1 ?_
    refine ax_iinc (pc := 95) (q := 3) (v := (x3 + 1)) (lv' := [(3, .int (x3 + 1)), (0, .ref (G.1 + 51)), (1, .int x1), (2, .int x2), (4, .int x4)]) (ax_dd KX10_wordFrom 53 rfl) rfl rfl (by decide) rfl ?_
    refine ax_goto (pc := 98) (tgt := 2) (ax_dd KX10_wordFrom 54 rfl) (by decide) ?_
    refine ax_sub (lv' := [(0, .ref (G.1 + 51)), (1, .int x1), (2, .int x2), (3, .int (x3 + 1))]) [1, 2, 3, 0] rfl ?_
    exact hk2 _ _ h
  · rw [if_neg c1] at h
    refine ax_if_eq_f (pc := 90) (tgt := 95) (ax_dd KX10_wordFrom 50 rfl) (by decide) c1 ?_
    refine ax_iload_n (pc := 93) (i := 3) (q := 3) (ax_dd KX10_wordFrom 51 rfl) rfl rfl ?_
    obtain rfl := Option.some.inj h
    exact ax_ireti (pc := 94) (ax_dd KX10_wordFrom 52 rfl) ⟨_, rfl, rfl⟩ rfl
def m_X10_wordFrom_72 (x1 : Int32) (x2 : Int32) (x3 : Int32) (x5 : Int32) (s0 : Int32) (s1 : Int32) (k26 : Int32 → Int32 → Option (Int32)) (μ : ax_M) : Option (Int32) :=
  if s0 = s1 then
    k26 1 (x5 + 1)
  else
    k26 0 (x5 + 1)
set_option maxRecDepth 100000 in
set_option maxHeartbeats 8000000 in
theorem a_X10_wordFrom_72 {G : ax_G} {l : Launch} {sh : List ax_E} {x1 : Int32} {x2 : Int32} {x3 : Int32} {x5 : Int32} {s0 : Int32} {s1 : Int32} {k26 : Int32 → Int32 → Option (Int32)} {μ : ax_M} (hs : ∀ (k : Nat) (e : ax_E), SHF[k]? = some e → sh[k]? = some e) (hk26 : ∀ (x4 : Int32) (x5 : Int32) (v : Int32), k26 x4 x5 = some v → ax_X G l RX10 cX10_wordFrom 6 (some .int) false 2 (some (.int v), sh, μ) 26 [(0, .ref (G.1 + 51)), (1, .int x1), (2, .int x2), (3, .int x3), (4, .int x4), (5, .int x5)] [] sh μ) {v : Int32} (h : m_X10_wordFrom_72 x1 x2 x3 x5 s0 s1 k26 μ = some v) : ax_X G l RX10 cX10_wordFrom 6 (some .int) false 2 (some (.int v), sh, μ) 72 [(0, .ref (G.1 + 51)), (1, .int x1), (2, .int x2), (3, .int x3), (5, .int x5)] [.int s1, .int s0] sh μ := by
  unfold m_X10_wordFrom_72 at h
  by_cases c1 : s0 = s1
  · rw [if_pos c1] at h
    refine ax_icmp_ne_f (pc := 72) (tgt := 79) (ax_dd KX10_wordFrom 42 rfl) (by decide) (fun z => z c1) ?_
    refine ax_iconst (pc := 75) (v := 1) (ax_dd KX10_wordFrom 43 rfl) (by decide) ?_
    refine ax_goto (pc := 76) (tgt := 80) (ax_dd KX10_wordFrom 44 rfl) (by decide) ?_
    refine ax_istore (pc := 80) (lv' := [(4, .int 1), (0, .ref (G.1 + 51)), (1, .int x1), (2, .int x2), (3, .int x3), (5, .int x5)]) (ax_dd KX10_wordFrom 46 rfl) (by decide) rfl ?_
    refine ax_iinc (pc := 82) (q := 5) (v := (x5 + 1)) (lv' := [(5, .int (x5 + 1)), (4, .int 1), (0, .ref (G.1 + 51)), (1, .int x1), (2, .int x2), (3, .int x3)]) (ax_dd KX10_wordFrom 47 rfl) rfl rfl (by decide) rfl ?_
    refine ax_goto (pc := 85) (tgt := 26) (ax_dd KX10_wordFrom 48 rfl) (by decide) ?_
    refine ax_sub (lv' := [(0, .ref (G.1 + 51)), (1, .int x1), (2, .int x2), (3, .int x3), (4, .int 1), (5, .int (x5 + 1))]) [2, 3, 4, 5, 1, 0] rfl ?_
    exact hk26 _ _ _ h
  · rw [if_neg c1] at h
    refine ax_icmp_ne_t (pc := 72) (tgt := 79) (ax_dd KX10_wordFrom 42 rfl) (by decide) c1 ?_
    refine ax_iconst (pc := 79) (v := 0) (ax_dd KX10_wordFrom 45 rfl) (by decide) ?_
    refine ax_istore (pc := 80) (lv' := [(4, .int 0), (0, .ref (G.1 + 51)), (1, .int x1), (2, .int x2), (3, .int x3), (5, .int x5)]) (ax_dd KX10_wordFrom 46 rfl) (by decide) rfl ?_
    refine ax_iinc (pc := 82) (q := 5) (v := (x5 + 1)) (lv' := [(5, .int (x5 + 1)), (4, .int 0), (0, .ref (G.1 + 51)), (1, .int x1), (2, .int x2), (3, .int x3)]) (ax_dd KX10_wordFrom 47 rfl) rfl rfl (by decide) rfl ?_
    refine ax_goto (pc := 85) (tgt := 26) (ax_dd KX10_wordFrom 48 rfl) (by decide) ?_
    refine ax_sub (lv' := [(0, .ref (G.1 + 51)), (1, .int x1), (2, .int x2), (3, .int x3), (4, .int 0), (5, .int (x5 + 1))]) [2, 3, 4, 5, 1, 0] rfl ?_
    exact hk26 _ _ _ h
def m_X10_wordFrom_26 (x1 : Int32) (x2 : Int32) (x3 : Int32) (k2 : Int32 → Option (Int32)) (μ : ax_M) : Nat → Int32 → Int32 → Option (Int32)
  | 0, _, _ => none
  | n + 1, x4, x5 =>
    if 8 ≤ x5 then
      m_X10_wordFrom_88 x1 x2 x3 x4 k2 μ
    else
      if x4 = 0 then
        m_X10_wordFrom_88 x1 x2 x3 x4 k2 μ
      else
        (ix 96 (((8 : Int32) * x3) + x5)).bind fun j3 =>
        if x2 ≤ (x1 + x5) then
          m_X10_wordFrom_72 x1 x2 x3 x5 (μ 64 j3) 32 (m_X10_wordFrom_26 x1 x2 x3 k2 μ n) μ
        else
          (ix 160 (x1 + x5)).bind fun j6 =>
          m_X10_wordFrom_72 x1 x2 x3 x5 (μ 64 j3) (μ 55 j6) (m_X10_wordFrom_26 x1 x2 x3 k2 μ n) μ
set_option maxRecDepth 100000 in
set_option maxHeartbeats 8000000 in
theorem a_X10_wordFrom_26 {G : ax_G} {l : Launch} {sh : List ax_E} {x1 : Int32} {x2 : Int32} {x3 : Int32} {k2 : Int32 → Option (Int32)} {μ : ax_M} (hs : ∀ (k : Nat) (e : ax_E), SHF[k]? = some e → sh[k]? = some e) (hk2 : ∀ (x3 : Int32) (v : Int32), k2 x3 = some v → ax_X G l RX10 cX10_wordFrom 6 (some .int) false 2 (some (.int v), sh, μ) 2 [(0, .ref (G.1 + 51)), (1, .int x1), (2, .int x2), (3, .int x3)] [] sh μ) : ∀ (n : Nat) (x4 : Int32) (x5 : Int32) (v : Int32), m_X10_wordFrom_26 x1 x2 x3 k2 μ n x4 x5 = some v → ax_X G l RX10 cX10_wordFrom 6 (some .int) false 2 (some (.int v), sh, μ) 26 [(0, .ref (G.1 + 51)), (1, .int x1), (2, .int x2), (3, .int x3), (4, .int x4), (5, .int x5)] [] sh μ := by
  intro n
  induction n with
  | zero =>
    intro x4 x5 v h
    rw [m_X10_wordFrom_26] at h
    cases h
  | succ n ih =>
    intro x4 x5 v h
    rw [m_X10_wordFrom_26] at h
    refine ax_iload (pc := 26) (q := 5) (ax_dd KX10_wordFrom 16 rfl) rfl ?_
    refine ax_bipush (pc := 28) (v := 8) (ax_dd KX10_wordFrom 17 rfl) (by decide) ?_
    by_cases c1 : 8 ≤ x5
    · rw [if_pos c1] at h
      refine ax_icmp_ge_t (pc := 30) (tgt := 88) (ax_dd KX10_wordFrom 18 rfl) (by decide) c1 ?_
      refine ax_sub (lv' := [(0, .ref (G.1 + 51)), (1, .int x1), (2, .int x2), (3, .int x3), (4, .int x4)]) [0, 1, 2, 3, 4] rfl ?_
      exact a_X10_wordFrom_88 hs hk2 h
    · rw [if_neg c1] at h
      refine ax_icmp_ge_f (pc := 30) (tgt := 88) (ax_dd KX10_wordFrom 18 rfl) (by decide) c1 ?_
      refine ax_iload (pc := 33) (q := 4) (ax_dd KX10_wordFrom 19 rfl) rfl ?_
      by_cases c2 : x4 = 0
      · rw [if_pos c2] at h
        refine ax_if_eq_t (pc := 35) (tgt := 88) (ax_dd KX10_wordFrom 20 rfl) (by decide) c2 ?_
        refine ax_sub (lv' := [(0, .ref (G.1 + 51)), (1, .int x1), (2, .int x2), (3, .int x3), (4, .int x4)]) [0, 1, 2, 3, 4] rfl ?_
        exact a_X10_wordFrom_88 hs hk2 h
      · rw [if_neg c2] at h
        refine ax_if_eq_f (pc := 35) (tgt := 88) (ax_dd KX10_wordFrom 20 rfl) (by decide) c2 ?_
        refine ax_aload_n (pc := 38) (i := 0) (q := 0) (ax_dd KX10_wordFrom 21 rfl) rfl rfl ?_
        refine ax_getR (pc := 39) (k := 51) (q := 64) (ax_dd KX10_wordFrom 22 rfl) f_X10_50 (hs 51 _ rfl) rfl ?_
        refine ax_bipush (pc := 42) (v := 8) (ax_dd KX10_wordFrom 23 rfl) (by decide) ?_
        refine ax_iload_n (pc := 44) (i := 3) (q := 3) (ax_dd KX10_wordFrom 24 rfl) rfl rfl ?_
        refine ax_imul (pc := 45) (ax_dd KX10_wordFrom 25 rfl) ?_
        refine ax_iload (pc := 46) (q := 5) (ax_dd KX10_wordFrom 26 rfl) rfl ?_
        refine ax_iadd (pc := 48) (ax_dd KX10_wordFrom 27 rfl) ?_
        obtain ⟨j3, b4, h⟩ := ob_bind h
        refine ax_ild (pc := 49) (k := 64) (N := 96) (j := j3) (ax_dd KX10_wordFrom 28 rfl) (hs 64 _ rfl) b4 ?_
        refine ax_iload_n (pc := 50) (i := 1) (q := 1) (ax_dd KX10_wordFrom 29 rfl) rfl rfl ?_
        refine ax_iload (pc := 51) (q := 5) (ax_dd KX10_wordFrom 30 rfl) rfl ?_
        refine ax_iadd (pc := 53) (ax_dd KX10_wordFrom 31 rfl) ?_
        refine ax_iload_n (pc := 54) (i := 2) (q := 2) (ax_dd KX10_wordFrom 32 rfl) rfl rfl ?_
        by_cases c5 : x2 ≤ (x1 + x5)
        · rw [if_pos c5] at h
          refine ax_icmp_ge_t (pc := 55) (tgt := 70) (ax_dd KX10_wordFrom 33 rfl) (by decide) c5 ?_
          refine ax_bipush (pc := 70) (v := 32) (ax_dd KX10_wordFrom 41 rfl) (by decide) ?_
          refine ax_sub (lv' := [(0, .ref (G.1 + 51)), (1, .int x1), (2, .int x2), (3, .int x3), (5, .int x5)]) [0, 1, 2, 3, 5] rfl ?_
          exact a_X10_wordFrom_72 hs ih h
        · rw [if_neg c5] at h
          refine ax_icmp_ge_f (pc := 55) (tgt := 70) (ax_dd KX10_wordFrom 33 rfl) (by decide) c5 ?_
          refine ax_aload_n (pc := 58) (i := 0) (q := 0) (ax_dd KX10_wordFrom 34 rfl) rfl rfl ?_
          refine ax_getR (pc := 59) (k := 51) (q := 55) (ax_dd KX10_wordFrom 35 rfl) f_X10_23 (hs 51 _ rfl) rfl ?_
          refine ax_iload_n (pc := 62) (i := 1) (q := 1) (ax_dd KX10_wordFrom 36 rfl) rfl rfl ?_
          refine ax_iload (pc := 63) (q := 5) (ax_dd KX10_wordFrom 37 rfl) rfl ?_
          refine ax_iadd (pc := 65) (ax_dd KX10_wordFrom 38 rfl) ?_
          obtain ⟨j6, b7, h⟩ := ob_bind h
          refine ax_ild (pc := 66) (k := 55) (N := 160) (j := j6) (ax_dd KX10_wordFrom 39 rfl) (hs 55 _ rfl) b7 ?_
          refine ax_goto (pc := 67) (tgt := 72) (ax_dd KX10_wordFrom 40 rfl) (by decide) ?_
          refine ax_sub (lv' := [(0, .ref (G.1 + 51)), (1, .int x1), (2, .int x2), (3, .int x3), (5, .int x5)]) [0, 1, 2, 3, 5] rfl ?_
          exact a_X10_wordFrom_72 hs ih h
def m_X10_wordFrom_2 (x1 : Int32) (x2 : Int32) (μ : ax_M) : Nat → Int32 → Option (Int32)
  | 0, _ => none
  | n + 1, x3 =>
    if 12 ≤ x3 then
      some 12
    else
      if 8 < (x2 - x1) then
        m_X10_wordFrom_26 x1 x2 x3 (m_X10_wordFrom_2 x1 x2 μ n) μ fu 0 0
      else
        m_X10_wordFrom_26 x1 x2 x3 (m_X10_wordFrom_2 x1 x2 μ n) μ fu 1 0
set_option maxRecDepth 100000 in
set_option maxHeartbeats 8000000 in
theorem a_X10_wordFrom_2 {G : ax_G} {l : Launch} {sh : List ax_E} {x1 : Int32} {x2 : Int32} {μ : ax_M} (hs : ∀ (k : Nat) (e : ax_E), SHF[k]? = some e → sh[k]? = some e) : ∀ (n : Nat) (x3 : Int32) (v : Int32), m_X10_wordFrom_2 x1 x2 μ n x3 = some v → ax_X G l RX10 cX10_wordFrom 6 (some .int) false 2 (some (.int v), sh, μ) 2 [(0, .ref (G.1 + 51)), (1, .int x1), (2, .int x2), (3, .int x3)] [] sh μ := by
  intro n
  induction n with
  | zero =>
    intro x3 v h
    rw [m_X10_wordFrom_2] at h
    cases h
  | succ n ih =>
    intro x3 v h
    rw [m_X10_wordFrom_2] at h
    refine ax_iload_n (pc := 2) (i := 3) (q := 3) (ax_dd KX10_wordFrom 2 rfl) rfl rfl ?_
    refine ax_bipush (pc := 3) (v := 12) (ax_dd KX10_wordFrom 3 rfl) (by decide) ?_
    by_cases c1 : 12 ≤ x3
    · rw [if_pos c1] at h
      refine ax_icmp_ge_t (pc := 5) (tgt := 101) (ax_dd KX10_wordFrom 4 rfl) (by decide) c1 ?_
      refine ax_bipush (pc := 101) (v := 12) (ax_dd KX10_wordFrom 55 rfl) (by decide) ?_
      obtain rfl := Option.some.inj h
      exact ax_ireti (pc := 103) (ax_dd KX10_wordFrom 56 rfl) ⟨_, rfl, rfl⟩ rfl
    · rw [if_neg c1] at h
      refine ax_icmp_ge_f (pc := 5) (tgt := 101) (ax_dd KX10_wordFrom 4 rfl) (by decide) c1 ?_
      refine ax_iload_n (pc := 8) (i := 2) (q := 2) (ax_dd KX10_wordFrom 5 rfl) rfl rfl ?_
      refine ax_iload_n (pc := 9) (i := 1) (q := 1) (ax_dd KX10_wordFrom 6 rfl) rfl rfl ?_
      refine ax_isub (pc := 10) (ax_dd KX10_wordFrom 7 rfl) ?_
      refine ax_bipush (pc := 11) (v := 8) (ax_dd KX10_wordFrom 8 rfl) (by decide) ?_
      by_cases c2 : 8 < (x2 - x1)
      · rw [if_pos c2] at h
        refine ax_icmp_gt_t (pc := 13) (tgt := 20) (ax_dd KX10_wordFrom 9 rfl) (by decide) c2 ?_
        refine ax_iconst (pc := 20) (v := 0) (ax_dd KX10_wordFrom 12 rfl) (by decide) ?_
        refine ax_istore (pc := 21) (lv' := [(4, .int 0), (0, .ref (G.1 + 51)), (1, .int x1), (2, .int x2), (3, .int x3)]) (ax_dd KX10_wordFrom 13 rfl) (by decide) rfl ?_
        refine ax_iconst (pc := 23) (v := 0) (ax_dd KX10_wordFrom 14 rfl) (by decide) ?_
        refine ax_istore (pc := 24) (lv' := [(5, .int 0), (4, .int 0), (0, .ref (G.1 + 51)), (1, .int x1), (2, .int x2), (3, .int x3)]) (ax_dd KX10_wordFrom 15 rfl) (by decide) rfl ?_
        refine ax_sub (lv' := [(0, .ref (G.1 + 51)), (1, .int x1), (2, .int x2), (3, .int x3), (4, .int 0), (5, .int 0)]) [2, 3, 4, 5, 1, 0] rfl ?_
        exact a_X10_wordFrom_26 hs ih fu _ _ _ h
      · rw [if_neg c2] at h
        refine ax_icmp_gt_f (pc := 13) (tgt := 20) (ax_dd KX10_wordFrom 9 rfl) (by decide) c2 ?_
        refine ax_iconst (pc := 16) (v := 1) (ax_dd KX10_wordFrom 10 rfl) (by decide) ?_
        refine ax_goto (pc := 17) (tgt := 21) (ax_dd KX10_wordFrom 11 rfl) (by decide) ?_
        refine ax_istore (pc := 21) (lv' := [(4, .int 1), (0, .ref (G.1 + 51)), (1, .int x1), (2, .int x2), (3, .int x3)]) (ax_dd KX10_wordFrom 13 rfl) (by decide) rfl ?_
        refine ax_iconst (pc := 23) (v := 0) (ax_dd KX10_wordFrom 14 rfl) (by decide) ?_
        refine ax_istore (pc := 24) (lv' := [(5, .int 0), (4, .int 1), (0, .ref (G.1 + 51)), (1, .int x1), (2, .int x2), (3, .int x3)]) (ax_dd KX10_wordFrom 15 rfl) (by decide) rfl ?_
        refine ax_sub (lv' := [(0, .ref (G.1 + 51)), (1, .int x1), (2, .int x2), (3, .int x3), (4, .int 1), (5, .int 0)]) [2, 3, 4, 5, 1, 0] rfl ?_
        exact a_X10_wordFrom_26 hs ih fu _ _ _ h
def m_X10_wordFrom (x1 : Int32) (x2 : Int32) (μ : ax_M) : Option (Int32) :=
  m_X10_wordFrom_2 x1 x2 μ fu 0
set_option maxRecDepth 100000 in
set_option maxHeartbeats 8000000 in
theorem c_X10_wordFrom {G : ax_G} {l : Launch} {sh : List ax_E} {x1 : Int32} {x2 : Int32} {μ : ax_M} (hs : ∀ (k : Nat) (e : ax_E), SHF[k]? = some e → sh[k]? = some e) {v : Int32} (h : m_X10_wordFrom x1 x2 μ = some v) : ax_A G l yX10_wordFrom cX10_wordFrom 6 (some .int) 2 [.ref (G.1 + 51), .int x1, .int x2] sh μ (some (.int v), sh, μ) := by
  refine ax_A.of false (by decide +kernel) (fun h9 => by cases h9) (Nat.le_of_ble_eq_true rfl) (?_ : ax_X G l RX10 cX10_wordFrom 6 (some .int) false 2 (some (.int v), sh, μ) 0 [(0, .ref (G.1 + 51)), (1, .int x1), (2, .int x2)] [] sh μ)
  unfold m_X10_wordFrom at h
  refine ax_iconst (pc := 0) (v := 0) (ax_dd KX10_wordFrom 0 rfl) (by decide) ?_
  refine ax_istore_n (pc := 1) (i := 3) (lv' := [(3, .int 0), (0, .ref (G.1 + 51)), (1, .int x1), (2, .int x2)]) (ax_dd KX10_wordFrom 1 rfl) rfl (by decide) rfl ?_
  refine ax_sub (lv' := [(0, .ref (G.1 + 51)), (1, .int x1), (2, .int x2), (3, .int 0)]) [1, 2, 3, 0] rfl ?_
  exact a_X10_wordFrom_2 hs fu _ _ h
def m_X10_next_390 (s1 : Int32) (μ : ax_M) : Option (ax_M) :=
  some (ax_w (ax_w μ 51 20 s1) 51 18 (((ax_w μ 51 20 s1) 51 18) + 1))
set_option maxRecDepth 100000 in
set_option maxHeartbeats 8000000 in
theorem a_X10_next_390 {G : ax_G} {l : Launch} {sh : List ax_E} {s1 : Int32} {μ : ax_M} (hs : ∀ (k : Nat) (e : ax_E), SHF[k]? = some e → sh[k]? = some e) {v : ax_M} (h : m_X10_next_390 s1 μ = some v) : ax_X G l RX10 cX10_next 3 none false 3 (none, sh, v) 390 [(0, .ref (G.1 + 51))] [.int s1, .ref (G.1 + 51)] sh μ := by
  unfold m_X10_next_390 at h
  refine ax_putI (pc := 390) (k := 51) (ax_dd KX10_next 205 rfl) f_X10_105 ft_X10 (hs 51 _ rfl) rfl (fun _ h9 => by cases h9; rfl) rfl rfl ?_
  refine ax_aload_n (pc := 393) (i := 0) (q := 0) (ax_dd KX10_next 206 rfl) rfl rfl ?_
  refine ax_dup (pc := 394) (ax_dd KX10_next 207 rfl) rfl ?_
  refine ax_getI (pc := 395) (k := 51) (ax_dd KX10_next 208 rfl) f_X10_99 (hs 51 _ rfl) rfl ?_
  refine ax_iconst (pc := 398) (v := 1) (ax_dd KX10_next 209 rfl) (by decide) ?_
  refine ax_iadd (pc := 399) (ax_dd KX10_next 210 rfl) ?_
  refine ax_putI (pc := 400) (k := 51) (ax_dd KX10_next 211 rfl) f_X10_99 ft_X10 (hs 51 _ rfl) rfl (fun _ h9 => by cases h9; rfl) rfl rfl ?_
  obtain rfl := Option.some.inj h
  exact ax_vret (pc := 403) (ax_dd KX10_next 212 rfl) rfl rfl
def m_X10_next_379 (x1 : Int32) (s0 : Int32) (μ : ax_M) : Option (ax_M) :=
  if s0 = 0 then
    m_X10_next_390 (-1) μ
  else
    m_X10_next_390 x1 μ
set_option maxRecDepth 100000 in
set_option maxHeartbeats 8000000 in
theorem a_X10_next_379 {G : ax_G} {l : Launch} {sh : List ax_E} {x1 : Int32} {s0 : Int32} {μ : ax_M} (hs : ∀ (k : Nat) (e : ax_E), SHF[k]? = some e → sh[k]? = some e) {v : ax_M} (h : m_X10_next_379 x1 s0 μ = some v) : ax_X G l RX10 cX10_next 3 none false 3 (none, sh, v) 379 [(0, .ref (G.1 + 51)), (1, .int x1)] [.int s0] sh μ := by
  unfold m_X10_next_379 at h
  refine ax_istore_n (pc := 379) (i := 2) (lv' := [(2, .int s0), (0, .ref (G.1 + 51)), (1, .int x1)]) (ax_dd KX10_next 198 rfl) rfl (by decide) rfl ?_
  refine ax_aload_n (pc := 380) (i := 0) (q := 1) (ax_dd KX10_next 199 rfl) rfl rfl ?_
  refine ax_iload_n (pc := 381) (i := 2) (q := 0) (ax_dd KX10_next 200 rfl) rfl rfl ?_
  by_cases c1 : s0 = 0
  · rw [if_pos c1] at h
    refine ax_if_eq_t (pc := 382) (tgt := 389) (ax_dd KX10_next 201 rfl) (by decide) c1 ?_
    refine ax_iconst (pc := 389) (v := (-1)) (ax_dd KX10_next 204 rfl) (by decide) ?_
    refine ax_sub (lv' := [(0, .ref (G.1 + 51))]) [1] rfl ?_
    exact a_X10_next_390 hs h
  · rw [if_neg c1] at h
    refine ax_if_eq_f (pc := 382) (tgt := 389) (ax_dd KX10_next 201 rfl) (by decide) c1 ?_
    refine ax_iload_n (pc := 385) (i := 1) (q := 2) (ax_dd KX10_next 202 rfl) rfl rfl ?_
    refine ax_goto (pc := 386) (tgt := 390) (ax_dd KX10_next 203 rfl) (by decide) ?_
    refine ax_sub (lv' := [(0, .ref (G.1 + 51))]) [1] rfl ?_
    exact a_X10_next_390 hs h
def m_X10_next_309 (x2 : Int32) (μ : ax_M) : Option (ax_M) :=
  if x2 ≤ 4 then
    some (ax_w μ 51 20 1)
  else
    some (ax_w μ 51 20 (-1))
set_option maxRecDepth 100000 in
set_option maxHeartbeats 8000000 in
theorem a_X10_next_309 {G : ax_G} {l : Launch} {sh : List ax_E} {x2 : Int32} {μ : ax_M} (hs : ∀ (k : Nat) (e : ax_E), SHF[k]? = some e → sh[k]? = some e) {v : ax_M} (h : m_X10_next_309 x2 μ = some v) : ax_X G l RX10 cX10_next 3 none false 3 (none, sh, v) 309 [(0, .ref (G.1 + 51)), (2, .int x2)] [] sh μ := by
  unfold m_X10_next_309 at h
  refine ax_aload_n (pc := 309) (i := 0) (q := 0) (ax_dd KX10_next 162 rfl) rfl rfl ?_
  refine ax_iload_n (pc := 310) (i := 2) (q := 1) (ax_dd KX10_next 163 rfl) rfl rfl ?_
  refine ax_iconst (pc := 311) (v := 4) (ax_dd KX10_next 164 rfl) (by decide) ?_
  by_cases c1 : x2 ≤ 4
  · rw [if_pos c1] at h
    refine ax_icmp_le_t (pc := 312) (tgt := 319) (ax_dd KX10_next 165 rfl) (by decide) c1 ?_
    refine ax_iconst (pc := 319) (v := 1) (ax_dd KX10_next 168 rfl) (by decide) ?_
    refine ax_putI (pc := 320) (k := 51) (ax_dd KX10_next 169 rfl) f_X10_105 ft_X10 (hs 51 _ rfl) rfl (fun _ h9 => by cases h9; rfl) rfl rfl ?_
    refine ax_goto (pc := 323) (tgt := 403) (ax_dd KX10_next 170 rfl) (by decide) ?_
    obtain rfl := Option.some.inj h
    exact ax_vret (pc := 403) (ax_dd KX10_next 212 rfl) rfl rfl
  · rw [if_neg c1] at h
    refine ax_icmp_le_f (pc := 312) (tgt := 319) (ax_dd KX10_next 165 rfl) (by decide) c1 ?_
    refine ax_iconst (pc := 315) (v := (-1)) (ax_dd KX10_next 166 rfl) (by decide) ?_
    refine ax_goto (pc := 316) (tgt := 320) (ax_dd KX10_next 167 rfl) (by decide) ?_
    refine ax_putI (pc := 320) (k := 51) (ax_dd KX10_next 169 rfl) f_X10_105 ft_X10 (hs 51 _ rfl) rfl (fun _ h9 => by cases h9; rfl) rfl rfl ?_
    refine ax_goto (pc := 323) (tgt := 403) (ax_dd KX10_next 170 rfl) (by decide) ?_
    obtain rfl := Option.some.inj h
    exact ax_vret (pc := 403) (ax_dd KX10_next 212 rfl) rfl rfl
def m_X10_next_290 (x2 : Int32) (s1 : Int32) (k230 : Int32 → ax_M → Option (ax_M)) (μ : ax_M) : Option (ax_M) :=
  k230 (x2 + 1) (ax_w (ax_w μ 51 21 s1) 51 18 (((ax_w μ 51 21 s1) 51 18) + 1))
set_option maxRecDepth 100000 in
set_option maxHeartbeats 8000000 in
theorem a_X10_next_290 {G : ax_G} {l : Launch} {sh : List ax_E} {x2 : Int32} {s1 : Int32} {k230 : Int32 → ax_M → Option (ax_M)} {μ : ax_M} (hs : ∀ (k : Nat) (e : ax_E), SHF[k]? = some e → sh[k]? = some e) (hk230 : ∀ (x2 : Int32) (μ : ax_M) (v : ax_M), k230 x2 μ = some v → ax_X G l RX10 cX10_next 3 none false 3 (none, sh, v) 230 [(0, .ref (G.1 + 51)), (2, .int x2)] [] sh μ) {v : ax_M} (h : m_X10_next_290 x2 s1 k230 μ = some v) : ax_X G l RX10 cX10_next 3 none false 3 (none, sh, v) 290 [(0, .ref (G.1 + 51)), (2, .int x2)] [.int s1, .ref (G.1 + 51)] sh μ := by
  unfold m_X10_next_290 at h
  refine ax_putI (pc := 290) (k := 51) (ax_dd KX10_next 153 rfl) f_X10_108 ft_X10 (hs 51 _ rfl) rfl (fun _ h9 => by cases h9; rfl) rfl rfl ?_
  refine ax_iinc (pc := 293) (q := 1) (v := (x2 + 1)) (lv' := [(2, .int (x2 + 1)), (0, .ref (G.1 + 51))]) (ax_dd KX10_next 154 rfl) rfl rfl (by decide) rfl ?_
  refine ax_aload_n (pc := 296) (i := 0) (q := 1) (ax_dd KX10_next 155 rfl) rfl rfl ?_
  refine ax_dup (pc := 297) (ax_dd KX10_next 156 rfl) rfl ?_
  refine ax_getI (pc := 298) (k := 51) (ax_dd KX10_next 157 rfl) f_X10_99 (hs 51 _ rfl) rfl ?_
  refine ax_iconst (pc := 301) (v := 1) (ax_dd KX10_next 158 rfl) (by decide) ?_
  refine ax_iadd (pc := 302) (ax_dd KX10_next 159 rfl) ?_
  refine ax_putI (pc := 303) (k := 51) (ax_dd KX10_next 160 rfl) f_X10_99 ft_X10 (hs 51 _ rfl) rfl (fun _ h9 => by cases h9; rfl) rfl rfl ?_
  refine ax_goto (pc := 306) (tgt := 230) (ax_dd KX10_next 161 rfl) (by decide) ?_
  refine ax_sub (lv' := [(0, .ref (G.1 + 51)), (2, .int (x2 + 1))]) [1, 0] rfl ?_
  exact hk230 _ _ _ h
def m_X10_next_230 : Nat → Int32 → ax_M → Option (ax_M)
  | 0, _, _ => none
  | n + 1, x2, μ =>
    if (μ 51 6) ≤ (μ 51 18) then
      m_X10_next_309 x2 μ
    else
      (ix 160 (μ 51 18)).bind fun j2 =>
      (m_X10_in (μ 55 j2) 48 57 μ).bind fun v4 =>
      if v4 = 0 then
        m_X10_next_309 x2 μ
      else
        if 4 ≤ x2 then
          m_X10_next_290 x2 0 (m_X10_next_230 n) μ
        else
          (ix 160 (μ 51 18)).bind fun j8 =>
          m_X10_next_290 x2 ((((10 : Int32) * (μ 51 21)) + (μ 55 j8)) - 48) (m_X10_next_230 n) μ
set_option maxRecDepth 100000 in
set_option maxHeartbeats 8000000 in
theorem a_X10_next_230 {G : ax_G} {l : Launch} {sh : List ax_E} (hs : ∀ (k : Nat) (e : ax_E), SHF[k]? = some e → sh[k]? = some e) : ∀ (n : Nat) (x2 : Int32) (μ : ax_M) (v : ax_M), m_X10_next_230 n x2 μ = some v → ax_X G l RX10 cX10_next 3 none false 3 (none, sh, v) 230 [(0, .ref (G.1 + 51)), (2, .int x2)] [] sh μ := by
  intro n
  induction n with
  | zero =>
    intro x2 μ v h
    rw [m_X10_next_230] at h
    cases h
  | succ n ih =>
    intro x2 μ v h
    rw [m_X10_next_230] at h
    refine ax_aload_n (pc := 230) (i := 0) (q := 0) (ax_dd KX10_next 121 rfl) rfl rfl ?_
    refine ax_getI (pc := 231) (k := 51) (ax_dd KX10_next 122 rfl) f_X10_99 (hs 51 _ rfl) rfl ?_
    refine ax_aload_n (pc := 234) (i := 0) (q := 0) (ax_dd KX10_next 123 rfl) rfl rfl ?_
    refine ax_getI (pc := 235) (k := 51) (ax_dd KX10_next 124 rfl) f_X10_71 (hs 51 _ rfl) rfl ?_
    by_cases c1 : (μ 51 6) ≤ (μ 51 18)
    · rw [if_pos c1] at h
      refine ax_icmp_ge_t (pc := 238) (tgt := 309) (ax_dd KX10_next 125 rfl) (by decide) c1 ?_
      exact a_X10_next_309 hs h
    · rw [if_neg c1] at h
      refine ax_icmp_ge_f (pc := 238) (tgt := 309) (ax_dd KX10_next 125 rfl) (by decide) c1 ?_
      refine ax_aload_n (pc := 241) (i := 0) (q := 0) (ax_dd KX10_next 126 rfl) rfl rfl ?_
      refine ax_getR (pc := 242) (k := 51) (q := 55) (ax_dd KX10_next 127 rfl) f_X10_23 (hs 51 _ rfl) rfl ?_
      refine ax_aload_n (pc := 245) (i := 0) (q := 0) (ax_dd KX10_next 128 rfl) rfl rfl ?_
      refine ax_getI (pc := 246) (k := 51) (ax_dd KX10_next 129 rfl) f_X10_99 (hs 51 _ rfl) rfl ?_
      obtain ⟨j2, b3, h⟩ := ob_bind h
      refine ax_ild (pc := 249) (k := 55) (N := 160) (j := j2) (ax_dd KX10_next 130 rfl) (hs 55 _ rfl) b3 ?_
      refine ax_bipush (pc := 250) (v := 48) (ax_dd KX10_next 131 rfl) (by decide) ?_
      refine ax_bipush (pc := 252) (v := 57) (ax_dd KX10_next 132 rfl) (by decide) ?_
      obtain ⟨v4, b5, h⟩ := ob_bind h
      refine ax_kS (pc := 254) (As := [.int (μ 55 j2), .int 48, .int 57]) (rest := []) (st1 := [.int v4]) (μ1 := μ) (ax_dd KX10_next 133 rfl) (c_X10_in hs b5) kS_X10_81 e_X10_in rfl rfl (by decide) (by decide) (Nat.le_of_ble_eq_true rfl) rfl ?_
      by_cases c6 : v4 = 0
      · rw [if_pos c6] at h
        refine ax_if_eq_t (pc := 257) (tgt := 309) (ax_dd KX10_next 134 rfl) (by decide) c6 ?_
        exact a_X10_next_309 hs h
      · rw [if_neg c6] at h
        refine ax_if_eq_f (pc := 257) (tgt := 309) (ax_dd KX10_next 134 rfl) (by decide) c6 ?_
        refine ax_aload_n (pc := 260) (i := 0) (q := 0) (ax_dd KX10_next 135 rfl) rfl rfl ?_
        refine ax_iload_n (pc := 261) (i := 2) (q := 1) (ax_dd KX10_next 136 rfl) rfl rfl ?_
        refine ax_iconst (pc := 262) (v := 4) (ax_dd KX10_next 137 rfl) (by decide) ?_
        by_cases c7 : 4 ≤ x2
        · rw [if_pos c7] at h
          refine ax_icmp_ge_t (pc := 263) (tgt := 289) (ax_dd KX10_next 138 rfl) (by decide) c7 ?_
          refine ax_iconst (pc := 289) (v := 0) (ax_dd KX10_next 152 rfl) (by decide) ?_
          exact a_X10_next_290 hs ih h
        · rw [if_neg c7] at h
          refine ax_icmp_ge_f (pc := 263) (tgt := 289) (ax_dd KX10_next 138 rfl) (by decide) c7 ?_
          refine ax_bipush (pc := 266) (v := 10) (ax_dd KX10_next 139 rfl) (by decide) ?_
          refine ax_aload_n (pc := 268) (i := 0) (q := 0) (ax_dd KX10_next 140 rfl) rfl rfl ?_
          refine ax_getI (pc := 269) (k := 51) (ax_dd KX10_next 141 rfl) f_X10_108 (hs 51 _ rfl) rfl ?_
          refine ax_imul (pc := 272) (ax_dd KX10_next 142 rfl) ?_
          refine ax_aload_n (pc := 273) (i := 0) (q := 0) (ax_dd KX10_next 143 rfl) rfl rfl ?_
          refine ax_getR (pc := 274) (k := 51) (q := 55) (ax_dd KX10_next 144 rfl) f_X10_23 (hs 51 _ rfl) rfl ?_
          refine ax_aload_n (pc := 277) (i := 0) (q := 0) (ax_dd KX10_next 145 rfl) rfl rfl ?_
          refine ax_getI (pc := 278) (k := 51) (ax_dd KX10_next 146 rfl) f_X10_99 (hs 51 _ rfl) rfl ?_
          obtain ⟨j8, b9, h⟩ := ob_bind h
          refine ax_ild (pc := 281) (k := 55) (N := 160) (j := j8) (ax_dd KX10_next 147 rfl) (hs 55 _ rfl) b9 ?_
          refine ax_iadd (pc := 282) (ax_dd KX10_next 148 rfl) ?_
          refine ax_bipush (pc := 283) (v := 48) (ax_dd KX10_next 149 rfl) (by decide) ?_
          refine ax_isub (pc := 285) (ax_dd KX10_next 150 rfl) ?_
          refine ax_goto (pc := 286) (tgt := 290) (ax_dd KX10_next 151 rfl) (by decide) ?_
          exact a_X10_next_290 hs ih h
def m_X10_next_195 (x2 : Int32) (s1 : Int32) (μ : ax_M) : Option (ax_M) :=
  if 3 ≤ x2 then
    some (ax_w (ax_w μ 51 20 s1) 51 21 (x2 - 3))
  else
    some (ax_w (ax_w μ 51 20 s1) 51 21 x2)
set_option maxRecDepth 100000 in
set_option maxHeartbeats 8000000 in
theorem a_X10_next_195 {G : ax_G} {l : Launch} {sh : List ax_E} {x2 : Int32} {s1 : Int32} {μ : ax_M} (hs : ∀ (k : Nat) (e : ax_E), SHF[k]? = some e → sh[k]? = some e) {v : ax_M} (h : m_X10_next_195 x2 s1 μ = some v) : ax_X G l RX10 cX10_next 3 none false 3 (none, sh, v) 195 [(0, .ref (G.1 + 51)), (2, .int x2)] [.int s1, .ref (G.1 + 51)] sh μ := by
  unfold m_X10_next_195 at h
  refine ax_putI (pc := 195) (k := 51) (ax_dd KX10_next 102 rfl) f_X10_105 ft_X10 (hs 51 _ rfl) rfl (fun _ h9 => by cases h9; rfl) rfl rfl ?_
  refine ax_aload_n (pc := 198) (i := 0) (q := 0) (ax_dd KX10_next 103 rfl) rfl rfl ?_
  refine ax_iload_n (pc := 199) (i := 2) (q := 1) (ax_dd KX10_next 104 rfl) rfl rfl ?_
  refine ax_iconst (pc := 200) (v := 3) (ax_dd KX10_next 105 rfl) (by decide) ?_
  by_cases c1 : 3 ≤ x2
  · rw [if_pos c1] at h
    refine ax_icmp_ge_t (pc := 201) (tgt := 208) (ax_dd KX10_next 106 rfl) (by decide) c1 ?_
    refine ax_iload_n (pc := 208) (i := 2) (q := 1) (ax_dd KX10_next 109 rfl) rfl rfl ?_
    refine ax_iconst (pc := 209) (v := 3) (ax_dd KX10_next 110 rfl) (by decide) ?_
    refine ax_isub (pc := 210) (ax_dd KX10_next 111 rfl) ?_
    refine ax_putI (pc := 211) (k := 51) (ax_dd KX10_next 112 rfl) f_X10_108 ft_X10 (hs 51 _ rfl) rfl (fun _ h9 => by cases h9; rfl) rfl rfl ?_
    refine ax_goto (pc := 214) (tgt := 403) (ax_dd KX10_next 113 rfl) (by decide) ?_
    obtain rfl := Option.some.inj h
    exact ax_vret (pc := 403) (ax_dd KX10_next 212 rfl) rfl rfl
  · rw [if_neg c1] at h
    refine ax_icmp_ge_f (pc := 201) (tgt := 208) (ax_dd KX10_next 106 rfl) (by decide) c1 ?_
    refine ax_iload_n (pc := 204) (i := 2) (q := 1) (ax_dd KX10_next 107 rfl) rfl rfl ?_
    refine ax_goto (pc := 205) (tgt := 211) (ax_dd KX10_next 108 rfl) (by decide) ?_
    refine ax_putI (pc := 211) (k := 51) (ax_dd KX10_next 112 rfl) f_X10_108 ft_X10 (hs 51 _ rfl) rfl (fun _ h9 => by cases h9; rfl) rfl rfl ?_
    refine ax_goto (pc := 214) (tgt := 403) (ax_dd KX10_next 113 rfl) (by decide) ?_
    obtain rfl := Option.some.inj h
    exact ax_vret (pc := 403) (ax_dd KX10_next 212 rfl) rfl rfl
def m_X10_next_146 (μ : ax_M) : Option (ax_M) :=
  (m_X10_wordFrom (μ 51 19) (μ 51 18) μ).bind fun v1 =>
  if 3 ≤ v1 then
    if 9 ≤ v1 then
      if v1 = 12 then
        m_X10_next_195 v1 (-1) μ
      else
        m_X10_next_195 v1 (((4 : Int32) + v1) - 9) μ
    else
      m_X10_next_195 v1 2 μ
  else
    m_X10_next_195 v1 3 μ
set_option maxRecDepth 100000 in
set_option maxHeartbeats 8000000 in
theorem a_X10_next_146 {G : ax_G} {l : Launch} {sh : List ax_E} {μ : ax_M} (hs : ∀ (k : Nat) (e : ax_E), SHF[k]? = some e → sh[k]? = some e) {v : ax_M} (h : m_X10_next_146 μ = some v) : ax_X G l RX10 cX10_next 3 none false 3 (none, sh, v) 146 [(0, .ref (G.1 + 51))] [] sh μ := by
  unfold m_X10_next_146 at h
  refine ax_aload_n (pc := 146) (i := 0) (q := 0) (ax_dd KX10_next 74 rfl) rfl rfl ?_
  refine ax_aload_n (pc := 147) (i := 0) (q := 0) (ax_dd KX10_next 75 rfl) rfl rfl ?_
  refine ax_getI (pc := 148) (k := 51) (ax_dd KX10_next 76 rfl) f_X10_102 (hs 51 _ rfl) rfl ?_
  refine ax_aload_n (pc := 151) (i := 0) (q := 0) (ax_dd KX10_next 77 rfl) rfl rfl ?_
  refine ax_getI (pc := 152) (k := 51) (ax_dd KX10_next 78 rfl) f_X10_99 (hs 51 _ rfl) rfl ?_
  obtain ⟨v1, b2, h⟩ := ob_bind h
  refine ax_kV (pc := 155) (ci := 10) (k := 51) (As := [.int (μ 51 19), .int (μ 51 18)]) (rest := []) (st1 := [.int v1]) (μ1 := μ) (ax_dd KX10_next 79 rfl) (c_X10_wordFrom hs b2) kV_X10_111 e_X10_wordFrom (hs 51 _ rfl) cl_X10 (by decide) rfl rfl (by decide) (by decide) (Nat.le_of_ble_eq_true rfl) rfl ?_
  refine ax_istore_n (pc := 158) (i := 2) (lv' := [(2, .int v1), (0, .ref (G.1 + 51))]) (ax_dd KX10_next 80 rfl) rfl (by decide) rfl ?_
  refine ax_aload_n (pc := 159) (i := 0) (q := 1) (ax_dd KX10_next 81 rfl) rfl rfl ?_
  refine ax_iload_n (pc := 160) (i := 2) (q := 0) (ax_dd KX10_next 82 rfl) rfl rfl ?_
  refine ax_iconst (pc := 161) (v := 3) (ax_dd KX10_next 83 rfl) (by decide) ?_
  by_cases c3 : 3 ≤ v1
  · rw [if_pos c3] at h
    refine ax_icmp_ge_t (pc := 162) (tgt := 169) (ax_dd KX10_next 84 rfl) (by decide) c3 ?_
    refine ax_iload_n (pc := 169) (i := 2) (q := 0) (ax_dd KX10_next 87 rfl) rfl rfl ?_
    refine ax_bipush (pc := 170) (v := 9) (ax_dd KX10_next 88 rfl) (by decide) ?_
    by_cases c4 : 9 ≤ v1
    · rw [if_pos c4] at h
      refine ax_icmp_ge_t (pc := 172) (tgt := 179) (ax_dd KX10_next 89 rfl) (by decide) c4 ?_
      refine ax_iload_n (pc := 179) (i := 2) (q := 0) (ax_dd KX10_next 92 rfl) rfl rfl ?_
      refine ax_bipush (pc := 180) (v := 12) (ax_dd KX10_next 93 rfl) (by decide) ?_
      by_cases c5 : v1 = 12
      · rw [if_pos c5] at h
        refine ax_icmp_ne_f (pc := 182) (tgt := 189) (ax_dd KX10_next 94 rfl) (by decide) (fun z => z c5) ?_
        refine ax_iconst (pc := 185) (v := (-1)) (ax_dd KX10_next 95 rfl) (by decide) ?_
        refine ax_goto (pc := 186) (tgt := 195) (ax_dd KX10_next 96 rfl) (by decide) ?_
        refine ax_sub (lv' := [(0, .ref (G.1 + 51)), (2, .int v1)]) [1, 0] rfl ?_
        exact a_X10_next_195 hs h
      · rw [if_neg c5] at h
        refine ax_icmp_ne_t (pc := 182) (tgt := 189) (ax_dd KX10_next 94 rfl) (by decide) c5 ?_
        refine ax_iconst (pc := 189) (v := 4) (ax_dd KX10_next 97 rfl) (by decide) ?_
        refine ax_iload_n (pc := 190) (i := 2) (q := 0) (ax_dd KX10_next 98 rfl) rfl rfl ?_
        refine ax_iadd (pc := 191) (ax_dd KX10_next 99 rfl) ?_
        refine ax_bipush (pc := 192) (v := 9) (ax_dd KX10_next 100 rfl) (by decide) ?_
        refine ax_isub (pc := 194) (ax_dd KX10_next 101 rfl) ?_
        refine ax_sub (lv' := [(0, .ref (G.1 + 51)), (2, .int v1)]) [1, 0] rfl ?_
        exact a_X10_next_195 hs h
    · rw [if_neg c4] at h
      refine ax_icmp_ge_f (pc := 172) (tgt := 179) (ax_dd KX10_next 89 rfl) (by decide) c4 ?_
      refine ax_iconst (pc := 175) (v := 2) (ax_dd KX10_next 90 rfl) (by decide) ?_
      refine ax_goto (pc := 176) (tgt := 195) (ax_dd KX10_next 91 rfl) (by decide) ?_
      refine ax_sub (lv' := [(0, .ref (G.1 + 51)), (2, .int v1)]) [1, 0] rfl ?_
      exact a_X10_next_195 hs h
  · rw [if_neg c3] at h
    refine ax_icmp_ge_f (pc := 162) (tgt := 169) (ax_dd KX10_next 84 rfl) (by decide) c3 ?_
    refine ax_iconst (pc := 165) (v := 3) (ax_dd KX10_next 85 rfl) (by decide) ?_
    refine ax_goto (pc := 166) (tgt := 195) (ax_dd KX10_next 86 rfl) (by decide) ?_
    refine ax_sub (lv' := [(0, .ref (G.1 + 51)), (2, .int v1)]) [1, 0] rfl ?_
    exact a_X10_next_195 hs h
def m_X10_next_103 : Nat → ax_M → Option (ax_M)
  | 0, _ => none
  | n + 1, μ =>
    if (μ 51 6) ≤ (μ 51 18) then
      m_X10_next_146 μ
    else
      (ix 160 (μ 51 18)).bind fun j2 =>
      (m_X10_in (μ 55 j2) 97 122 μ).bind fun v4 =>
      if v4 = 0 then
        m_X10_next_146 μ
      else
        m_X10_next_103 n (ax_w μ 51 18 ((μ 51 18) + 1))
set_option maxRecDepth 100000 in
set_option maxHeartbeats 8000000 in
theorem a_X10_next_103 {G : ax_G} {l : Launch} {sh : List ax_E} (hs : ∀ (k : Nat) (e : ax_E), SHF[k]? = some e → sh[k]? = some e) : ∀ (n : Nat)  (μ : ax_M) (v : ax_M), m_X10_next_103 n  μ = some v → ax_X G l RX10 cX10_next 3 none false 3 (none, sh, v) 103 [(0, .ref (G.1 + 51))] [] sh μ := by
  intro n
  induction n with
  | zero =>
    intro  μ v h
    rw [m_X10_next_103] at h
    cases h
  | succ n ih =>
    intro  μ v h
    rw [m_X10_next_103] at h
    refine ax_aload_n (pc := 103) (i := 0) (q := 0) (ax_dd KX10_next 53 rfl) rfl rfl ?_
    refine ax_getI (pc := 104) (k := 51) (ax_dd KX10_next 54 rfl) f_X10_99 (hs 51 _ rfl) rfl ?_
    refine ax_aload_n (pc := 107) (i := 0) (q := 0) (ax_dd KX10_next 55 rfl) rfl rfl ?_
    refine ax_getI (pc := 108) (k := 51) (ax_dd KX10_next 56 rfl) f_X10_71 (hs 51 _ rfl) rfl ?_
    by_cases c1 : (μ 51 6) ≤ (μ 51 18)
    · rw [if_pos c1] at h
      refine ax_icmp_ge_t (pc := 111) (tgt := 146) (ax_dd KX10_next 57 rfl) (by decide) c1 ?_
      exact a_X10_next_146 hs h
    · rw [if_neg c1] at h
      refine ax_icmp_ge_f (pc := 111) (tgt := 146) (ax_dd KX10_next 57 rfl) (by decide) c1 ?_
      refine ax_aload_n (pc := 114) (i := 0) (q := 0) (ax_dd KX10_next 58 rfl) rfl rfl ?_
      refine ax_getR (pc := 115) (k := 51) (q := 55) (ax_dd KX10_next 59 rfl) f_X10_23 (hs 51 _ rfl) rfl ?_
      refine ax_aload_n (pc := 118) (i := 0) (q := 0) (ax_dd KX10_next 60 rfl) rfl rfl ?_
      refine ax_getI (pc := 119) (k := 51) (ax_dd KX10_next 61 rfl) f_X10_99 (hs 51 _ rfl) rfl ?_
      obtain ⟨j2, b3, h⟩ := ob_bind h
      refine ax_ild (pc := 122) (k := 55) (N := 160) (j := j2) (ax_dd KX10_next 62 rfl) (hs 55 _ rfl) b3 ?_
      refine ax_bipush (pc := 123) (v := 97) (ax_dd KX10_next 63 rfl) (by decide) ?_
      refine ax_bipush (pc := 125) (v := 122) (ax_dd KX10_next 64 rfl) (by decide) ?_
      obtain ⟨v4, b5, h⟩ := ob_bind h
      refine ax_kS (pc := 127) (As := [.int (μ 55 j2), .int 97, .int 122]) (rest := []) (st1 := [.int v4]) (μ1 := μ) (ax_dd KX10_next 65 rfl) (c_X10_in hs b5) kS_X10_81 e_X10_in rfl rfl (by decide) (by decide) (Nat.le_of_ble_eq_true rfl) rfl ?_
      by_cases c6 : v4 = 0
      · rw [if_pos c6] at h
        refine ax_if_eq_t (pc := 130) (tgt := 146) (ax_dd KX10_next 66 rfl) (by decide) c6 ?_
        exact a_X10_next_146 hs h
      · rw [if_neg c6] at h
        refine ax_if_eq_f (pc := 130) (tgt := 146) (ax_dd KX10_next 66 rfl) (by decide) c6 ?_
        refine ax_aload_n (pc := 133) (i := 0) (q := 0) (ax_dd KX10_next 67 rfl) rfl rfl ?_
        refine ax_dup (pc := 134) (ax_dd KX10_next 68 rfl) rfl ?_
        refine ax_getI (pc := 135) (k := 51) (ax_dd KX10_next 69 rfl) f_X10_99 (hs 51 _ rfl) rfl ?_
        refine ax_iconst (pc := 138) (v := 1) (ax_dd KX10_next 70 rfl) (by decide) ?_
        refine ax_iadd (pc := 139) (ax_dd KX10_next 71 rfl) ?_
        refine ax_putI (pc := 140) (k := 51) (ax_dd KX10_next 72 rfl) f_X10_99 ft_X10 (hs 51 _ rfl) rfl (fun _ h9 => by cases h9; rfl) rfl rfl ?_
        refine ax_goto (pc := 143) (tgt := 103) (ax_dd KX10_next 73 rfl) (by decide) ?_
        exact ih  _ _ h
def m_X10_next_52 (μ : ax_M) : Option (ax_M) :=
  if ((ax_w (ax_w (ax_w μ 51 19 (μ 51 18)) 51 20 0) 51 21 0) 51 18) = ((ax_w (ax_w (ax_w μ 51 19 (μ 51 18)) 51 20 0) 51 21 0) 51 6) then
    some (ax_w (ax_w (ax_w μ 51 19 (μ 51 18)) 51 20 0) 51 21 0)
  else
    (ix 160 ((ax_w (ax_w (ax_w μ 51 19 (μ 51 18)) 51 20 0) 51 21 0) 51 18)).bind fun j2 =>
    (m_X10_in ((ax_w (ax_w (ax_w μ 51 19 (μ 51 18)) 51 20 0) 51 21 0) 55 j2) 97 122 (ax_w (ax_w (ax_w μ 51 19 (μ 51 18)) 51 20 0) 51 21 0)).bind fun v4 =>
    if v4 = 0 then
      (m_X10_in ((ax_w (ax_w (ax_w μ 51 19 (μ 51 18)) 51 20 0) 51 21 0) 55 j2) 48 57 (ax_w (ax_w (ax_w μ 51 19 (μ 51 18)) 51 20 0) 51 21 0)).bind fun v7 =>
      if v7 = 0 then
        if ((ax_w (ax_w (ax_w μ 51 19 (μ 51 18)) 51 20 0) 51 21 0) 55 j2) = 40 then
          m_X10_next_379 ((ax_w (ax_w (ax_w μ 51 19 (μ 51 18)) 51 20 0) 51 21 0) 55 j2) 1 (ax_w (ax_w (ax_w μ 51 19 (μ 51 18)) 51 20 0) 51 21 0)
        else
          if ((ax_w (ax_w (ax_w μ 51 19 (μ 51 18)) 51 20 0) 51 21 0) 55 j2) = 41 then
            m_X10_next_379 ((ax_w (ax_w (ax_w μ 51 19 (μ 51 18)) 51 20 0) 51 21 0) 55 j2) 1 (ax_w (ax_w (ax_w μ 51 19 (μ 51 18)) 51 20 0) 51 21 0)
          else
            if ((ax_w (ax_w (ax_w μ 51 19 (μ 51 18)) 51 20 0) 51 21 0) 55 j2) = 59 then
              m_X10_next_379 ((ax_w (ax_w (ax_w μ 51 19 (μ 51 18)) 51 20 0) 51 21 0) 55 j2) 1 (ax_w (ax_w (ax_w μ 51 19 (μ 51 18)) 51 20 0) 51 21 0)
            else
              if ((ax_w (ax_w (ax_w μ 51 19 (μ 51 18)) 51 20 0) 51 21 0) 55 j2) = 43 then
                m_X10_next_379 ((ax_w (ax_w (ax_w μ 51 19 (μ 51 18)) 51 20 0) 51 21 0) 55 j2) 1 (ax_w (ax_w (ax_w μ 51 19 (μ 51 18)) 51 20 0) 51 21 0)
              else
                if ((ax_w (ax_w (ax_w μ 51 19 (μ 51 18)) 51 20 0) 51 21 0) 55 j2) = 45 then
                  m_X10_next_379 ((ax_w (ax_w (ax_w μ 51 19 (μ 51 18)) 51 20 0) 51 21 0) 55 j2) 1 (ax_w (ax_w (ax_w μ 51 19 (μ 51 18)) 51 20 0) 51 21 0)
                else
                  if ((ax_w (ax_w (ax_w μ 51 19 (μ 51 18)) 51 20 0) 51 21 0) 55 j2) = 42 then
                    m_X10_next_379 ((ax_w (ax_w (ax_w μ 51 19 (μ 51 18)) 51 20 0) 51 21 0) 55 j2) 1 (ax_w (ax_w (ax_w μ 51 19 (μ 51 18)) 51 20 0) 51 21 0)
                  else
                    if ((ax_w (ax_w (ax_w μ 51 19 (μ 51 18)) 51 20 0) 51 21 0) 55 j2) = 60 then
                      m_X10_next_379 ((ax_w (ax_w (ax_w μ 51 19 (μ 51 18)) 51 20 0) 51 21 0) 55 j2) 1 (ax_w (ax_w (ax_w μ 51 19 (μ 51 18)) 51 20 0) 51 21 0)
                    else
                      if ((ax_w (ax_w (ax_w μ 51 19 (μ 51 18)) 51 20 0) 51 21 0) 55 j2) = 61 then
                        m_X10_next_379 ((ax_w (ax_w (ax_w μ 51 19 (μ 51 18)) 51 20 0) 51 21 0) 55 j2) 1 (ax_w (ax_w (ax_w μ 51 19 (μ 51 18)) 51 20 0) 51 21 0)
                      else
                        m_X10_next_379 ((ax_w (ax_w (ax_w μ 51 19 (μ 51 18)) 51 20 0) 51 21 0) 55 j2) 0 (ax_w (ax_w (ax_w μ 51 19 (μ 51 18)) 51 20 0) 51 21 0)
      else
        m_X10_next_230 fu 0 (ax_w (ax_w (ax_w μ 51 19 (μ 51 18)) 51 20 0) 51 21 0)
    else
      m_X10_next_103 fu (ax_w (ax_w (ax_w μ 51 19 (μ 51 18)) 51 20 0) 51 21 0)
set_option maxRecDepth 100000 in
set_option maxHeartbeats 8000000 in
theorem a_X10_next_52 {G : ax_G} {l : Launch} {sh : List ax_E} {μ : ax_M} (hs : ∀ (k : Nat) (e : ax_E), SHF[k]? = some e → sh[k]? = some e) {v : ax_M} (h : m_X10_next_52 μ = some v) : ax_X G l RX10 cX10_next 3 none false 3 (none, sh, v) 52 [(0, .ref (G.1 + 51))] [] sh μ := by
  unfold m_X10_next_52 at h
  refine ax_aload_n (pc := 52) (i := 0) (q := 0) (ax_dd KX10_next 26 rfl) rfl rfl ?_
  refine ax_aload_n (pc := 53) (i := 0) (q := 0) (ax_dd KX10_next 27 rfl) rfl rfl ?_
  refine ax_getI (pc := 54) (k := 51) (ax_dd KX10_next 28 rfl) f_X10_99 (hs 51 _ rfl) rfl ?_
  refine ax_putI (pc := 57) (k := 51) (ax_dd KX10_next 29 rfl) f_X10_102 ft_X10 (hs 51 _ rfl) rfl (fun _ h9 => by cases h9; rfl) rfl rfl ?_
  refine ax_aload_n (pc := 60) (i := 0) (q := 0) (ax_dd KX10_next 30 rfl) rfl rfl ?_
  refine ax_iconst (pc := 61) (v := 0) (ax_dd KX10_next 31 rfl) (by decide) ?_
  refine ax_putI (pc := 62) (k := 51) (ax_dd KX10_next 32 rfl) f_X10_105 ft_X10 (hs 51 _ rfl) rfl (fun _ h9 => by cases h9; rfl) rfl rfl ?_
  refine ax_aload_n (pc := 65) (i := 0) (q := 0) (ax_dd KX10_next 33 rfl) rfl rfl ?_
  refine ax_iconst (pc := 66) (v := 0) (ax_dd KX10_next 34 rfl) (by decide) ?_
  refine ax_putI (pc := 67) (k := 51) (ax_dd KX10_next 35 rfl) f_X10_108 ft_X10 (hs 51 _ rfl) rfl (fun _ h9 => by cases h9; rfl) rfl rfl ?_
  refine ax_aload_n (pc := 70) (i := 0) (q := 0) (ax_dd KX10_next 36 rfl) rfl rfl ?_
  refine ax_getI (pc := 71) (k := 51) (ax_dd KX10_next 37 rfl) f_X10_99 (hs 51 _ rfl) rfl ?_
  refine ax_aload_n (pc := 74) (i := 0) (q := 0) (ax_dd KX10_next 38 rfl) rfl rfl ?_
  refine ax_getI (pc := 75) (k := 51) (ax_dd KX10_next 39 rfl) f_X10_71 (hs 51 _ rfl) rfl ?_
  by_cases c1 : ((ax_w (ax_w (ax_w μ 51 19 (μ 51 18)) 51 20 0) 51 21 0) 51 18) = ((ax_w (ax_w (ax_w μ 51 19 (μ 51 18)) 51 20 0) 51 21 0) 51 6)
  · rw [if_pos c1] at h
    refine ax_icmp_ne_f (pc := 78) (tgt := 82) (ax_dd KX10_next 40 rfl) (by decide) (fun z => z c1) ?_
    obtain rfl := Option.some.inj h
    exact ax_vret (pc := 81) (ax_dd KX10_next 41 rfl) rfl rfl
  · rw [if_neg c1] at h
    refine ax_icmp_ne_t (pc := 78) (tgt := 82) (ax_dd KX10_next 40 rfl) (by decide) c1 ?_
    refine ax_aload_n (pc := 82) (i := 0) (q := 0) (ax_dd KX10_next 42 rfl) rfl rfl ?_
    refine ax_getR (pc := 83) (k := 51) (q := 55) (ax_dd KX10_next 43 rfl) f_X10_23 (hs 51 _ rfl) rfl ?_
    refine ax_aload_n (pc := 86) (i := 0) (q := 0) (ax_dd KX10_next 44 rfl) rfl rfl ?_
    refine ax_getI (pc := 87) (k := 51) (ax_dd KX10_next 45 rfl) f_X10_99 (hs 51 _ rfl) rfl ?_
    obtain ⟨j2, b3, h⟩ := ob_bind h
    refine ax_ild (pc := 90) (k := 55) (N := 160) (j := j2) (ax_dd KX10_next 46 rfl) (hs 55 _ rfl) b3 ?_
    refine ax_istore_n (pc := 91) (i := 1) (lv' := [(1, .int ((ax_w (ax_w (ax_w μ 51 19 (μ 51 18)) 51 20 0) 51 21 0) 55 j2)), (0, .ref (G.1 + 51))]) (ax_dd KX10_next 47 rfl) rfl (by decide) rfl ?_
    refine ax_iload_n (pc := 92) (i := 1) (q := 0) (ax_dd KX10_next 48 rfl) rfl rfl ?_
    refine ax_bipush (pc := 93) (v := 97) (ax_dd KX10_next 49 rfl) (by decide) ?_
    refine ax_bipush (pc := 95) (v := 122) (ax_dd KX10_next 50 rfl) (by decide) ?_
    obtain ⟨v4, b5, h⟩ := ob_bind h
    refine ax_kS (pc := 97) (As := [.int ((ax_w (ax_w (ax_w μ 51 19 (μ 51 18)) 51 20 0) 51 21 0) 55 j2), .int 97, .int 122]) (rest := []) (st1 := [.int v4]) (μ1 := ax_w (ax_w (ax_w μ 51 19 (μ 51 18)) 51 20 0) 51 21 0) (ax_dd KX10_next 51 rfl) (c_X10_in hs b5) kS_X10_81 e_X10_in rfl rfl (by decide) (by decide) (Nat.le_of_ble_eq_true rfl) rfl ?_
    by_cases c6 : v4 = 0
    · rw [if_pos c6] at h
      refine ax_if_eq_t (pc := 100) (tgt := 217) (ax_dd KX10_next 52 rfl) (by decide) c6 ?_
      refine ax_iload_n (pc := 217) (i := 1) (q := 0) (ax_dd KX10_next 114 rfl) rfl rfl ?_
      refine ax_bipush (pc := 218) (v := 48) (ax_dd KX10_next 115 rfl) (by decide) ?_
      refine ax_bipush (pc := 220) (v := 57) (ax_dd KX10_next 116 rfl) (by decide) ?_
      obtain ⟨v7, b8, h⟩ := ob_bind h
      refine ax_kS (pc := 222) (As := [.int ((ax_w (ax_w (ax_w μ 51 19 (μ 51 18)) 51 20 0) 51 21 0) 55 j2), .int 48, .int 57]) (rest := []) (st1 := [.int v7]) (μ1 := ax_w (ax_w (ax_w μ 51 19 (μ 51 18)) 51 20 0) 51 21 0) (ax_dd KX10_next 117 rfl) (c_X10_in hs b8) kS_X10_81 e_X10_in rfl rfl (by decide) (by decide) (Nat.le_of_ble_eq_true rfl) rfl ?_
      by_cases c9 : v7 = 0
      · rw [if_pos c9] at h
        refine ax_if_eq_t (pc := 225) (tgt := 326) (ax_dd KX10_next 118 rfl) (by decide) c9 ?_
        refine ax_iload_n (pc := 326) (i := 1) (q := 0) (ax_dd KX10_next 171 rfl) rfl rfl ?_
        refine ax_bipush (pc := 327) (v := 40) (ax_dd KX10_next 172 rfl) (by decide) ?_
        by_cases c10 : ((ax_w (ax_w (ax_w μ 51 19 (μ 51 18)) 51 20 0) 51 21 0) 55 j2) = 40
        · rw [if_pos c10] at h
          refine ax_icmp_eq_t (pc := 329) (tgt := 374) (ax_dd KX10_next 173 rfl) (by decide) c10 ?_
          refine ax_iconst (pc := 374) (v := 1) (ax_dd KX10_next 195 rfl) (by decide) ?_
          refine ax_goto (pc := 375) (tgt := 379) (ax_dd KX10_next 196 rfl) (by decide) ?_
          refine ax_sub (lv' := [(0, .ref (G.1 + 51)), (1, .int ((ax_w (ax_w (ax_w μ 51 19 (μ 51 18)) 51 20 0) 51 21 0) 55 j2))]) [1, 0] rfl ?_
          exact a_X10_next_379 hs h
        · rw [if_neg c10] at h
          refine ax_icmp_eq_f (pc := 329) (tgt := 374) (ax_dd KX10_next 173 rfl) (by decide) c10 ?_
          refine ax_iload_n (pc := 332) (i := 1) (q := 0) (ax_dd KX10_next 174 rfl) rfl rfl ?_
          refine ax_bipush (pc := 333) (v := 41) (ax_dd KX10_next 175 rfl) (by decide) ?_
          by_cases c11 : ((ax_w (ax_w (ax_w μ 51 19 (μ 51 18)) 51 20 0) 51 21 0) 55 j2) = 41
          · rw [if_pos c11] at h
            refine ax_icmp_eq_t (pc := 335) (tgt := 374) (ax_dd KX10_next 176 rfl) (by decide) c11 ?_
            refine ax_iconst (pc := 374) (v := 1) (ax_dd KX10_next 195 rfl) (by decide) ?_
            refine ax_goto (pc := 375) (tgt := 379) (ax_dd KX10_next 196 rfl) (by decide) ?_
            refine ax_sub (lv' := [(0, .ref (G.1 + 51)), (1, .int ((ax_w (ax_w (ax_w μ 51 19 (μ 51 18)) 51 20 0) 51 21 0) 55 j2))]) [1, 0] rfl ?_
            exact a_X10_next_379 hs h
          · rw [if_neg c11] at h
            refine ax_icmp_eq_f (pc := 335) (tgt := 374) (ax_dd KX10_next 176 rfl) (by decide) c11 ?_
            refine ax_iload_n (pc := 338) (i := 1) (q := 0) (ax_dd KX10_next 177 rfl) rfl rfl ?_
            refine ax_bipush (pc := 339) (v := 59) (ax_dd KX10_next 178 rfl) (by decide) ?_
            by_cases c12 : ((ax_w (ax_w (ax_w μ 51 19 (μ 51 18)) 51 20 0) 51 21 0) 55 j2) = 59
            · rw [if_pos c12] at h
              refine ax_icmp_eq_t (pc := 341) (tgt := 374) (ax_dd KX10_next 179 rfl) (by decide) c12 ?_
              refine ax_iconst (pc := 374) (v := 1) (ax_dd KX10_next 195 rfl) (by decide) ?_
              refine ax_goto (pc := 375) (tgt := 379) (ax_dd KX10_next 196 rfl) (by decide) ?_
              refine ax_sub (lv' := [(0, .ref (G.1 + 51)), (1, .int ((ax_w (ax_w (ax_w μ 51 19 (μ 51 18)) 51 20 0) 51 21 0) 55 j2))]) [1, 0] rfl ?_
              exact a_X10_next_379 hs h
            · rw [if_neg c12] at h
              refine ax_icmp_eq_f (pc := 341) (tgt := 374) (ax_dd KX10_next 179 rfl) (by decide) c12 ?_
              refine ax_iload_n (pc := 344) (i := 1) (q := 0) (ax_dd KX10_next 180 rfl) rfl rfl ?_
              refine ax_bipush (pc := 345) (v := 43) (ax_dd KX10_next 181 rfl) (by decide) ?_
              by_cases c13 : ((ax_w (ax_w (ax_w μ 51 19 (μ 51 18)) 51 20 0) 51 21 0) 55 j2) = 43
              · rw [if_pos c13] at h
                refine ax_icmp_eq_t (pc := 347) (tgt := 374) (ax_dd KX10_next 182 rfl) (by decide) c13 ?_
                refine ax_iconst (pc := 374) (v := 1) (ax_dd KX10_next 195 rfl) (by decide) ?_
                refine ax_goto (pc := 375) (tgt := 379) (ax_dd KX10_next 196 rfl) (by decide) ?_
                refine ax_sub (lv' := [(0, .ref (G.1 + 51)), (1, .int ((ax_w (ax_w (ax_w μ 51 19 (μ 51 18)) 51 20 0) 51 21 0) 55 j2))]) [1, 0] rfl ?_
                exact a_X10_next_379 hs h
              · rw [if_neg c13] at h
                refine ax_icmp_eq_f (pc := 347) (tgt := 374) (ax_dd KX10_next 182 rfl) (by decide) c13 ?_
                refine ax_iload_n (pc := 350) (i := 1) (q := 0) (ax_dd KX10_next 183 rfl) rfl rfl ?_
                refine ax_bipush (pc := 351) (v := 45) (ax_dd KX10_next 184 rfl) (by decide) ?_
                by_cases c14 : ((ax_w (ax_w (ax_w μ 51 19 (μ 51 18)) 51 20 0) 51 21 0) 55 j2) = 45
                · rw [if_pos c14] at h
                  refine ax_icmp_eq_t (pc := 353) (tgt := 374) (ax_dd KX10_next 185 rfl) (by decide) c14 ?_
                  refine ax_iconst (pc := 374) (v := 1) (ax_dd KX10_next 195 rfl) (by decide) ?_
                  refine ax_goto (pc := 375) (tgt := 379) (ax_dd KX10_next 196 rfl) (by decide) ?_
                  refine ax_sub (lv' := [(0, .ref (G.1 + 51)), (1, .int ((ax_w (ax_w (ax_w μ 51 19 (μ 51 18)) 51 20 0) 51 21 0) 55 j2))]) [1, 0] rfl ?_
                  exact a_X10_next_379 hs h
                · rw [if_neg c14] at h
                  refine ax_icmp_eq_f (pc := 353) (tgt := 374) (ax_dd KX10_next 185 rfl) (by decide) c14 ?_
                  refine ax_iload_n (pc := 356) (i := 1) (q := 0) (ax_dd KX10_next 186 rfl) rfl rfl ?_
                  refine ax_bipush (pc := 357) (v := 42) (ax_dd KX10_next 187 rfl) (by decide) ?_
                  by_cases c15 : ((ax_w (ax_w (ax_w μ 51 19 (μ 51 18)) 51 20 0) 51 21 0) 55 j2) = 42
                  · rw [if_pos c15] at h
                    refine ax_icmp_eq_t (pc := 359) (tgt := 374) (ax_dd KX10_next 188 rfl) (by decide) c15 ?_
                    refine ax_iconst (pc := 374) (v := 1) (ax_dd KX10_next 195 rfl) (by decide) ?_
                    refine ax_goto (pc := 375) (tgt := 379) (ax_dd KX10_next 196 rfl) (by decide) ?_
                    refine ax_sub (lv' := [(0, .ref (G.1 + 51)), (1, .int ((ax_w (ax_w (ax_w μ 51 19 (μ 51 18)) 51 20 0) 51 21 0) 55 j2))]) [1, 0] rfl ?_
                    exact a_X10_next_379 hs h
                  · rw [if_neg c15] at h
                    refine ax_icmp_eq_f (pc := 359) (tgt := 374) (ax_dd KX10_next 188 rfl) (by decide) c15 ?_
                    refine ax_iload_n (pc := 362) (i := 1) (q := 0) (ax_dd KX10_next 189 rfl) rfl rfl ?_
                    refine ax_bipush (pc := 363) (v := 60) (ax_dd KX10_next 190 rfl) (by decide) ?_
                    by_cases c16 : ((ax_w (ax_w (ax_w μ 51 19 (μ 51 18)) 51 20 0) 51 21 0) 55 j2) = 60
                    · rw [if_pos c16] at h
                      refine ax_icmp_eq_t (pc := 365) (tgt := 374) (ax_dd KX10_next 191 rfl) (by decide) c16 ?_
                      refine ax_iconst (pc := 374) (v := 1) (ax_dd KX10_next 195 rfl) (by decide) ?_
                      refine ax_goto (pc := 375) (tgt := 379) (ax_dd KX10_next 196 rfl) (by decide) ?_
                      refine ax_sub (lv' := [(0, .ref (G.1 + 51)), (1, .int ((ax_w (ax_w (ax_w μ 51 19 (μ 51 18)) 51 20 0) 51 21 0) 55 j2))]) [1, 0] rfl ?_
                      exact a_X10_next_379 hs h
                    · rw [if_neg c16] at h
                      refine ax_icmp_eq_f (pc := 365) (tgt := 374) (ax_dd KX10_next 191 rfl) (by decide) c16 ?_
                      refine ax_iload_n (pc := 368) (i := 1) (q := 0) (ax_dd KX10_next 192 rfl) rfl rfl ?_
                      refine ax_bipush (pc := 369) (v := 61) (ax_dd KX10_next 193 rfl) (by decide) ?_
                      by_cases c17 : ((ax_w (ax_w (ax_w μ 51 19 (μ 51 18)) 51 20 0) 51 21 0) 55 j2) = 61
                      · rw [if_pos c17] at h
                        refine ax_icmp_ne_f (pc := 371) (tgt := 378) (ax_dd KX10_next 194 rfl) (by decide) (fun z => z c17) ?_
                        refine ax_iconst (pc := 374) (v := 1) (ax_dd KX10_next 195 rfl) (by decide) ?_
                        refine ax_goto (pc := 375) (tgt := 379) (ax_dd KX10_next 196 rfl) (by decide) ?_
                        refine ax_sub (lv' := [(0, .ref (G.1 + 51)), (1, .int ((ax_w (ax_w (ax_w μ 51 19 (μ 51 18)) 51 20 0) 51 21 0) 55 j2))]) [1, 0] rfl ?_
                        exact a_X10_next_379 hs h
                      · rw [if_neg c17] at h
                        refine ax_icmp_ne_t (pc := 371) (tgt := 378) (ax_dd KX10_next 194 rfl) (by decide) c17 ?_
                        refine ax_iconst (pc := 378) (v := 0) (ax_dd KX10_next 197 rfl) (by decide) ?_
                        refine ax_sub (lv' := [(0, .ref (G.1 + 51)), (1, .int ((ax_w (ax_w (ax_w μ 51 19 (μ 51 18)) 51 20 0) 51 21 0) 55 j2))]) [1, 0] rfl ?_
                        exact a_X10_next_379 hs h
      · rw [if_neg c9] at h
        refine ax_if_eq_f (pc := 225) (tgt := 326) (ax_dd KX10_next 118 rfl) (by decide) c9 ?_
        refine ax_iconst (pc := 228) (v := 0) (ax_dd KX10_next 119 rfl) (by decide) ?_
        refine ax_istore_n (pc := 229) (i := 2) (lv' := [(2, .int 0), (1, .int ((ax_w (ax_w (ax_w μ 51 19 (μ 51 18)) 51 20 0) 51 21 0) 55 j2)), (0, .ref (G.1 + 51))]) (ax_dd KX10_next 120 rfl) rfl (by decide) rfl ?_
        refine ax_sub (lv' := [(0, .ref (G.1 + 51)), (2, .int 0)]) [2, 0] rfl ?_
        exact a_X10_next_230 hs fu _ _ _ h
    · rw [if_neg c6] at h
      refine ax_if_eq_f (pc := 100) (tgt := 217) (ax_dd KX10_next 52 rfl) (by decide) c6 ?_
      refine ax_sub (lv' := [(0, .ref (G.1 + 51))]) [1] rfl ?_
      exact a_X10_next_103 hs fu  _ _ h
def m_X10_next_39 (k0 : ax_M → Option (ax_M)) (μ : ax_M) : Option (ax_M) :=
  k0 (ax_w μ 51 18 ((μ 51 18) + 1))
set_option maxRecDepth 100000 in
set_option maxHeartbeats 8000000 in
theorem a_X10_next_39 {G : ax_G} {l : Launch} {sh : List ax_E} {k0 : ax_M → Option (ax_M)} {μ : ax_M} (hs : ∀ (k : Nat) (e : ax_E), SHF[k]? = some e → sh[k]? = some e) (hk0 : ∀  (μ : ax_M) (v : ax_M), k0  μ = some v → ax_X G l RX10 cX10_next 3 none false 3 (none, sh, v) 0 [(0, .ref (G.1 + 51))] [] sh μ) {v : ax_M} (h : m_X10_next_39 k0 μ = some v) : ax_X G l RX10 cX10_next 3 none false 3 (none, sh, v) 39 [(0, .ref (G.1 + 51))] [] sh μ := by
  unfold m_X10_next_39 at h
  refine ax_aload_n (pc := 39) (i := 0) (q := 0) (ax_dd KX10_next 19 rfl) rfl rfl ?_
  refine ax_dup (pc := 40) (ax_dd KX10_next 20 rfl) rfl ?_
  refine ax_getI (pc := 41) (k := 51) (ax_dd KX10_next 21 rfl) f_X10_99 (hs 51 _ rfl) rfl ?_
  refine ax_iconst (pc := 44) (v := 1) (ax_dd KX10_next 22 rfl) (by decide) ?_
  refine ax_iadd (pc := 45) (ax_dd KX10_next 23 rfl) ?_
  refine ax_putI (pc := 46) (k := 51) (ax_dd KX10_next 24 rfl) f_X10_99 ft_X10 (hs 51 _ rfl) rfl (fun _ h9 => by cases h9; rfl) rfl rfl ?_
  refine ax_goto (pc := 49) (tgt := 0) (ax_dd KX10_next 25 rfl) (by decide) ?_
  exact hk0  _ _ h
def m_X10_next_0 : Nat → ax_M → Option (ax_M)
  | 0, _ => none
  | n + 1, μ =>
    if (μ 51 6) ≤ (μ 51 18) then
      m_X10_next_52 μ
    else
      (ix 160 (μ 51 18)).bind fun j2 =>
      if (μ 55 j2) = 32 then
        m_X10_next_39 (m_X10_next_0 n) μ
      else
        (ix 160 (μ 51 18)).bind fun j5 =>
        if (μ 55 j5) = 10 then
          m_X10_next_39 (m_X10_next_0 n) μ
        else
          m_X10_next_52 μ
set_option maxRecDepth 100000 in
set_option maxHeartbeats 8000000 in
theorem a_X10_next_0 {G : ax_G} {l : Launch} {sh : List ax_E} (hs : ∀ (k : Nat) (e : ax_E), SHF[k]? = some e → sh[k]? = some e) : ∀ (n : Nat)  (μ : ax_M) (v : ax_M), m_X10_next_0 n  μ = some v → ax_X G l RX10 cX10_next 3 none false 3 (none, sh, v) 0 [(0, .ref (G.1 + 51))] [] sh μ := by
  intro n
  induction n with
  | zero =>
    intro  μ v h
    rw [m_X10_next_0] at h
    cases h
  | succ n ih =>
    intro  μ v h
    rw [m_X10_next_0] at h
    refine ax_aload_n (pc := 0) (i := 0) (q := 0) (ax_dd KX10_next 0 rfl) rfl rfl ?_
    refine ax_getI (pc := 1) (k := 51) (ax_dd KX10_next 1 rfl) f_X10_99 (hs 51 _ rfl) rfl ?_
    refine ax_aload_n (pc := 4) (i := 0) (q := 0) (ax_dd KX10_next 2 rfl) rfl rfl ?_
    refine ax_getI (pc := 5) (k := 51) (ax_dd KX10_next 3 rfl) f_X10_71 (hs 51 _ rfl) rfl ?_
    by_cases c1 : (μ 51 6) ≤ (μ 51 18)
    · rw [if_pos c1] at h
      refine ax_icmp_ge_t (pc := 8) (tgt := 52) (ax_dd KX10_next 4 rfl) (by decide) c1 ?_
      exact a_X10_next_52 hs h
    · rw [if_neg c1] at h
      refine ax_icmp_ge_f (pc := 8) (tgt := 52) (ax_dd KX10_next 4 rfl) (by decide) c1 ?_
      refine ax_aload_n (pc := 11) (i := 0) (q := 0) (ax_dd KX10_next 5 rfl) rfl rfl ?_
      refine ax_getR (pc := 12) (k := 51) (q := 55) (ax_dd KX10_next 6 rfl) f_X10_23 (hs 51 _ rfl) rfl ?_
      refine ax_aload_n (pc := 15) (i := 0) (q := 0) (ax_dd KX10_next 7 rfl) rfl rfl ?_
      refine ax_getI (pc := 16) (k := 51) (ax_dd KX10_next 8 rfl) f_X10_99 (hs 51 _ rfl) rfl ?_
      obtain ⟨j2, b3, h⟩ := ob_bind h
      refine ax_ild (pc := 19) (k := 55) (N := 160) (j := j2) (ax_dd KX10_next 9 rfl) (hs 55 _ rfl) b3 ?_
      refine ax_bipush (pc := 20) (v := 32) (ax_dd KX10_next 10 rfl) (by decide) ?_
      by_cases c4 : (μ 55 j2) = 32
      · rw [if_pos c4] at h
        refine ax_icmp_eq_t (pc := 22) (tgt := 39) (ax_dd KX10_next 11 rfl) (by decide) c4 ?_
        exact a_X10_next_39 hs ih h
      · rw [if_neg c4] at h
        refine ax_icmp_eq_f (pc := 22) (tgt := 39) (ax_dd KX10_next 11 rfl) (by decide) c4 ?_
        refine ax_aload_n (pc := 25) (i := 0) (q := 0) (ax_dd KX10_next 12 rfl) rfl rfl ?_
        refine ax_getR (pc := 26) (k := 51) (q := 55) (ax_dd KX10_next 13 rfl) f_X10_23 (hs 51 _ rfl) rfl ?_
        refine ax_aload_n (pc := 29) (i := 0) (q := 0) (ax_dd KX10_next 14 rfl) rfl rfl ?_
        refine ax_getI (pc := 30) (k := 51) (ax_dd KX10_next 15 rfl) f_X10_99 (hs 51 _ rfl) rfl ?_
        obtain ⟨j5, b6, h⟩ := ob_bind h
        refine ax_ild (pc := 33) (k := 55) (N := 160) (j := j5) (ax_dd KX10_next 16 rfl) (hs 55 _ rfl) b6 ?_
        refine ax_bipush (pc := 34) (v := 10) (ax_dd KX10_next 17 rfl) (by decide) ?_
        by_cases c7 : (μ 55 j5) = 10
        · rw [if_pos c7] at h
          refine ax_icmp_ne_f (pc := 36) (tgt := 52) (ax_dd KX10_next 18 rfl) (by decide) (fun z => z c7) ?_
          exact a_X10_next_39 hs ih h
        · rw [if_neg c7] at h
          refine ax_icmp_ne_t (pc := 36) (tgt := 52) (ax_dd KX10_next 18 rfl) (by decide) c7 ?_
          exact a_X10_next_52 hs h
def m_X10_next (μ : ax_M) : Option (ax_M) :=
  m_X10_next_0 fu μ
set_option maxRecDepth 100000 in
set_option maxHeartbeats 8000000 in
theorem c_X10_next {G : ax_G} {l : Launch} {sh : List ax_E} {μ : ax_M} (hs : ∀ (k : Nat) (e : ax_E), SHF[k]? = some e → sh[k]? = some e) {v : ax_M} (h : m_X10_next μ = some v) : ax_A G l yX10_next cX10_next 3 none 3 [.ref (G.1 + 51)] sh μ (none, sh, v) := by
  refine ax_A.of false (by decide +kernel) (fun h9 => by cases h9) (Nat.le_of_ble_eq_true rfl) (?_ : ax_X G l RX10 cX10_next 3 none false 3 (none, sh, v) 0 [(0, .ref (G.1 + 51))] [] sh μ)
  unfold m_X10_next at h
  exact a_X10_next_0 hs fu  _ _ h
def m_X10_puts (x1 : Int32) (μ : ax_M) : Option (ax_M) :=
  (ix 1200 (((200 : Int32) * (μ 51 9)) + (μ 51 26))).bind fun j1 =>
  some (ax_w (ax_w μ 56 j1 x1) 51 26 (((ax_w μ 56 j1 x1) 51 26) + 1))
set_option maxRecDepth 100000 in
set_option maxHeartbeats 8000000 in
theorem c_X10_puts {G : ax_G} {l : Launch} {sh : List ax_E} {x1 : Int32} {μ : ax_M} (hs : ∀ (k : Nat) (e : ax_E), SHF[k]? = some e → sh[k]? = some e) {v : ax_M} (h : m_X10_puts x1 μ = some v) : ax_A G l yX10_puts cX10_puts 2 none 2 [.ref (G.1 + 51), .int x1] sh μ (none, sh, v) := by
  refine ax_A.of false (by decide +kernel) (fun h9 => by cases h9) (Nat.le_of_ble_eq_true rfl) (?_ : ax_X G l RX10 cX10_puts 2 none false 2 (none, sh, v) 0 [(0, .ref (G.1 + 51)), (1, .int x1)] [] sh μ)
  unfold m_X10_puts at h
  refine ax_aload_n (pc := 0) (i := 0) (q := 0) (ax_dd KX10_puts 0 rfl) rfl rfl ?_
  refine ax_getR (pc := 1) (k := 51) (q := 56) (ax_dd KX10_puts 1 rfl) f_X10_26 (hs 51 _ rfl) rfl ?_
  refine ax_sipush (pc := 4) (v := 200) (ax_dd KX10_puts 2 rfl) (by decide) ?_
  refine ax_aload_n (pc := 7) (i := 0) (q := 0) (ax_dd KX10_puts 3 rfl) rfl rfl ?_
  refine ax_getI (pc := 8) (k := 51) (ax_dd KX10_puts 4 rfl) f_X10_89 (hs 51 _ rfl) rfl ?_
  refine ax_imul (pc := 11) (ax_dd KX10_puts 5 rfl) ?_
  refine ax_aload_n (pc := 12) (i := 0) (q := 0) (ax_dd KX10_puts 6 rfl) rfl rfl ?_
  refine ax_getI (pc := 13) (k := 51) (ax_dd KX10_puts 7 rfl) f_X10_114 (hs 51 _ rfl) rfl ?_
  refine ax_iadd (pc := 16) (ax_dd KX10_puts 8 rfl) ?_
  refine ax_iload_n (pc := 17) (i := 1) (q := 1) (ax_dd KX10_puts 9 rfl) rfl rfl ?_
  obtain ⟨j1, b2, h⟩ := ob_bind h
  refine ax_ist (pc := 18) (k := 56) (N := 1200) (j := j1) (ax_dd KX10_puts 10 rfl) (hs 56 _ rfl) b2 ?_
  refine ax_aload_n (pc := 19) (i := 0) (q := 0) (ax_dd KX10_puts 11 rfl) rfl rfl ?_
  refine ax_dup (pc := 20) (ax_dd KX10_puts 12 rfl) rfl ?_
  refine ax_getI (pc := 21) (k := 51) (ax_dd KX10_puts 13 rfl) f_X10_114 (hs 51 _ rfl) rfl ?_
  refine ax_iconst (pc := 24) (v := 1) (ax_dd KX10_puts 14 rfl) (by decide) ?_
  refine ax_iadd (pc := 25) (ax_dd KX10_puts 15 rfl) ?_
  refine ax_putI (pc := 26) (k := 51) (ax_dd KX10_puts 16 rfl) f_X10_114 ft_X10 (hs 51 _ rfl) rfl (fun _ h9 => by cases h9; rfl) rfl rfl ?_
  obtain rfl := Option.some.inj h
  exact ax_vret (pc := 29) (ax_dd KX10_puts 17 rfl) rfl rfl
def m_X10_rank (x0 : Int32) (μ : ax_M) : Option (Int32) :=
  if x0 = 0 then
    some 0
  else
    if x0 = 11 then
      some 1
    else
      if x0 = 12 then
        some 2
      else
        if x0 = 13 then
          some 3
        else
          if 15 < x0 then
            if 17 < x0 then
              if x0 = 18 then
                some 6
              else
                some 7
            else
              some 5
          else
            some 4
set_option maxRecDepth 100000 in
set_option maxHeartbeats 8000000 in
theorem c_X10_rank {G : ax_G} {l : Launch} {sh : List ax_E} {x0 : Int32} {μ : ax_M} (hs : ∀ (k : Nat) (e : ax_E), SHF[k]? = some e → sh[k]? = some e) {v : Int32} (h : m_X10_rank x0 μ = some v) : ax_A G l yX10_rank cX10_rank 1 (some .int) 2 [.int x0] sh μ (some (.int v), sh, μ) := by
  refine ax_A.of false (by decide +kernel) (fun h9 => by cases h9) (Nat.le_of_ble_eq_true rfl) (?_ : ax_X G l RX10 cX10_rank 1 (some .int) false 2 (some (.int v), sh, μ) 0 [(0, .int x0)] [] sh μ)
  unfold m_X10_rank at h
  refine ax_iload_n (pc := 0) (i := 0) (q := 0) (ax_dd KX10_rank 0 rfl) rfl rfl ?_
  by_cases c1 : x0 = 0
  · rw [if_pos c1] at h
    refine ax_if_ne_f (pc := 1) (tgt := 8) (ax_dd KX10_rank 1 rfl) (by decide) (fun z => z c1) ?_
    refine ax_iconst (pc := 4) (v := 0) (ax_dd KX10_rank 2 rfl) (by decide) ?_
    refine ax_goto (pc := 5) (tgt := 71) (ax_dd KX10_rank 3 rfl) (by decide) ?_
    obtain rfl := Option.some.inj h
    exact ax_ireti (pc := 71) (ax_dd KX10_rank 35 rfl) ⟨_, rfl, rfl⟩ rfl
  · rw [if_neg c1] at h
    refine ax_if_ne_t (pc := 1) (tgt := 8) (ax_dd KX10_rank 1 rfl) (by decide) c1 ?_
    refine ax_iload_n (pc := 8) (i := 0) (q := 0) (ax_dd KX10_rank 4 rfl) rfl rfl ?_
    refine ax_bipush (pc := 9) (v := 11) (ax_dd KX10_rank 5 rfl) (by decide) ?_
    by_cases c2 : x0 = 11
    · rw [if_pos c2] at h
      refine ax_icmp_ne_f (pc := 11) (tgt := 18) (ax_dd KX10_rank 6 rfl) (by decide) (fun z => z c2) ?_
      refine ax_iconst (pc := 14) (v := 1) (ax_dd KX10_rank 7 rfl) (by decide) ?_
      refine ax_goto (pc := 15) (tgt := 71) (ax_dd KX10_rank 8 rfl) (by decide) ?_
      obtain rfl := Option.some.inj h
      exact ax_ireti (pc := 71) (ax_dd KX10_rank 35 rfl) ⟨_, rfl, rfl⟩ rfl
    · rw [if_neg c2] at h
      refine ax_icmp_ne_t (pc := 11) (tgt := 18) (ax_dd KX10_rank 6 rfl) (by decide) c2 ?_
      refine ax_iload_n (pc := 18) (i := 0) (q := 0) (ax_dd KX10_rank 9 rfl) rfl rfl ?_
      refine ax_bipush (pc := 19) (v := 12) (ax_dd KX10_rank 10 rfl) (by decide) ?_
      by_cases c3 : x0 = 12
      · rw [if_pos c3] at h
        refine ax_icmp_ne_f (pc := 21) (tgt := 28) (ax_dd KX10_rank 11 rfl) (by decide) (fun z => z c3) ?_
        refine ax_iconst (pc := 24) (v := 2) (ax_dd KX10_rank 12 rfl) (by decide) ?_
        refine ax_goto (pc := 25) (tgt := 71) (ax_dd KX10_rank 13 rfl) (by decide) ?_
        obtain rfl := Option.some.inj h
        exact ax_ireti (pc := 71) (ax_dd KX10_rank 35 rfl) ⟨_, rfl, rfl⟩ rfl
      · rw [if_neg c3] at h
        refine ax_icmp_ne_t (pc := 21) (tgt := 28) (ax_dd KX10_rank 11 rfl) (by decide) c3 ?_
        refine ax_iload_n (pc := 28) (i := 0) (q := 0) (ax_dd KX10_rank 14 rfl) rfl rfl ?_
        refine ax_bipush (pc := 29) (v := 13) (ax_dd KX10_rank 15 rfl) (by decide) ?_
        by_cases c4 : x0 = 13
        · rw [if_pos c4] at h
          refine ax_icmp_ne_f (pc := 31) (tgt := 38) (ax_dd KX10_rank 16 rfl) (by decide) (fun z => z c4) ?_
          refine ax_iconst (pc := 34) (v := 3) (ax_dd KX10_rank 17 rfl) (by decide) ?_
          refine ax_goto (pc := 35) (tgt := 71) (ax_dd KX10_rank 18 rfl) (by decide) ?_
          obtain rfl := Option.some.inj h
          exact ax_ireti (pc := 71) (ax_dd KX10_rank 35 rfl) ⟨_, rfl, rfl⟩ rfl
        · rw [if_neg c4] at h
          refine ax_icmp_ne_t (pc := 31) (tgt := 38) (ax_dd KX10_rank 16 rfl) (by decide) c4 ?_
          refine ax_iload_n (pc := 38) (i := 0) (q := 0) (ax_dd KX10_rank 19 rfl) rfl rfl ?_
          refine ax_bipush (pc := 39) (v := 15) (ax_dd KX10_rank 20 rfl) (by decide) ?_
          by_cases c5 : 15 < x0
          · rw [if_pos c5] at h
            refine ax_icmp_gt_t (pc := 41) (tgt := 48) (ax_dd KX10_rank 21 rfl) (by decide) c5 ?_
            refine ax_iload_n (pc := 48) (i := 0) (q := 0) (ax_dd KX10_rank 24 rfl) rfl rfl ?_
            refine ax_bipush (pc := 49) (v := 17) (ax_dd KX10_rank 25 rfl) (by decide) ?_
            by_cases c6 : 17 < x0
            · rw [if_pos c6] at h
              refine ax_icmp_gt_t (pc := 51) (tgt := 58) (ax_dd KX10_rank 26 rfl) (by decide) c6 ?_
              refine ax_iload_n (pc := 58) (i := 0) (q := 0) (ax_dd KX10_rank 29 rfl) rfl rfl ?_
              refine ax_bipush (pc := 59) (v := 18) (ax_dd KX10_rank 30 rfl) (by decide) ?_
              by_cases c7 : x0 = 18
              · rw [if_pos c7] at h
                refine ax_icmp_ne_f (pc := 61) (tgt := 69) (ax_dd KX10_rank 31 rfl) (by decide) (fun z => z c7) ?_
                refine ax_bipush (pc := 64) (v := 6) (ax_dd KX10_rank 32 rfl) (by decide) ?_
                refine ax_goto (pc := 66) (tgt := 71) (ax_dd KX10_rank 33 rfl) (by decide) ?_
                obtain rfl := Option.some.inj h
                exact ax_ireti (pc := 71) (ax_dd KX10_rank 35 rfl) ⟨_, rfl, rfl⟩ rfl
              · rw [if_neg c7] at h
                refine ax_icmp_ne_t (pc := 61) (tgt := 69) (ax_dd KX10_rank 31 rfl) (by decide) c7 ?_
                refine ax_bipush (pc := 69) (v := 7) (ax_dd KX10_rank 34 rfl) (by decide) ?_
                obtain rfl := Option.some.inj h
                exact ax_ireti (pc := 71) (ax_dd KX10_rank 35 rfl) ⟨_, rfl, rfl⟩ rfl
            · rw [if_neg c6] at h
              refine ax_icmp_gt_f (pc := 51) (tgt := 58) (ax_dd KX10_rank 26 rfl) (by decide) c6 ?_
              refine ax_iconst (pc := 54) (v := 5) (ax_dd KX10_rank 27 rfl) (by decide) ?_
              refine ax_goto (pc := 55) (tgt := 71) (ax_dd KX10_rank 28 rfl) (by decide) ?_
              obtain rfl := Option.some.inj h
              exact ax_ireti (pc := 71) (ax_dd KX10_rank 35 rfl) ⟨_, rfl, rfl⟩ rfl
          · rw [if_neg c5] at h
            refine ax_icmp_gt_f (pc := 41) (tgt := 48) (ax_dd KX10_rank 21 rfl) (by decide) c5 ?_
            refine ax_iconst (pc := 44) (v := 4) (ax_dd KX10_rank 22 rfl) (by decide) ?_
            refine ax_goto (pc := 45) (tgt := 71) (ax_dd KX10_rank 23 rfl) (by decide) ?_
            obtain rfl := Option.some.inj h
            exact ax_ireti (pc := 71) (ax_dd KX10_rank 35 rfl) ⟨_, rfl, rfl⟩ rfl
