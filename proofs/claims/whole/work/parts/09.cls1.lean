def m_X7_value_152 (x1 : Int32) (x2 : Int32) (x3 : Int32) (x5 : Int32) (x6 : Int32) (k26 : Int32 → Int32 → ax_M → Option (Int32 × ax_M)) (μ : ax_M) : Option (Int32 × ax_M) :=
  if x6 = 20 then
    if x3 ≤ 0 then
      m_X7_value_183 x1 x2 x3 x5 x6 k26 μ
    else
      (ix 160 (x3 - 1)).bind fun j3 =>
      (ix 160 (x3 - 1)).bind fun j5 =>
      k26 x3 (x5 + 1) (ax_w μ 17 j5 (-(μ 17 j3)))
  else
    m_X7_value_183 x1 x2 x3 x5 x6 k26 μ
set_option maxRecDepth 100000 in
set_option maxHeartbeats 8000000 in
theorem a_X7_value_152 {G : ax_G} {l : Launch} {sh : List ax_E} {x1 : Int32} {x2 : Int32} {x3 : Int32} {x5 : Int32} {x6 : Int32} {k26 : Int32 → Int32 → ax_M → Option (Int32 × ax_M)} {μ : ax_M} (hs : ∀ (k : Nat) (e : ax_E), SHc[k]? = some e → sh[k]? = some e) (hk26 : ∀ (x3 : Int32) (x5 : Int32) (μ : ax_M) (v : Int32 × ax_M), k26 x3 x5 μ = some v → ax_X G l RX7 cX7_value 9 (some .int) false 2 (some (.int v.1), sh, v.2) 26 [(0, .ref (G.1 + 1)), (1, .int x1), (2, .int x2), (3, .int x3), (5, .int x5)] [] sh μ) {v : Int32 × ax_M} (h : m_X7_value_152 x1 x2 x3 x5 x6 k26 μ = some v) : ax_X G l RX7 cX7_value 9 (some .int) false 2 (some (.int v.1), sh, v.2) 152 [(0, .ref (G.1 + 1)), (1, .int x1), (2, .int x2), (3, .int x3), (5, .int x5), (6, .int x6)] [] sh μ := by
  unfold m_X7_value_152 at h
  refine ax_iload (pc := 152) (q := 5) (ax_dd KX7_value 85 rfl) rfl ?_
  refine ax_bipush (pc := 154) (v := 20) (ax_dd KX7_value 86 rfl) (by decide) ?_
  by_cases c1 : x6 = 20
  · rw [if_pos c1] at h
    refine ax_icmp_ne_f (pc := 156) (tgt := 183) (ax_dd KX7_value 87 rfl) (by decide) (fun z => z c1) ?_
    refine ax_iload_n (pc := 159) (i := 3) (q := 3) (ax_dd KX7_value 88 rfl) rfl rfl ?_
    by_cases c2 : x3 ≤ 0
    · rw [if_pos c2] at h
      refine ax_if_le_t (pc := 160) (tgt := 183) (ax_dd KX7_value 89 rfl) (by decide) c2 ?_
      exact a_X7_value_183 hs hk26 h
    · rw [if_neg c2] at h
      refine ax_if_le_f (pc := 160) (tgt := 183) (ax_dd KX7_value 89 rfl) (by decide) c2 ?_
      refine ax_aload_n (pc := 163) (i := 0) (q := 0) (ax_dd KX7_value 90 rfl) rfl rfl ?_
      refine ax_getR (pc := 164) (k := 1) (q := 17) (ax_dd KX7_value 91 rfl) f_X7_23 (hs 1 _ rfl) rfl ?_
      refine ax_iload_n (pc := 167) (i := 3) (q := 3) (ax_dd KX7_value 92 rfl) rfl rfl ?_
      refine ax_iconst (pc := 168) (v := 1) (ax_dd KX7_value 93 rfl) (by decide) ?_
      refine ax_isub (pc := 169) (ax_dd KX7_value 94 rfl) ?_
      refine ax_aload_n (pc := 170) (i := 0) (q := 0) (ax_dd KX7_value 95 rfl) rfl rfl ?_
      refine ax_getR (pc := 171) (k := 1) (q := 17) (ax_dd KX7_value 96 rfl) f_X7_23 (hs 1 _ rfl) rfl ?_
      refine ax_iload_n (pc := 174) (i := 3) (q := 3) (ax_dd KX7_value 97 rfl) rfl rfl ?_
      refine ax_iconst (pc := 175) (v := 1) (ax_dd KX7_value 98 rfl) (by decide) ?_
      refine ax_isub (pc := 176) (ax_dd KX7_value 99 rfl) ?_
      obtain ⟨j3, b4, h⟩ := ob_bind h
      refine ax_ild (pc := 177) (k := 17) (N := 160) (j := j3) (ax_dd KX7_value 100 rfl) (hs 17 _ rfl) b4 ?_
      refine ax_ineg (pc := 178) (ax_dd KX7_value 101 rfl) ?_
      obtain ⟨j5, b6, h⟩ := ob_bind h
      refine ax_ist (pc := 179) (k := 17) (N := 160) (j := j5) (ax_dd KX7_value 102 rfl) (hs 17 _ rfl) b6 ?_
      refine ax_goto (pc := 180) (tgt := 375) (ax_dd KX7_value 103 rfl) (by decide) ?_
      refine ax_iinc (pc := 375) (q := 4) (v := (x5 + 1)) (lv' := [(5, .int (x5 + 1)), (0, .ref (G.1 + 1)), (1, .int x1), (2, .int x2), (3, .int x3), (6, .int x6)]) (ax_dd KX7_value 177 rfl) rfl rfl (by decide) rfl ?_
      refine ax_goto (pc := 378) (tgt := 26) (ax_dd KX7_value 178 rfl) (by decide) ?_
      refine ax_sub (lv' := [(0, .ref (G.1 + 1)), (1, .int x1), (2, .int x2), (3, .int x3), (5, .int (x5 + 1))]) [1, 2, 3, 4, 0] rfl ?_
      exact hk26 _ _ _ _ h
  · rw [if_neg c1] at h
    refine ax_icmp_ne_t (pc := 156) (tgt := 183) (ax_dd KX7_value 87 rfl) (by decide) c1 ?_
    exact a_X7_value_183 hs hk26 h
def m_X7_value_114 (x1 : Int32) (x2 : Int32) (x3 : Int32) (x5 : Int32) (x6 : Int32) (k26 : Int32 → Int32 → ax_M → Option (Int32 × ax_M)) (μ : ax_M) : Option (Int32 × ax_M) :=
  if x6 = 8 then
    if x3 ≤ 0 then
      m_X7_value_152 x1 x2 x3 x5 x6 k26 μ
    else
      (ix 160 (x3 - 1)).bind fun j3 =>
      if (μ 17 j3) = 0 then
        (ix 160 (x3 - 1)).bind fun j6 =>
        k26 x3 (x5 + 1) (ax_w μ 17 j6 1)
      else
        (ix 160 (x3 - 1)).bind fun j8 =>
        k26 x3 (x5 + 1) (ax_w μ 17 j8 0)
  else
    m_X7_value_152 x1 x2 x3 x5 x6 k26 μ
set_option maxRecDepth 100000 in
set_option maxHeartbeats 8000000 in
theorem a_X7_value_114 {G : ax_G} {l : Launch} {sh : List ax_E} {x1 : Int32} {x2 : Int32} {x3 : Int32} {x5 : Int32} {x6 : Int32} {k26 : Int32 → Int32 → ax_M → Option (Int32 × ax_M)} {μ : ax_M} (hs : ∀ (k : Nat) (e : ax_E), SHc[k]? = some e → sh[k]? = some e) (hk26 : ∀ (x3 : Int32) (x5 : Int32) (μ : ax_M) (v : Int32 × ax_M), k26 x3 x5 μ = some v → ax_X G l RX7 cX7_value 9 (some .int) false 2 (some (.int v.1), sh, v.2) 26 [(0, .ref (G.1 + 1)), (1, .int x1), (2, .int x2), (3, .int x3), (5, .int x5)] [] sh μ) {v : Int32 × ax_M} (h : m_X7_value_114 x1 x2 x3 x5 x6 k26 μ = some v) : ax_X G l RX7 cX7_value 9 (some .int) false 2 (some (.int v.1), sh, v.2) 114 [(0, .ref (G.1 + 1)), (1, .int x1), (2, .int x2), (3, .int x3), (5, .int x5), (6, .int x6)] [] sh μ := by
  unfold m_X7_value_114 at h
  refine ax_iload (pc := 114) (q := 5) (ax_dd KX7_value 63 rfl) rfl ?_
  refine ax_bipush (pc := 116) (v := 8) (ax_dd KX7_value 64 rfl) (by decide) ?_
  by_cases c1 : x6 = 8
  · rw [if_pos c1] at h
    refine ax_icmp_ne_f (pc := 118) (tgt := 152) (ax_dd KX7_value 65 rfl) (by decide) (fun z => z c1) ?_
    refine ax_iload_n (pc := 121) (i := 3) (q := 3) (ax_dd KX7_value 66 rfl) rfl rfl ?_
    by_cases c2 : x3 ≤ 0
    · rw [if_pos c2] at h
      refine ax_if_le_t (pc := 122) (tgt := 152) (ax_dd KX7_value 67 rfl) (by decide) c2 ?_
      exact a_X7_value_152 hs hk26 h
    · rw [if_neg c2] at h
      refine ax_if_le_f (pc := 122) (tgt := 152) (ax_dd KX7_value 67 rfl) (by decide) c2 ?_
      refine ax_aload_n (pc := 125) (i := 0) (q := 0) (ax_dd KX7_value 68 rfl) rfl rfl ?_
      refine ax_getR (pc := 126) (k := 1) (q := 17) (ax_dd KX7_value 69 rfl) f_X7_23 (hs 1 _ rfl) rfl ?_
      refine ax_iload_n (pc := 129) (i := 3) (q := 3) (ax_dd KX7_value 70 rfl) rfl rfl ?_
      refine ax_iconst (pc := 130) (v := 1) (ax_dd KX7_value 71 rfl) (by decide) ?_
      refine ax_isub (pc := 131) (ax_dd KX7_value 72 rfl) ?_
      refine ax_aload_n (pc := 132) (i := 0) (q := 0) (ax_dd KX7_value 73 rfl) rfl rfl ?_
      refine ax_getR (pc := 133) (k := 1) (q := 17) (ax_dd KX7_value 74 rfl) f_X7_23 (hs 1 _ rfl) rfl ?_
      refine ax_iload_n (pc := 136) (i := 3) (q := 3) (ax_dd KX7_value 75 rfl) rfl rfl ?_
      refine ax_iconst (pc := 137) (v := 1) (ax_dd KX7_value 76 rfl) (by decide) ?_
      refine ax_isub (pc := 138) (ax_dd KX7_value 77 rfl) ?_
      obtain ⟨j3, b4, h⟩ := ob_bind h
      refine ax_ild (pc := 139) (k := 17) (N := 160) (j := j3) (ax_dd KX7_value 78 rfl) (hs 17 _ rfl) b4 ?_
      by_cases c5 : (μ 17 j3) = 0
      · rw [if_pos c5] at h
        refine ax_if_ne_f (pc := 140) (tgt := 147) (ax_dd KX7_value 79 rfl) (by decide) (fun z => z c5) ?_
        refine ax_iconst (pc := 143) (v := 1) (ax_dd KX7_value 80 rfl) (by decide) ?_
        refine ax_goto (pc := 144) (tgt := 148) (ax_dd KX7_value 81 rfl) (by decide) ?_
        obtain ⟨j6, b7, h⟩ := ob_bind h
        refine ax_ist (pc := 148) (k := 17) (N := 160) (j := j6) (ax_dd KX7_value 83 rfl) (hs 17 _ rfl) b7 ?_
        refine ax_goto (pc := 149) (tgt := 375) (ax_dd KX7_value 84 rfl) (by decide) ?_
        refine ax_iinc (pc := 375) (q := 4) (v := (x5 + 1)) (lv' := [(5, .int (x5 + 1)), (0, .ref (G.1 + 1)), (1, .int x1), (2, .int x2), (3, .int x3), (6, .int x6)]) (ax_dd KX7_value 177 rfl) rfl rfl (by decide) rfl ?_
        refine ax_goto (pc := 378) (tgt := 26) (ax_dd KX7_value 178 rfl) (by decide) ?_
        refine ax_sub (lv' := [(0, .ref (G.1 + 1)), (1, .int x1), (2, .int x2), (3, .int x3), (5, .int (x5 + 1))]) [1, 2, 3, 4, 0] rfl ?_
        exact hk26 _ _ _ _ h
      · rw [if_neg c5] at h
        refine ax_if_ne_t (pc := 140) (tgt := 147) (ax_dd KX7_value 79 rfl) (by decide) c5 ?_
        refine ax_iconst (pc := 147) (v := 0) (ax_dd KX7_value 82 rfl) (by decide) ?_
        obtain ⟨j8, b9, h⟩ := ob_bind h
        refine ax_ist (pc := 148) (k := 17) (N := 160) (j := j8) (ax_dd KX7_value 83 rfl) (hs 17 _ rfl) b9 ?_
        refine ax_goto (pc := 149) (tgt := 375) (ax_dd KX7_value 84 rfl) (by decide) ?_
        refine ax_iinc (pc := 375) (q := 4) (v := (x5 + 1)) (lv' := [(5, .int (x5 + 1)), (0, .ref (G.1 + 1)), (1, .int x1), (2, .int x2), (3, .int x3), (6, .int x6)]) (ax_dd KX7_value 177 rfl) rfl rfl (by decide) rfl ?_
        refine ax_goto (pc := 378) (tgt := 26) (ax_dd KX7_value 178 rfl) (by decide) ?_
        refine ax_sub (lv' := [(0, .ref (G.1 + 1)), (1, .int x1), (2, .int x2), (3, .int x3), (5, .int (x5 + 1))]) [1, 2, 3, 4, 0] rfl ?_
        exact hk26 _ _ _ _ h
  · rw [if_neg c1] at h
    refine ax_icmp_ne_t (pc := 118) (tgt := 152) (ax_dd KX7_value 65 rfl) (by decide) c1 ?_
    exact a_X7_value_152 hs hk26 h
def m_X7_value_81 (x1 : Int32) (x2 : Int32) (x3 : Int32) (x5 : Int32) (x6 : Int32) (k26 : Int32 → Int32 → ax_M → Option (Int32 × ax_M)) (μ : ax_M) : Option (Int32 × ax_M) :=
  if 6 ≤ x6 then
    m_X7_value_114 x1 x2 x3 x5 x6 k26 μ
  else
    if 160 ≤ x3 then
      m_X7_value_114 x1 x2 x3 x5 x6 k26 μ
    else
      (ix 6 x6).bind fun j3 =>
      (ix 160 x3).bind fun j5 =>
      k26 (x3 + 1) (x5 + 1) (ax_w μ 17 j5 (μ 16 j3))
set_option maxRecDepth 100000 in
set_option maxHeartbeats 8000000 in
theorem a_X7_value_81 {G : ax_G} {l : Launch} {sh : List ax_E} {x1 : Int32} {x2 : Int32} {x3 : Int32} {x5 : Int32} {x6 : Int32} {k26 : Int32 → Int32 → ax_M → Option (Int32 × ax_M)} {μ : ax_M} (hs : ∀ (k : Nat) (e : ax_E), SHc[k]? = some e → sh[k]? = some e) (hk26 : ∀ (x3 : Int32) (x5 : Int32) (μ : ax_M) (v : Int32 × ax_M), k26 x3 x5 μ = some v → ax_X G l RX7 cX7_value 9 (some .int) false 2 (some (.int v.1), sh, v.2) 26 [(0, .ref (G.1 + 1)), (1, .int x1), (2, .int x2), (3, .int x3), (5, .int x5)] [] sh μ) {v : Int32 × ax_M} (h : m_X7_value_81 x1 x2 x3 x5 x6 k26 μ = some v) : ax_X G l RX7 cX7_value 9 (some .int) false 2 (some (.int v.1), sh, v.2) 81 [(0, .ref (G.1 + 1)), (1, .int x1), (2, .int x2), (3, .int x3), (5, .int x5), (6, .int x6)] [] sh μ := by
  unfold m_X7_value_81 at h
  refine ax_iload (pc := 81) (q := 5) (ax_dd KX7_value 47 rfl) rfl ?_
  refine ax_bipush (pc := 83) (v := 6) (ax_dd KX7_value 48 rfl) (by decide) ?_
  by_cases c1 : 6 ≤ x6
  · rw [if_pos c1] at h
    refine ax_icmp_ge_t (pc := 85) (tgt := 114) (ax_dd KX7_value 49 rfl) (by decide) c1 ?_
    exact a_X7_value_114 hs hk26 h
  · rw [if_neg c1] at h
    refine ax_icmp_ge_f (pc := 85) (tgt := 114) (ax_dd KX7_value 49 rfl) (by decide) c1 ?_
    refine ax_iload_n (pc := 88) (i := 3) (q := 3) (ax_dd KX7_value 50 rfl) rfl rfl ?_
    refine ax_sipush (pc := 89) (v := 160) (ax_dd KX7_value 51 rfl) (by decide) ?_
    by_cases c2 : 160 ≤ x3
    · rw [if_pos c2] at h
      refine ax_icmp_ge_t (pc := 92) (tgt := 114) (ax_dd KX7_value 52 rfl) (by decide) c2 ?_
      exact a_X7_value_114 hs hk26 h
    · rw [if_neg c2] at h
      refine ax_icmp_ge_f (pc := 92) (tgt := 114) (ax_dd KX7_value 52 rfl) (by decide) c2 ?_
      refine ax_aload_n (pc := 95) (i := 0) (q := 0) (ax_dd KX7_value 53 rfl) rfl rfl ?_
      refine ax_getR (pc := 96) (k := 1) (q := 17) (ax_dd KX7_value 54 rfl) f_X7_23 (hs 1 _ rfl) rfl ?_
      refine ax_iload_n (pc := 99) (i := 3) (q := 3) (ax_dd KX7_value 55 rfl) rfl rfl ?_
      refine ax_iinc (pc := 100) (q := 3) (v := (x3 + 1)) (lv' := [(3, .int (x3 + 1)), (0, .ref (G.1 + 1)), (1, .int x1), (2, .int x2), (5, .int x5), (6, .int x6)]) (ax_dd KX7_value 56 rfl) rfl rfl (by decide) rfl ?_
      refine ax_aload_n (pc := 103) (i := 0) (q := 1) (ax_dd KX7_value 57 rfl) rfl rfl ?_
      refine ax_getR (pc := 104) (k := 1) (q := 16) (ax_dd KX7_value 58 rfl) f_X7_19 (hs 1 _ rfl) rfl ?_
      refine ax_iload (pc := 107) (q := 5) (ax_dd KX7_value 59 rfl) rfl ?_
      obtain ⟨j3, b4, h⟩ := ob_bind h
      refine ax_ild (pc := 109) (k := 16) (N := 6) (j := j3) (ax_dd KX7_value 60 rfl) (hs 16 _ rfl) b4 ?_
      obtain ⟨j5, b6, h⟩ := ob_bind h
      refine ax_ist (pc := 110) (k := 17) (N := 160) (j := j5) (ax_dd KX7_value 61 rfl) (hs 17 _ rfl) b6 ?_
      refine ax_goto (pc := 111) (tgt := 375) (ax_dd KX7_value 62 rfl) (by decide) ?_
      refine ax_iinc (pc := 375) (q := 4) (v := (x5 + 1)) (lv' := [(5, .int (x5 + 1)), (3, .int (x3 + 1)), (0, .ref (G.1 + 1)), (1, .int x1), (2, .int x2), (6, .int x6)]) (ax_dd KX7_value 177 rfl) rfl rfl (by decide) rfl ?_
      refine ax_goto (pc := 378) (tgt := 26) (ax_dd KX7_value 178 rfl) (by decide) ?_
      refine ax_sub (lv' := [(0, .ref (G.1 + 1)), (1, .int x1), (2, .int x2), (3, .int (x3 + 1)), (5, .int (x5 + 1))]) [2, 3, 4, 1, 0] rfl ?_
      exact hk26 _ _ _ _ h
def m_X7_value_26 (x1 : Int32) (x2 : Int32) : Nat → Int32 → Int32 → ax_M → Option (Int32 × ax_M)
  | 0, _, _, _ => none
  | n + 1, x3, x5, μ =>
    (ix 6 x1).bind fun j1 =>
    (q_ld μ (10 + j1) x2).bind fun j3 =>
    if j3 ≤ x5 then
      some ((μ 17 0), μ)
    else
      (ix 6 x1).bind fun j8 =>
      (q_ld μ (3 + j8) x5).bind fun j10 =>
      if j10 < 23 then
        m_X7_value_81 x1 x2 x3 x5 j10 (m_X7_value_26 x1 x2 n) μ
      else
        if 160 ≤ x3 then
          m_X7_value_81 x1 x2 x3 x5 j10 (m_X7_value_26 x1 x2 n) μ
        else
          (ix 160 x3).bind fun j14 =>
          m_X7_value_26 x1 x2 n (x3 + 1) (x5 + 1) (ax_w μ 17 j14 (j10 - 23))
set_option maxRecDepth 100000 in
set_option maxHeartbeats 8000000 in
theorem a_X7_value_26 {G : ax_G} {l : Launch} {sh : List ax_E} {x1 : Int32} {x2 : Int32} (hs : ∀ (k : Nat) (e : ax_E), SHc[k]? = some e → sh[k]? = some e) : ∀ (n : Nat) (x3 : Int32) (x5 : Int32) (μ : ax_M) (v : Int32 × ax_M), m_X7_value_26 x1 x2 n x3 x5 μ = some v → ax_X G l RX7 cX7_value 9 (some .int) false 2 (some (.int v.1), sh, v.2) 26 [(0, .ref (G.1 + 1)), (1, .int x1), (2, .int x2), (3, .int x3), (5, .int x5)] [] sh μ := by
  intro n
  induction n with
  | zero =>
    intro x3 x5 μ v h
    rw [m_X7_value_26] at h
    cases h
  | succ n ih =>
    intro x3 x5 μ v h
    rw [m_X7_value_26] at h
    refine ax_iload (pc := 26) (q := 4) (ax_dd KX7_value 17 rfl) rfl ?_
    refine ax_aload_n (pc := 28) (i := 0) (q := 0) (ax_dd KX7_value 18 rfl) rfl rfl ?_
    refine ax_getR (pc := 29) (k := 1) (q := 9) (ax_dd KX7_value 19 rfl) f_X7_16 (hs 1 _ rfl) rfl ?_
    refine ax_iload_n (pc := 32) (i := 1) (q := 1) (ax_dd KX7_value 20 rfl) rfl rfl ?_
    obtain ⟨j1, b2, h⟩ := ob_bind h
    refine ax_ald (pc := 33) (k := 9) (b0 := 10) (N := 6) (j := j1) (ax_dd KX7_value 21 rfl) (hs 9 _ rfl) b2 ?_
    refine ax_iload_n (pc := 34) (i := 2) (q := 2) (ax_dd KX7_value 22 rfl) rfl rfl ?_
    obtain ⟨j3, b4, h⟩ := ob_bind h
    refine ax_qld (pc := 35) (ax_dd KX7_value 23 rfl) hs b4 ?_
    by_cases c5 : j3 ≤ x5
    · rw [if_pos c5] at h
      refine ax_icmp_ge_t (pc := 36) (tgt := 381) (ax_dd KX7_value 24 rfl) (by decide) c5 ?_
      refine ax_aload_n (pc := 381) (i := 0) (q := 0) (ax_dd KX7_value 179 rfl) rfl rfl ?_
      refine ax_getR (pc := 382) (k := 1) (q := 17) (ax_dd KX7_value 180 rfl) f_X7_23 (hs 1 _ rfl) rfl ?_
      refine ax_iconst (pc := 385) (v := 0) (ax_dd KX7_value 181 rfl) (by decide) ?_
      refine ax_iald (pc := 386) (k := 17) (n := 160) (ax_dd KX7_value 182 rfl) (hs 17 _ rfl) (ax_inC (by decide)) ?_
      show ax_X G l RX7 cX7_value 9 (some .int) false 2 _ 387 [(0, .ref (G.1 + 1)), (1, .int x1), (2, .int x2), (3, .int x3), (5, .int x5)] [.int (μ 17 0)] sh μ
      obtain rfl := Option.some.inj h
      exact ax_ireti (pc := 387) (ax_dd KX7_value 183 rfl) ⟨_, rfl, rfl⟩ rfl
    · rw [if_neg c5] at h
      refine ax_icmp_ge_f (pc := 36) (tgt := 381) (ax_dd KX7_value 24 rfl) (by decide) c5 ?_
      refine ax_aload_n (pc := 39) (i := 0) (q := 0) (ax_dd KX7_value 25 rfl) rfl rfl ?_
      refine ax_getR (pc := 40) (k := 1) (q := 2) (ax_dd KX7_value 26 rfl) f_X7_11 (hs 1 _ rfl) rfl ?_
      refine ax_iload_n (pc := 43) (i := 1) (q := 1) (ax_dd KX7_value 27 rfl) rfl rfl ?_
      obtain ⟨j8, b9, h⟩ := ob_bind h
      refine ax_ald (pc := 44) (k := 2) (b0 := 3) (N := 6) (j := j8) (ax_dd KX7_value 28 rfl) (hs 2 _ rfl) b9 ?_
      refine ax_iload (pc := 45) (q := 4) (ax_dd KX7_value 29 rfl) rfl ?_
      obtain ⟨j10, b11, h⟩ := ob_bind h
      refine ax_qld (pc := 47) (ax_dd KX7_value 30 rfl) hs b11 ?_
      refine ax_istore (pc := 48) (lv' := [(6, .int j10), (0, .ref (G.1 + 1)), (1, .int x1), (2, .int x2), (3, .int x3), (5, .int x5)]) (ax_dd KX7_value 31 rfl) (by decide) rfl ?_
      refine ax_iload (pc := 50) (q := 0) (ax_dd KX7_value 32 rfl) rfl ?_
      refine ax_bipush (pc := 52) (v := 23) (ax_dd KX7_value 33 rfl) (by decide) ?_
      by_cases c12 : j10 < 23
      · rw [if_pos c12] at h
        refine ax_icmp_lt_t (pc := 54) (tgt := 81) (ax_dd KX7_value 34 rfl) (by decide) c12 ?_
        refine ax_sub (lv' := [(0, .ref (G.1 + 1)), (1, .int x1), (2, .int x2), (3, .int x3), (5, .int x5), (6, .int j10)]) [1, 2, 3, 4, 5, 0] rfl ?_
        exact a_X7_value_81 hs ih h
      · rw [if_neg c12] at h
        refine ax_icmp_lt_f (pc := 54) (tgt := 81) (ax_dd KX7_value 34 rfl) (by decide) c12 ?_
        refine ax_iload_n (pc := 57) (i := 3) (q := 4) (ax_dd KX7_value 35 rfl) rfl rfl ?_
        refine ax_sipush (pc := 58) (v := 160) (ax_dd KX7_value 36 rfl) (by decide) ?_
        by_cases c13 : 160 ≤ x3
        · rw [if_pos c13] at h
          refine ax_icmp_ge_t (pc := 61) (tgt := 81) (ax_dd KX7_value 37 rfl) (by decide) c13 ?_
          refine ax_sub (lv' := [(0, .ref (G.1 + 1)), (1, .int x1), (2, .int x2), (3, .int x3), (5, .int x5), (6, .int j10)]) [1, 2, 3, 4, 5, 0] rfl ?_
          exact a_X7_value_81 hs ih h
        · rw [if_neg c13] at h
          refine ax_icmp_ge_f (pc := 61) (tgt := 81) (ax_dd KX7_value 37 rfl) (by decide) c13 ?_
          refine ax_aload_n (pc := 64) (i := 0) (q := 1) (ax_dd KX7_value 38 rfl) rfl rfl ?_
          refine ax_getR (pc := 65) (k := 1) (q := 17) (ax_dd KX7_value 39 rfl) f_X7_23 (hs 1 _ rfl) rfl ?_
          refine ax_iload_n (pc := 68) (i := 3) (q := 4) (ax_dd KX7_value 40 rfl) rfl rfl ?_
          refine ax_iinc (pc := 69) (q := 4) (v := (x3 + 1)) (lv' := [(3, .int (x3 + 1)), (6, .int j10), (0, .ref (G.1 + 1)), (1, .int x1), (2, .int x2), (5, .int x5)]) (ax_dd KX7_value 41 rfl) rfl rfl (by decide) rfl ?_
          refine ax_iload (pc := 72) (q := 1) (ax_dd KX7_value 42 rfl) rfl ?_
          refine ax_bipush (pc := 74) (v := 23) (ax_dd KX7_value 43 rfl) (by decide) ?_
          refine ax_isub (pc := 76) (ax_dd KX7_value 44 rfl) ?_
          obtain ⟨j14, b15, h⟩ := ob_bind h
          refine ax_ist (pc := 77) (k := 17) (N := 160) (j := j14) (ax_dd KX7_value 45 rfl) (hs 17 _ rfl) b15 ?_
          refine ax_goto (pc := 78) (tgt := 375) (ax_dd KX7_value 46 rfl) (by decide) ?_
          refine ax_iinc (pc := 375) (q := 5) (v := (x5 + 1)) (lv' := [(5, .int (x5 + 1)), (3, .int (x3 + 1)), (6, .int j10), (0, .ref (G.1 + 1)), (1, .int x1), (2, .int x2)]) (ax_dd KX7_value 177 rfl) rfl rfl (by decide) rfl ?_
          refine ax_goto (pc := 378) (tgt := 26) (ax_dd KX7_value 178 rfl) (by decide) ?_
          refine ax_sub (lv' := [(0, .ref (G.1 + 1)), (1, .int x1), (2, .int x2), (3, .int (x3 + 1)), (5, .int (x5 + 1))]) [3, 4, 5, 1, 0] rfl ?_
          exact ih _ _ _ _ h
def m_X7_value (x1 : Int32) (x2 : Int32) (μ : ax_M) : Option (Int32 × ax_M) :=
  if x2 = 0 then
    m_X7_value_26 x1 x2 fu 0 0 μ
  else
    (ix 6 x1).bind fun j2 =>
    (q_ld μ (10 + j2) (x2 - 1)).bind fun j4 =>
    m_X7_value_26 x1 x2 fu 0 j4 μ
set_option maxRecDepth 100000 in
set_option maxHeartbeats 8000000 in
theorem c_X7_value {G : ax_G} {l : Launch} {sh : List ax_E} {x1 : Int32} {x2 : Int32} {μ : ax_M} (hs : ∀ (k : Nat) (e : ax_E), SHc[k]? = some e → sh[k]? = some e) {v : Int32 × ax_M} (h : m_X7_value x1 x2 μ = some v) : ax_A G l yX7_value cX7_value 9 (some .int) 2 [.ref (G.1 + 1), .int x1, .int x2] sh μ (some (.int v.1), sh, v.2) := by
  refine ax_A.of false (by decide +kernel) (fun h9 => by cases h9) (Nat.le_of_ble_eq_true rfl) (?_ : ax_X G l RX7 cX7_value 9 (some .int) false 2 (some (.int v.1), sh, v.2) 0 [(0, .ref (G.1 + 1)), (1, .int x1), (2, .int x2)] [] sh μ)
  unfold m_X7_value at h
  refine ax_iconst (pc := 0) (v := 0) (ax_dd KX7_value 0 rfl) (by decide) ?_
  refine ax_istore_n (pc := 1) (i := 3) (lv' := [(3, .int 0), (0, .ref (G.1 + 1)), (1, .int x1), (2, .int x2)]) (ax_dd KX7_value 1 rfl) rfl (by decide) rfl ?_
  refine ax_iload_n (pc := 2) (i := 2) (q := 3) (ax_dd KX7_value 2 rfl) rfl rfl ?_
  by_cases c1 : x2 = 0
  · rw [if_pos c1] at h
    refine ax_if_ne_f (pc := 3) (tgt := 10) (ax_dd KX7_value 3 rfl) (by decide) (fun z => z c1) ?_
    refine ax_iconst (pc := 6) (v := 0) (ax_dd KX7_value 4 rfl) (by decide) ?_
    refine ax_goto (pc := 7) (tgt := 20) (ax_dd KX7_value 5 rfl) (by decide) ?_
    refine ax_istore (pc := 20) (lv' := [(4, .int 0), (3, .int 0), (0, .ref (G.1 + 1)), (1, .int x1), (2, .int x2)]) (ax_dd KX7_value 14 rfl) (by decide) rfl ?_
    refine ax_iload (pc := 22) (q := 0) (ax_dd KX7_value 15 rfl) rfl ?_
    refine ax_istore (pc := 24) (lv' := [(5, .int 0), (4, .int 0), (3, .int 0), (0, .ref (G.1 + 1)), (1, .int x1), (2, .int x2)]) (ax_dd KX7_value 16 rfl) (by decide) rfl ?_
    refine ax_sub (lv' := [(0, .ref (G.1 + 1)), (1, .int x1), (2, .int x2), (3, .int 0), (5, .int 0)]) [3, 4, 5, 2, 0] rfl ?_
    exact a_X7_value_26 hs fu _ _ _ _ h
  · rw [if_neg c1] at h
    refine ax_if_ne_t (pc := 3) (tgt := 10) (ax_dd KX7_value 3 rfl) (by decide) c1 ?_
    refine ax_aload_n (pc := 10) (i := 0) (q := 1) (ax_dd KX7_value 6 rfl) rfl rfl ?_
    refine ax_getR (pc := 11) (k := 1) (q := 9) (ax_dd KX7_value 7 rfl) f_X7_16 (hs 1 _ rfl) rfl ?_
    refine ax_iload_n (pc := 14) (i := 1) (q := 2) (ax_dd KX7_value 8 rfl) rfl rfl ?_
    obtain ⟨j2, b3, h⟩ := ob_bind h
    refine ax_ald (pc := 15) (k := 9) (b0 := 10) (N := 6) (j := j2) (ax_dd KX7_value 9 rfl) (hs 9 _ rfl) b3 ?_
    refine ax_iload_n (pc := 16) (i := 2) (q := 3) (ax_dd KX7_value 10 rfl) rfl rfl ?_
    refine ax_iconst (pc := 17) (v := 1) (ax_dd KX7_value 11 rfl) (by decide) ?_
    refine ax_isub (pc := 18) (ax_dd KX7_value 12 rfl) ?_
    obtain ⟨j4, b5, h⟩ := ob_bind h
    refine ax_qld (pc := 19) (ax_dd KX7_value 13 rfl) hs b5 ?_
    refine ax_istore (pc := 20) (lv' := [(4, .int j4), (3, .int 0), (0, .ref (G.1 + 1)), (1, .int x1), (2, .int x2)]) (ax_dd KX7_value 14 rfl) (by decide) rfl ?_
    refine ax_iload (pc := 22) (q := 0) (ax_dd KX7_value 15 rfl) rfl ?_
    refine ax_istore (pc := 24) (lv' := [(5, .int j4), (4, .int j4), (3, .int 0), (0, .ref (G.1 + 1)), (1, .int x1), (2, .int x2)]) (ax_dd KX7_value 16 rfl) (by decide) rfl ?_
    refine ax_sub (lv' := [(0, .ref (G.1 + 1)), (1, .int x1), (2, .int x2), (3, .int 0), (5, .int j4)]) [3, 4, 5, 2, 0] rfl ?_
    exact a_X7_value_26 hs fu _ _ _ _ h
def m_X0_says (x1 : Int32) (x2 : Int32) (x3 : Int32) (x4 : Int32) (μ : ax_M) : Option (Int32 × ax_M) :=
  (m_X9_columnOf x3 μ).bind fun v1 =>
  (m_X9_rowOf x3 (ax_w μ 16 0 v1)).bind fun v5 =>
  (ix 6 x2).bind fun j11 =>
  (ix 6 x2).bind fun j15 =>
  (ix 6 x2).bind fun j19 =>
  bind2 (m_X7_value ((ax_w (ax_w (ax_w (ax_w (ax_w (ax_w μ 16 0 v1) 16 1 v5) 16 2 x4) 16 3 ((ax_w (ax_w (ax_w μ 16 0 v1) 16 1 v5) 16 2 x4) 31 j11)) 16 4 ((ax_w (ax_w (ax_w (ax_w μ 16 0 v1) 16 1 v5) 16 2 x4) 16 3 ((ax_w (ax_w (ax_w μ 16 0 v1) 16 1 v5) 16 2 x4) 31 j11)) 30 j15)) 16 5 ((ax_w (ax_w (ax_w (ax_w (ax_w μ 16 0 v1) 16 1 v5) 16 2 x4) 16 3 ((ax_w (ax_w (ax_w μ 16 0 v1) 16 1 v5) 16 2 x4) 31 j11)) 16 4 ((ax_w (ax_w (ax_w (ax_w μ 16 0 v1) 16 1 v5) 16 2 x4) 16 3 ((ax_w (ax_w (ax_w μ 16 0 v1) 16 1 v5) 16 2 x4) 31 j11)) 30 j15)) 27 j19)) 25 3) x1 (ax_w (ax_w (ax_w (ax_w (ax_w (ax_w μ 16 0 v1) 16 1 v5) 16 2 x4) 16 3 ((ax_w (ax_w (ax_w μ 16 0 v1) 16 1 v5) 16 2 x4) 31 j11)) 16 4 ((ax_w (ax_w (ax_w (ax_w μ 16 0 v1) 16 1 v5) 16 2 x4) 16 3 ((ax_w (ax_w (ax_w μ 16 0 v1) 16 1 v5) 16 2 x4) 31 j11)) 30 j15)) 16 5 ((ax_w (ax_w (ax_w (ax_w (ax_w μ 16 0 v1) 16 1 v5) 16 2 x4) 16 3 ((ax_w (ax_w (ax_w μ 16 0 v1) 16 1 v5) 16 2 x4) 31 j11)) 16 4 ((ax_w (ax_w (ax_w (ax_w μ 16 0 v1) 16 1 v5) 16 2 x4) 16 3 ((ax_w (ax_w (ax_w μ 16 0 v1) 16 1 v5) 16 2 x4) 31 j11)) 30 j15)) 27 j19))) fun v23 μ25 =>
  if x1 = 0 then
    some ((mxI 0 (mnI 99 v23)), μ25)
  else
    if v23 = 0 then
      some (0, μ25)
    else
      some (1, μ25)
set_option maxRecDepth 100000 in
set_option maxHeartbeats 8000000 in
theorem c_X0_says {G : ax_G} {l : Launch} {sh : List ax_E} {x1 : Int32} {x2 : Int32} {x3 : Int32} {x4 : Int32} {μ : ax_M} (hs : ∀ (k : Nat) (e : ax_E), SHc[k]? = some e → sh[k]? = some e) {v : Int32 × ax_M} (h : m_X0_says x1 x2 x3 x4 μ = some v) : ax_A G l yX0_says cX0_says 7 (some .int) 3 [.ref (G.1 + 25), .int x1, .int x2, .int x3, .int x4] sh μ (some (.int v.1), sh, v.2) := by
  refine ax_A.of false (by decide +kernel) (fun h9 => by cases h9) (Nat.le_of_ble_eq_true rfl) (?_ : ax_X G l RX0 cX0_says 7 (some .int) false 3 (some (.int v.1), sh, v.2) 0 [(0, .ref (G.1 + 25)), (1, .int x1), (2, .int x2), (3, .int x3), (4, .int x4)] [] sh μ)
  unfold m_X0_says at h
  refine ax_aload_n (pc := 0) (i := 0) (q := 0) (ax_dd KX0_says 0 rfl) rfl rfl ?_
  refine ax_getR (pc := 1) (k := 25) (q := 1) (ax_dd KX0_says 1 rfl) f_X0_40 (hs 25 _ rfl) rfl ?_
  refine ax_getR (pc := 4) (k := 1) (q := 16) (ax_dd KX0_says 2 rfl) f_X0_62 (hs 1 _ rfl) rfl ?_
  refine ax_astore (pc := 7) (lv' := [(5, .ref (G.1 + 16)), (0, .ref (G.1 + 25)), (1, .int x1), (2, .int x2), (3, .int x3), (4, .int x4)]) (ax_dd KX0_says 3 rfl) (by decide) rfl ?_
  refine ax_aload (pc := 9) (q := 0) (ax_dd KX0_says 4 rfl) rfl ?_
  refine ax_iconst (pc := 11) (v := 0) (ax_dd KX0_says 5 rfl) (by decide) ?_
  refine ax_iload_n (pc := 12) (i := 3) (q := 4) (ax_dd KX0_says 6 rfl) rfl rfl ?_
  obtain ⟨v1, b2, h⟩ := ob_bind h
  refine ax_kSN (pc := 13) (i := 3) (As := [.int x3]) (rest := [.int 0, .ref (G.1 + 16)]) (st1 := [.int v1, .int 0, .ref (G.1 + 16)]) (μ1 := μ) (ax_dd KX0_says 7 rfl) (c_X9_columnOf hs b2) kN_X0_51 rfl e_X9_columnOf rfl rfl (by decide) (by decide) (Nat.le_of_ble_eq_true rfl) rfl ?_
  refine ax_iast (pc := 16) (k := 16) (n := 6) (ax_dd KX0_says 8 rfl) (hs 16 _ rfl) (ax_inC (by decide)) ?_
  show ax_X G l RX0 cX0_says 7 (some .int) false 3 _ 17 [(5, .ref (G.1 + 16)), (0, .ref (G.1 + 25)), (1, .int x1), (2, .int x2), (3, .int x3), (4, .int x4)] [] sh (ax_w μ 16 0 v1)
  refine ax_aload (pc := 17) (q := 0) (ax_dd KX0_says 9 rfl) rfl ?_
  refine ax_iconst (pc := 19) (v := 1) (ax_dd KX0_says 10 rfl) (by decide) ?_
  refine ax_iload_n (pc := 20) (i := 3) (q := 4) (ax_dd KX0_says 11 rfl) rfl rfl ?_
  obtain ⟨v5, b6, h⟩ := ob_bind h
  refine ax_kSN (pc := 21) (i := 4) (As := [.int x3]) (rest := [.int 1, .ref (G.1 + 16)]) (st1 := [.int v5, .int 1, .ref (G.1 + 16)]) (μ1 := ax_w μ 16 0 v1) (ax_dd KX0_says 12 rfl) (c_X9_rowOf hs b6) kN_X0_55 rfl e_X9_rowOf rfl rfl (by decide) (by decide) (Nat.le_of_ble_eq_true rfl) rfl ?_
  refine ax_iast (pc := 24) (k := 16) (n := 6) (ax_dd KX0_says 13 rfl) (hs 16 _ rfl) (ax_inC (by decide)) ?_
  show ax_X G l RX0 cX0_says 7 (some .int) false 3 _ 25 [(5, .ref (G.1 + 16)), (0, .ref (G.1 + 25)), (1, .int x1), (2, .int x2), (3, .int x3), (4, .int x4)] [] sh (ax_w (ax_w μ 16 0 v1) 16 1 v5)
  refine ax_aload (pc := 25) (q := 0) (ax_dd KX0_says 14 rfl) rfl ?_
  refine ax_iconst (pc := 27) (v := 2) (ax_dd KX0_says 15 rfl) (by decide) ?_
  refine ax_iload (pc := 28) (q := 5) (ax_dd KX0_says 16 rfl) rfl ?_
  refine ax_iast (pc := 30) (k := 16) (n := 6) (ax_dd KX0_says 17 rfl) (hs 16 _ rfl) (ax_inC (by decide)) ?_
  show ax_X G l RX0 cX0_says 7 (some .int) false 3 _ 31 [(5, .ref (G.1 + 16)), (0, .ref (G.1 + 25)), (1, .int x1), (2, .int x2), (3, .int x3), (4, .int x4)] [] sh (ax_w (ax_w (ax_w μ 16 0 v1) 16 1 v5) 16 2 x4)
  refine ax_aload (pc := 31) (q := 0) (ax_dd KX0_says 18 rfl) rfl ?_
  refine ax_iconst (pc := 33) (v := 3) (ax_dd KX0_says 19 rfl) (by decide) ?_
  refine ax_aload_n (pc := 34) (i := 0) (q := 1) (ax_dd KX0_says 20 rfl) rfl rfl ?_
  refine ax_getR (pc := 35) (k := 25) (q := 31) (ax_dd KX0_says 21 rfl) f_X0_31 (hs 25 _ rfl) rfl ?_
  refine ax_iload_n (pc := 38) (i := 2) (q := 3) (ax_dd KX0_says 22 rfl) rfl rfl ?_
  obtain ⟨j11, b12, h⟩ := ob_bind h
  refine ax_ild (pc := 39) (k := 31) (N := 6) (j := j11) (ax_dd KX0_says 23 rfl) (hs 31 _ rfl) b12 ?_
  refine ax_iast (pc := 40) (k := 16) (n := 6) (ax_dd KX0_says 24 rfl) (hs 16 _ rfl) (ax_inC (by decide)) ?_
  show ax_X G l RX0 cX0_says 7 (some .int) false 3 _ 41 [(5, .ref (G.1 + 16)), (0, .ref (G.1 + 25)), (1, .int x1), (2, .int x2), (3, .int x3), (4, .int x4)] [] sh (ax_w (ax_w (ax_w (ax_w μ 16 0 v1) 16 1 v5) 16 2 x4) 16 3 ((ax_w (ax_w (ax_w μ 16 0 v1) 16 1 v5) 16 2 x4) 31 j11))
  refine ax_aload (pc := 41) (q := 0) (ax_dd KX0_says 25 rfl) rfl ?_
  refine ax_iconst (pc := 43) (v := 4) (ax_dd KX0_says 26 rfl) (by decide) ?_
  refine ax_aload_n (pc := 44) (i := 0) (q := 1) (ax_dd KX0_says 27 rfl) rfl rfl ?_
  refine ax_getR (pc := 45) (k := 25) (q := 30) (ax_dd KX0_says 28 rfl) f_X0_28 (hs 25 _ rfl) rfl ?_
  refine ax_iload_n (pc := 48) (i := 2) (q := 3) (ax_dd KX0_says 29 rfl) rfl rfl ?_
  obtain ⟨j15, b16, h⟩ := ob_bind h
  refine ax_ild (pc := 49) (k := 30) (N := 6) (j := j15) (ax_dd KX0_says 30 rfl) (hs 30 _ rfl) b16 ?_
  refine ax_iast (pc := 50) (k := 16) (n := 6) (ax_dd KX0_says 31 rfl) (hs 16 _ rfl) (ax_inC (by decide)) ?_
  show ax_X G l RX0 cX0_says 7 (some .int) false 3 _ 51 [(5, .ref (G.1 + 16)), (0, .ref (G.1 + 25)), (1, .int x1), (2, .int x2), (3, .int x3), (4, .int x4)] [] sh (ax_w (ax_w (ax_w (ax_w (ax_w μ 16 0 v1) 16 1 v5) 16 2 x4) 16 3 ((ax_w (ax_w (ax_w μ 16 0 v1) 16 1 v5) 16 2 x4) 31 j11)) 16 4 ((ax_w (ax_w (ax_w (ax_w μ 16 0 v1) 16 1 v5) 16 2 x4) 16 3 ((ax_w (ax_w (ax_w μ 16 0 v1) 16 1 v5) 16 2 x4) 31 j11)) 30 j15))
  refine ax_aload (pc := 51) (q := 0) (ax_dd KX0_says 32 rfl) rfl ?_
  refine ax_iconst (pc := 53) (v := 5) (ax_dd KX0_says 33 rfl) (by decide) ?_
  refine ax_aload_n (pc := 54) (i := 0) (q := 1) (ax_dd KX0_says 34 rfl) rfl rfl ?_
  refine ax_getR (pc := 55) (k := 25) (q := 27) (ax_dd KX0_says 35 rfl) f_X0_19 (hs 25 _ rfl) rfl ?_
  refine ax_iload_n (pc := 58) (i := 2) (q := 3) (ax_dd KX0_says 36 rfl) rfl rfl ?_
  obtain ⟨j19, b20, h⟩ := ob_bind h
  refine ax_ild (pc := 59) (k := 27) (N := 6) (j := j19) (ax_dd KX0_says 37 rfl) (hs 27 _ rfl) b20 ?_
  refine ax_iast (pc := 60) (k := 16) (n := 6) (ax_dd KX0_says 38 rfl) (hs 16 _ rfl) (ax_inC (by decide)) ?_
  show ax_X G l RX0 cX0_says 7 (some .int) false 3 _ 61 [(5, .ref (G.1 + 16)), (0, .ref (G.1 + 25)), (1, .int x1), (2, .int x2), (3, .int x3), (4, .int x4)] [] sh (ax_w (ax_w (ax_w (ax_w (ax_w (ax_w μ 16 0 v1) 16 1 v5) 16 2 x4) 16 3 ((ax_w (ax_w (ax_w μ 16 0 v1) 16 1 v5) 16 2 x4) 31 j11)) 16 4 ((ax_w (ax_w (ax_w (ax_w μ 16 0 v1) 16 1 v5) 16 2 x4) 16 3 ((ax_w (ax_w (ax_w μ 16 0 v1) 16 1 v5) 16 2 x4) 31 j11)) 30 j15)) 16 5 ((ax_w (ax_w (ax_w (ax_w (ax_w μ 16 0 v1) 16 1 v5) 16 2 x4) 16 3 ((ax_w (ax_w (ax_w μ 16 0 v1) 16 1 v5) 16 2 x4) 31 j11)) 16 4 ((ax_w (ax_w (ax_w (ax_w μ 16 0 v1) 16 1 v5) 16 2 x4) 16 3 ((ax_w (ax_w (ax_w μ 16 0 v1) 16 1 v5) 16 2 x4) 31 j11)) 30 j15)) 27 j19))
  refine ax_aload_n (pc := 61) (i := 0) (q := 1) (ax_dd KX0_says 39 rfl) rfl rfl ?_
  refine ax_getR (pc := 62) (k := 25) (q := 1) (ax_dd KX0_says 40 rfl) f_X0_40 (hs 25 _ rfl) rfl ?_
  refine ax_aload_n (pc := 65) (i := 0) (q := 1) (ax_dd KX0_says 41 rfl) rfl rfl ?_
  refine ax_getI (pc := 66) (k := 25) (ax_dd KX0_says 42 rfl) f_X0_67 (hs 25 _ rfl) rfl ?_
  refine ax_iload_n (pc := 69) (i := 1) (q := 2) (ax_dd KX0_says 43 rfl) rfl rfl ?_
  obtain ⟨v23, μ25, b24, h⟩ := ob_bind2 h
  refine ax_kV (pc := 70) (ci := 7) (k := 1) (As := [.int ((ax_w (ax_w (ax_w (ax_w (ax_w (ax_w μ 16 0 v1) 16 1 v5) 16 2 x4) 16 3 ((ax_w (ax_w (ax_w μ 16 0 v1) 16 1 v5) 16 2 x4) 31 j11)) 16 4 ((ax_w (ax_w (ax_w (ax_w μ 16 0 v1) 16 1 v5) 16 2 x4) 16 3 ((ax_w (ax_w (ax_w μ 16 0 v1) 16 1 v5) 16 2 x4) 31 j11)) 30 j15)) 16 5 ((ax_w (ax_w (ax_w (ax_w (ax_w μ 16 0 v1) 16 1 v5) 16 2 x4) 16 3 ((ax_w (ax_w (ax_w μ 16 0 v1) 16 1 v5) 16 2 x4) 31 j11)) 16 4 ((ax_w (ax_w (ax_w (ax_w μ 16 0 v1) 16 1 v5) 16 2 x4) 16 3 ((ax_w (ax_w (ax_w μ 16 0 v1) 16 1 v5) 16 2 x4) 31 j11)) 30 j15)) 27 j19)) 25 3), .int x1]) (rest := []) (st1 := [.int v23]) (μ1 := μ25) (ax_dd KX0_says 44 rfl) (c_X7_value hs b24) kV_X0_70 e_X7_value (hs 1 _ rfl) cl_X7 (by decide) rfl rfl (by decide) (by decide) (Nat.le_of_ble_eq_true rfl) rfl ?_
  refine ax_istore (pc := 73) (lv' := [(6, .int v23), (5, .ref (G.1 + 16)), (0, .ref (G.1 + 25)), (1, .int x1), (2, .int x2), (3, .int x3), (4, .int x4)]) (ax_dd KX0_says 45 rfl) (by decide) rfl ?_
  refine ax_iload_n (pc := 75) (i := 1) (q := 3) (ax_dd KX0_says 46 rfl) rfl rfl ?_
  by_cases c26 : x1 = 0
  · rw [if_pos c26] at h
    refine ax_if_ne_f (pc := 76) (tgt := 91) (ax_dd KX0_says 47 rfl) (by decide) (fun z => z c26) ?_
    refine ax_iconst (pc := 79) (v := 0) (ax_dd KX0_says 48 rfl) (by decide) ?_
    refine ax_bipush (pc := 80) (v := 99) (ax_dd KX0_says 49 rfl) (by decide) ?_
    refine ax_iload (pc := 82) (q := 0) (ax_dd KX0_says 50 rfl) rfl ?_
    refine ax_min (pc := 84) (ax_dd KX0_says 51 rfl) mt_X0_74 (by decide) (Nat.le_of_ble_eq_true rfl) ?_
    refine ax_max (pc := 87) (ax_dd KX0_says 52 rfl) mt_X0_79 (by decide) (Nat.le_of_ble_eq_true rfl) ?_
    obtain rfl := Option.some.inj h
    exact ax_ireti (pc := 90) (ax_dd KX0_says 53 rfl) ⟨_, rfl, rfl⟩ rfl
  · rw [if_neg c26] at h
    refine ax_if_ne_t (pc := 76) (tgt := 91) (ax_dd KX0_says 47 rfl) (by decide) c26 ?_
    refine ax_iload (pc := 91) (q := 0) (ax_dd KX0_says 54 rfl) rfl ?_
    by_cases c27 : v23 = 0
    · rw [if_pos c27] at h
      refine ax_if_ne_f (pc := 93) (tgt := 100) (ax_dd KX0_says 55 rfl) (by decide) (fun z => z c27) ?_
      refine ax_iconst (pc := 96) (v := 0) (ax_dd KX0_says 56 rfl) (by decide) ?_
      refine ax_goto (pc := 97) (tgt := 101) (ax_dd KX0_says 57 rfl) (by decide) ?_
      obtain rfl := Option.some.inj h
      exact ax_ireti (pc := 101) (ax_dd KX0_says 59 rfl) ⟨_, rfl, rfl⟩ rfl
    · rw [if_neg c27] at h
      refine ax_if_ne_t (pc := 93) (tgt := 100) (ax_dd KX0_says 55 rfl) (by decide) c27 ?_
      refine ax_iconst (pc := 100) (v := 1) (ax_dd KX0_says 58 rfl) (by decide) ?_
      obtain rfl := Option.some.inj h
      exact ax_ireti (pc := 101) (ax_dd KX0_says 59 rfl) ⟨_, rfl, rfl⟩ rfl
def m_X0_isAsleep_55 (x1 : Int32) (x3 : Int32) (s0 : Int32) (μ : ax_M) : Option (Int32 × ax_M) :=
  (ix 6 x1).bind fun j1 =>
  if (μ 26 j1) = 2 then
    if s0 = 0 ∨ s0 = 1 then
      some (s0, μ)
    else
      none
  else
    if (μ 26 j1) = 4 then
      if s0 = 0 then
        some (1, μ)
      else
        some (0, μ)
    else
      if x3 = 0 ∨ x3 = 1 then
        some (x3, μ)
      else
        none
set_option maxRecDepth 100000 in
set_option maxHeartbeats 8000000 in
theorem a_X0_isAsleep_55 {G : ax_G} {l : Launch} {sh : List ax_E} {x1 : Int32} {x3 : Int32} {s0 : Int32} {μ : ax_M} (hs : ∀ (k : Nat) (e : ax_E), SHc[k]? = some e → sh[k]? = some e) {v : Int32 × ax_M} (h : m_X0_isAsleep_55 x1 x3 s0 μ = some v) : ax_X G l RX0 cX0_isAsleep 5 (some .boolean) false 4 (some (.int v.1), sh, v.2) 55 [(0, .ref (G.1 + 25)), (1, .int x1), (3, .int x3)] [.int s0] sh μ := by
  unfold m_X0_isAsleep_55 at h
  refine ax_istore (pc := 55) (lv' := [(4, .int s0), (0, .ref (G.1 + 25)), (1, .int x1), (3, .int x3)]) (ax_dd KX0_isAsleep 33 rfl) (by decide) rfl ?_
  refine ax_aload_n (pc := 57) (i := 0) (q := 1) (ax_dd KX0_isAsleep 34 rfl) rfl rfl ?_
  refine ax_getR (pc := 58) (k := 25) (q := 26) (ax_dd KX0_isAsleep 35 rfl) f_X0_15 (hs 25 _ rfl) rfl ?_
  refine ax_iload_n (pc := 61) (i := 1) (q := 2) (ax_dd KX0_isAsleep 36 rfl) rfl rfl ?_
  obtain ⟨j1, b2, h⟩ := ob_bind h
  refine ax_ild (pc := 62) (k := 26) (N := 6) (j := j1) (ax_dd KX0_isAsleep 37 rfl) (hs 26 _ rfl) b2 ?_
  by_cases c3 : (μ 26 j1) = 2
  · rw [if_pos c3] at h
    refine ax_look (pc := 63) (off := 25) (tgt := 88) (ax_dd KX0_isAsleep 38 rfl) (by decide) (by rw [c3]; rfl) (by decide) ?_
    refine ax_iload (pc := 88) (q := 0) (ax_dd KX0_isAsleep 39 rfl) rfl ?_
    by_cases c4 : s0 = 0 ∨ s0 = 1
    · rw [if_pos c4] at h
      obtain rfl := Option.some.inj h
      exact ax_ireti (pc := 90) (ax_dd KX0_isAsleep 40 rfl) ⟨_, rfl, ax_nb c4⟩ rfl
    · rw [if_neg c4] at h
      cases h
  · rw [if_neg c3] at h
    by_cases c5 : (μ 26 j1) = 4
    · rw [if_pos c5] at h
      refine ax_look (pc := 63) (off := 28) (tgt := 91) (ax_dd KX0_isAsleep 38 rfl) (by decide) (by rw [c5]; rfl) (by decide) ?_
      refine ax_iload (pc := 91) (q := 0) (ax_dd KX0_isAsleep 41 rfl) rfl ?_
      by_cases c6 : s0 = 0
      · rw [if_pos c6] at h
        refine ax_if_ne_f (pc := 93) (tgt := 100) (ax_dd KX0_isAsleep 42 rfl) (by decide) (fun z => z c6) ?_
        refine ax_iconst (pc := 96) (v := 1) (ax_dd KX0_isAsleep 43 rfl) (by decide) ?_
        refine ax_goto (pc := 97) (tgt := 101) (ax_dd KX0_isAsleep 44 rfl) (by decide) ?_
        obtain rfl := Option.some.inj h
        exact ax_ireti (pc := 101) (ax_dd KX0_isAsleep 46 rfl) ⟨_, rfl, rfl⟩ rfl
      · rw [if_neg c6] at h
        refine ax_if_ne_t (pc := 93) (tgt := 100) (ax_dd KX0_isAsleep 42 rfl) (by decide) c6 ?_
        refine ax_iconst (pc := 100) (v := 0) (ax_dd KX0_isAsleep 45 rfl) (by decide) ?_
        obtain rfl := Option.some.inj h
        exact ax_ireti (pc := 101) (ax_dd KX0_isAsleep 46 rfl) ⟨_, rfl, rfl⟩ rfl
    · rw [if_neg c5] at h
      refine ax_look (pc := 63) (off := 39) (tgt := 102) (ax_dd KX0_isAsleep 38 rfl) (by decide) ((lv_osw c3 rfl).trans ((lv_osw c5 rfl).trans (rfl))) (by decide) ?_
      refine ax_iload_n (pc := 102) (i := 3) (q := 3) (ax_dd KX0_isAsleep 47 rfl) rfl rfl ?_
      by_cases c7 : x3 = 0 ∨ x3 = 1
      · rw [if_pos c7] at h
        obtain rfl := Option.some.inj h
        exact ax_ireti (pc := 103) (ax_dd KX0_isAsleep 48 rfl) ⟨_, rfl, ax_nb c7⟩ rfl
      · rw [if_neg c7] at h
        cases h
def m_X0_isAsleep_33 (x1 : Int32) (x2 : Int32) (s0 : Int32) (μ : ax_M) : Option (Int32 × ax_M) :=
  if s0 = 0 then
    if x2 = 14 then
      m_X0_isAsleep_55 x1 s0 1 μ
    else
      if x2 = 15 then
        m_X0_isAsleep_55 x1 s0 1 μ
      else
        m_X0_isAsleep_55 x1 s0 0 μ
  else
    m_X0_isAsleep_55 x1 s0 1 μ
set_option maxRecDepth 100000 in
set_option maxHeartbeats 8000000 in
theorem a_X0_isAsleep_33 {G : ax_G} {l : Launch} {sh : List ax_E} {x1 : Int32} {x2 : Int32} {s0 : Int32} {μ : ax_M} (hs : ∀ (k : Nat) (e : ax_E), SHc[k]? = some e → sh[k]? = some e) {v : Int32 × ax_M} (h : m_X0_isAsleep_33 x1 x2 s0 μ = some v) : ax_X G l RX0 cX0_isAsleep 5 (some .boolean) false 4 (some (.int v.1), sh, v.2) 33 [(0, .ref (G.1 + 25)), (1, .int x1), (2, .int x2)] [.int s0] sh μ := by
  unfold m_X0_isAsleep_33 at h
  refine ax_istore_n (pc := 33) (i := 3) (lv' := [(3, .int s0), (0, .ref (G.1 + 25)), (1, .int x1), (2, .int x2)]) (ax_dd KX0_isAsleep 21 rfl) rfl (by decide) rfl ?_
  refine ax_iload_n (pc := 34) (i := 3) (q := 0) (ax_dd KX0_isAsleep 22 rfl) rfl rfl ?_
  by_cases c1 : s0 = 0
  · rw [if_pos c1] at h
    refine ax_if_ne_f (pc := 35) (tgt := 50) (ax_dd KX0_isAsleep 23 rfl) (by decide) (fun z => z c1) ?_
    refine ax_iload_n (pc := 38) (i := 2) (q := 3) (ax_dd KX0_isAsleep 24 rfl) rfl rfl ?_
    refine ax_bipush (pc := 39) (v := 14) (ax_dd KX0_isAsleep 25 rfl) (by decide) ?_
    by_cases c2 : x2 = 14
    · rw [if_pos c2] at h
      refine ax_icmp_eq_t (pc := 41) (tgt := 50) (ax_dd KX0_isAsleep 26 rfl) (by decide) c2 ?_
      refine ax_iconst (pc := 50) (v := 1) (ax_dd KX0_isAsleep 30 rfl) (by decide) ?_
      refine ax_goto (pc := 51) (tgt := 55) (ax_dd KX0_isAsleep 31 rfl) (by decide) ?_
      refine ax_sub (lv' := [(0, .ref (G.1 + 25)), (1, .int x1), (3, .int s0)]) [1, 2, 0] rfl ?_
      exact a_X0_isAsleep_55 hs h
    · rw [if_neg c2] at h
      refine ax_icmp_eq_f (pc := 41) (tgt := 50) (ax_dd KX0_isAsleep 26 rfl) (by decide) c2 ?_
      refine ax_iload_n (pc := 44) (i := 2) (q := 3) (ax_dd KX0_isAsleep 27 rfl) rfl rfl ?_
      refine ax_bipush (pc := 45) (v := 15) (ax_dd KX0_isAsleep 28 rfl) (by decide) ?_
      by_cases c3 : x2 = 15
      · rw [if_pos c3] at h
        refine ax_icmp_ne_f (pc := 47) (tgt := 54) (ax_dd KX0_isAsleep 29 rfl) (by decide) (fun z => z c3) ?_
        refine ax_iconst (pc := 50) (v := 1) (ax_dd KX0_isAsleep 30 rfl) (by decide) ?_
        refine ax_goto (pc := 51) (tgt := 55) (ax_dd KX0_isAsleep 31 rfl) (by decide) ?_
        refine ax_sub (lv' := [(0, .ref (G.1 + 25)), (1, .int x1), (3, .int s0)]) [1, 2, 0] rfl ?_
        exact a_X0_isAsleep_55 hs h
      · rw [if_neg c3] at h
        refine ax_icmp_ne_t (pc := 47) (tgt := 54) (ax_dd KX0_isAsleep 29 rfl) (by decide) c3 ?_
        refine ax_iconst (pc := 54) (v := 0) (ax_dd KX0_isAsleep 32 rfl) (by decide) ?_
        refine ax_sub (lv' := [(0, .ref (G.1 + 25)), (1, .int x1), (3, .int s0)]) [1, 2, 0] rfl ?_
        exact a_X0_isAsleep_55 hs h
  · rw [if_neg c1] at h
    refine ax_if_ne_t (pc := 35) (tgt := 50) (ax_dd KX0_isAsleep 23 rfl) (by decide) c1 ?_
    refine ax_iconst (pc := 50) (v := 1) (ax_dd KX0_isAsleep 30 rfl) (by decide) ?_
    refine ax_goto (pc := 51) (tgt := 55) (ax_dd KX0_isAsleep 31 rfl) (by decide) ?_
    refine ax_sub (lv' := [(0, .ref (G.1 + 25)), (1, .int x1), (3, .int s0)]) [1, 2, 0] rfl ?_
    exact a_X0_isAsleep_55 hs h
def m_X0_isAsleep (x1 : Int32) (x2 : Int32) (μ : ax_M) : Option (Int32 × ax_M) :=
  (ix 6 x1).bind fun j1 =>
  if (μ 26 j1) = 5 then
    some (0, μ)
  else
    (ix 6 x1).bind fun j4 =>
    bind2 (m_X0_says 2 x1 (μ 28 j4) x2 μ) fun v6 μ8 =>
    if v6 = 0 then
      m_X0_isAsleep_33 x1 x2 0 μ8
    else
      m_X0_isAsleep_33 x1 x2 1 μ8
set_option maxRecDepth 100000 in
set_option maxHeartbeats 8000000 in
theorem c_X0_isAsleep {G : ax_G} {l : Launch} {sh : List ax_E} {x1 : Int32} {x2 : Int32} {μ : ax_M} (hs : ∀ (k : Nat) (e : ax_E), SHc[k]? = some e → sh[k]? = some e) {v : Int32 × ax_M} (h : m_X0_isAsleep x1 x2 μ = some v) : ax_A G l yX0_isAsleep cX0_isAsleep 5 (some .boolean) 4 [.ref (G.1 + 25), .int x1, .int x2] sh μ (some (.int v.1), sh, v.2) := by
  refine ax_A.of false (by decide +kernel) (fun h9 => by cases h9) (Nat.le_of_ble_eq_true rfl) (?_ : ax_X G l RX0 cX0_isAsleep 5 (some .boolean) false 4 (some (.int v.1), sh, v.2) 0 [(0, .ref (G.1 + 25)), (1, .int x1), (2, .int x2)] [] sh μ)
  unfold m_X0_isAsleep at h
  refine ax_aload_n (pc := 0) (i := 0) (q := 0) (ax_dd KX0_isAsleep 0 rfl) rfl rfl ?_
  refine ax_getR (pc := 1) (k := 25) (q := 26) (ax_dd KX0_isAsleep 1 rfl) f_X0_15 (hs 25 _ rfl) rfl ?_
  refine ax_iload_n (pc := 4) (i := 1) (q := 1) (ax_dd KX0_isAsleep 2 rfl) rfl rfl ?_
  obtain ⟨j1, b2, h⟩ := ob_bind h
  refine ax_ild (pc := 5) (k := 26) (N := 6) (j := j1) (ax_dd KX0_isAsleep 3 rfl) (hs 26 _ rfl) b2 ?_
  refine ax_iconst (pc := 6) (v := 5) (ax_dd KX0_isAsleep 4 rfl) (by decide) ?_
  by_cases c3 : (μ 26 j1) = 5
  · rw [if_pos c3] at h
    refine ax_icmp_ne_f (pc := 7) (tgt := 12) (ax_dd KX0_isAsleep 5 rfl) (by decide) (fun z => z c3) ?_
    refine ax_iconst (pc := 10) (v := 0) (ax_dd KX0_isAsleep 6 rfl) (by decide) ?_
    obtain rfl := Option.some.inj h
    exact ax_ireti (pc := 11) (ax_dd KX0_isAsleep 7 rfl) ⟨_, rfl, rfl⟩ rfl
  · rw [if_neg c3] at h
    refine ax_icmp_ne_t (pc := 7) (tgt := 12) (ax_dd KX0_isAsleep 5 rfl) (by decide) c3 ?_
    refine ax_aload_n (pc := 12) (i := 0) (q := 0) (ax_dd KX0_isAsleep 8 rfl) rfl rfl ?_
    refine ax_iconst (pc := 13) (v := 2) (ax_dd KX0_isAsleep 9 rfl) (by decide) ?_
    refine ax_iload_n (pc := 14) (i := 1) (q := 1) (ax_dd KX0_isAsleep 10 rfl) rfl rfl ?_
    refine ax_aload_n (pc := 15) (i := 0) (q := 0) (ax_dd KX0_isAsleep 11 rfl) rfl rfl ?_
    refine ax_getR (pc := 16) (k := 25) (q := 28) (ax_dd KX0_isAsleep 12 rfl) f_X0_22 (hs 25 _ rfl) rfl ?_
    refine ax_iload_n (pc := 19) (i := 1) (q := 1) (ax_dd KX0_isAsleep 13 rfl) rfl rfl ?_
    obtain ⟨j4, b5, h⟩ := ob_bind h
    refine ax_ild (pc := 20) (k := 28) (N := 6) (j := j4) (ax_dd KX0_isAsleep 14 rfl) (hs 28 _ rfl) b5 ?_
    refine ax_iload_n (pc := 21) (i := 2) (q := 2) (ax_dd KX0_isAsleep 15 rfl) rfl rfl ?_
    obtain ⟨v6, μ8, b7, h⟩ := ob_bind2 h
    refine ax_kV (pc := 22) (ci := 0) (k := 25) (As := [.int 2, .int x1, .int (μ 28 j4), .int x2]) (rest := []) (st1 := [.int v6]) (μ1 := μ8) (ax_dd KX0_isAsleep 16 rfl) (c_X0_says hs b7) kV_X0_82 e_X0_says (hs 25 _ rfl) cl_X0 (by decide) rfl rfl (by decide) (by decide) (Nat.le_of_ble_eq_true rfl) rfl ?_
    by_cases c9 : v6 = 0
    · rw [if_pos c9] at h
      refine ax_if_eq_t (pc := 25) (tgt := 32) (ax_dd KX0_isAsleep 17 rfl) (by decide) c9 ?_
      refine ax_iconst (pc := 32) (v := 0) (ax_dd KX0_isAsleep 20 rfl) (by decide) ?_
      exact a_X0_isAsleep_33 hs h
    · rw [if_neg c9] at h
      refine ax_if_eq_f (pc := 25) (tgt := 32) (ax_dd KX0_isAsleep 17 rfl) (by decide) c9 ?_
      refine ax_iconst (pc := 28) (v := 1) (ax_dd KX0_isAsleep 18 rfl) (by decide) ?_
      refine ax_goto (pc := 29) (tgt := 33) (ax_dd KX0_isAsleep 19 rfl) (by decide) ?_
      exact a_X0_isAsleep_33 hs h
def m_X9_isA (x0 : Int32) (x1 : Int32) (μ : ax_M) : Option (Int32) :=
  if x1 = 0 then
    some 1
  else
    if x1 = 1 then
      if x0 = 1 then
        some 1
      else
        if x0 = 3 then
          some 1
        else
          some 0
    else
      if x1 = 2 then
        if x0 = 2 then
          some 1
        else
          if x0 = 4 then
            some 1
          else
            some 0
      else
        if x0 = x1 then
          some 1
        else
          some 0
set_option maxRecDepth 100000 in
set_option maxHeartbeats 8000000 in
theorem c_X9_isA {G : ax_G} {l : Launch} {sh : List ax_E} {x0 : Int32} {x1 : Int32} {μ : ax_M} (hs : ∀ (k : Nat) (e : ax_E), SHc[k]? = some e → sh[k]? = some e) {v : Int32} (h : m_X9_isA x0 x1 μ = some v) : ax_A G l yX9_isA cX9_isA 2 (some .boolean) 2 [.int x0, .int x1] sh μ (some (.int v), sh, μ) := by
  refine ax_A.of false (by decide +kernel) (fun h9 => by cases h9) (Nat.le_of_ble_eq_true rfl) (?_ : ax_X G l RX9 cX9_isA 2 (some .boolean) false 2 (some (.int v), sh, μ) 0 [(0, .int x0), (1, .int x1)] [] sh μ)
  unfold m_X9_isA at h
  refine ax_iload_n (pc := 0) (i := 1) (q := 1) (ax_dd KX9_isA 0 rfl) rfl rfl ?_
  by_cases c1 : x1 = 0
  · rw [if_pos c1] at h
    refine ax_tab (pc := 1) (off := 27) (tgt := 28) (ax_dd KX9_isA 1 rfl) (by rw [c1]; decide) (by rw [c1]; decide) (by rw [c1]; rfl) (by decide) ?_
    refine ax_iconst (pc := 28) (v := 1) (ax_dd KX9_isA 2 rfl) (by decide) ?_
    obtain rfl := Option.some.inj h
    exact ax_ireti (pc := 29) (ax_dd KX9_isA 3 rfl) ⟨_, rfl, rfl⟩ rfl
  · rw [if_neg c1] at h
    by_cases c2 : x1 = 1
    · rw [if_pos c2] at h
      refine ax_tab (pc := 1) (off := 29) (tgt := 30) (ax_dd KX9_isA 1 rfl) (by rw [c2]; decide) (by rw [c2]; decide) (by rw [c2]; rfl) (by decide) ?_
      refine ax_iload_n (pc := 30) (i := 0) (q := 0) (ax_dd KX9_isA 4 rfl) rfl rfl ?_
      refine ax_iconst (pc := 31) (v := 1) (ax_dd KX9_isA 5 rfl) (by decide) ?_
      by_cases c3 : x0 = 1
      · rw [if_pos c3] at h
        refine ax_icmp_eq_t (pc := 32) (tgt := 40) (ax_dd KX9_isA 6 rfl) (by decide) c3 ?_
        refine ax_iconst (pc := 40) (v := 1) (ax_dd KX9_isA 10 rfl) (by decide) ?_
        refine ax_goto (pc := 41) (tgt := 45) (ax_dd KX9_isA 11 rfl) (by decide) ?_
        obtain rfl := Option.some.inj h
        exact ax_ireti (pc := 45) (ax_dd KX9_isA 13 rfl) ⟨_, rfl, rfl⟩ rfl
      · rw [if_neg c3] at h
        refine ax_icmp_eq_f (pc := 32) (tgt := 40) (ax_dd KX9_isA 6 rfl) (by decide) c3 ?_
        refine ax_iload_n (pc := 35) (i := 0) (q := 0) (ax_dd KX9_isA 7 rfl) rfl rfl ?_
        refine ax_iconst (pc := 36) (v := 3) (ax_dd KX9_isA 8 rfl) (by decide) ?_
        by_cases c4 : x0 = 3
        · rw [if_pos c4] at h
          refine ax_icmp_ne_f (pc := 37) (tgt := 44) (ax_dd KX9_isA 9 rfl) (by decide) (fun z => z c4) ?_
          refine ax_iconst (pc := 40) (v := 1) (ax_dd KX9_isA 10 rfl) (by decide) ?_
          refine ax_goto (pc := 41) (tgt := 45) (ax_dd KX9_isA 11 rfl) (by decide) ?_
          obtain rfl := Option.some.inj h
          exact ax_ireti (pc := 45) (ax_dd KX9_isA 13 rfl) ⟨_, rfl, rfl⟩ rfl
        · rw [if_neg c4] at h
          refine ax_icmp_ne_t (pc := 37) (tgt := 44) (ax_dd KX9_isA 9 rfl) (by decide) c4 ?_
          refine ax_iconst (pc := 44) (v := 0) (ax_dd KX9_isA 12 rfl) (by decide) ?_
          obtain rfl := Option.some.inj h
          exact ax_ireti (pc := 45) (ax_dd KX9_isA 13 rfl) ⟨_, rfl, rfl⟩ rfl
    · rw [if_neg c2] at h
      by_cases c5 : x1 = 2
      · rw [if_pos c5] at h
        refine ax_tab (pc := 1) (off := 45) (tgt := 46) (ax_dd KX9_isA 1 rfl) (by rw [c5]; decide) (by rw [c5]; decide) (by rw [c5]; rfl) (by decide) ?_
        refine ax_iload_n (pc := 46) (i := 0) (q := 0) (ax_dd KX9_isA 14 rfl) rfl rfl ?_
        refine ax_iconst (pc := 47) (v := 2) (ax_dd KX9_isA 15 rfl) (by decide) ?_
        by_cases c6 : x0 = 2
        · rw [if_pos c6] at h
          refine ax_icmp_eq_t (pc := 48) (tgt := 56) (ax_dd KX9_isA 16 rfl) (by decide) c6 ?_
          refine ax_iconst (pc := 56) (v := 1) (ax_dd KX9_isA 20 rfl) (by decide) ?_
          refine ax_goto (pc := 57) (tgt := 61) (ax_dd KX9_isA 21 rfl) (by decide) ?_
          obtain rfl := Option.some.inj h
          exact ax_ireti (pc := 61) (ax_dd KX9_isA 23 rfl) ⟨_, rfl, rfl⟩ rfl
        · rw [if_neg c6] at h
          refine ax_icmp_eq_f (pc := 48) (tgt := 56) (ax_dd KX9_isA 16 rfl) (by decide) c6 ?_
          refine ax_iload_n (pc := 51) (i := 0) (q := 0) (ax_dd KX9_isA 17 rfl) rfl rfl ?_
          refine ax_iconst (pc := 52) (v := 4) (ax_dd KX9_isA 18 rfl) (by decide) ?_
          by_cases c7 : x0 = 4
          · rw [if_pos c7] at h
            refine ax_icmp_ne_f (pc := 53) (tgt := 60) (ax_dd KX9_isA 19 rfl) (by decide) (fun z => z c7) ?_
            refine ax_iconst (pc := 56) (v := 1) (ax_dd KX9_isA 20 rfl) (by decide) ?_
            refine ax_goto (pc := 57) (tgt := 61) (ax_dd KX9_isA 21 rfl) (by decide) ?_
            obtain rfl := Option.some.inj h
            exact ax_ireti (pc := 61) (ax_dd KX9_isA 23 rfl) ⟨_, rfl, rfl⟩ rfl
          · rw [if_neg c7] at h
            refine ax_icmp_ne_t (pc := 53) (tgt := 60) (ax_dd KX9_isA 19 rfl) (by decide) c7 ?_
            refine ax_iconst (pc := 60) (v := 0) (ax_dd KX9_isA 22 rfl) (by decide) ?_
            obtain rfl := Option.some.inj h
            exact ax_ireti (pc := 61) (ax_dd KX9_isA 23 rfl) ⟨_, rfl, rfl⟩ rfl
      · rw [if_neg c5] at h
        refine ax_tabD (pc := 1) (tgt := 62) (ax_dd KX9_isA 1 rfl) (by have e0 := ax_ne c1 (a := 0) rfl; have e1 := ax_ne c2 (a := 1) rfl; have e2 := ax_ne c5 (a := 2) rfl; omega) (by decide) ?_
        refine ax_iload_n (pc := 62) (i := 0) (q := 0) (ax_dd KX9_isA 24 rfl) rfl rfl ?_
        refine ax_iload_n (pc := 63) (i := 1) (q := 1) (ax_dd KX9_isA 25 rfl) rfl rfl ?_
        by_cases c8 : x0 = x1
        · rw [if_pos c8] at h
          refine ax_icmp_ne_f (pc := 64) (tgt := 71) (ax_dd KX9_isA 26 rfl) (by decide) (fun z => z c8) ?_
          refine ax_iconst (pc := 67) (v := 1) (ax_dd KX9_isA 27 rfl) (by decide) ?_
          refine ax_goto (pc := 68) (tgt := 72) (ax_dd KX9_isA 28 rfl) (by decide) ?_
          obtain rfl := Option.some.inj h
          exact ax_ireti (pc := 72) (ax_dd KX9_isA 30 rfl) ⟨_, rfl, rfl⟩ rfl
        · rw [if_neg c8] at h
          refine ax_icmp_ne_t (pc := 64) (tgt := 71) (ax_dd KX9_isA 26 rfl) (by decide) c8 ?_
          refine ax_iconst (pc := 71) (v := 0) (ax_dd KX9_isA 29 rfl) (by decide) ?_
          obtain rfl := Option.some.inj h
          exact ax_ireti (pc := 72) (ax_dd KX9_isA 30 rfl) ⟨_, rfl, rfl⟩ rfl
def m_X0_admits_31 (x1 : Int32) (s0 : Int32) (μ : ax_M) : Option (Int32 × ax_M) :=
  (ix 6 x1).bind fun j1 =>
  (m_X9_isA (μ 26 j1) 2 μ).bind fun v3 =>
  if v3 = 0 then
    if s0 = 0 ∨ s0 = 1 then
      some (s0, μ)
    else
      none
  else
    if s0 = 0 then
      some (0, μ)
    else
      (ix 6 x1).bind fun j8 =>
      (ix 6 x1).bind fun j10 =>
      if (μ 27 j10) ≤ (μ 31 j8) then
        some (0, μ)
      else
        some (1, μ)
set_option maxRecDepth 100000 in
set_option maxHeartbeats 8000000 in
theorem a_X0_admits_31 {G : ax_G} {l : Launch} {sh : List ax_E} {x1 : Int32} {s0 : Int32} {μ : ax_M} (hs : ∀ (k : Nat) (e : ax_E), SHc[k]? = some e → sh[k]? = some e) {v : Int32 × ax_M} (h : m_X0_admits_31 x1 s0 μ = some v) : ax_X G l RX0 cX0_admits 4 (some .boolean) false 4 (some (.int v.1), sh, v.2) 31 [(0, .ref (G.1 + 25)), (1, .int x1)] [.int s0] sh μ := by
  unfold m_X0_admits_31 at h
  refine ax_istore_n (pc := 31) (i := 3) (lv' := [(3, .int s0), (0, .ref (G.1 + 25)), (1, .int x1)]) (ax_dd KX0_admits 19 rfl) rfl (by decide) rfl ?_
  refine ax_aload_n (pc := 32) (i := 0) (q := 1) (ax_dd KX0_admits 20 rfl) rfl rfl ?_
  refine ax_getR (pc := 33) (k := 25) (q := 26) (ax_dd KX0_admits 21 rfl) f_X0_15 (hs 25 _ rfl) rfl ?_
  refine ax_iload_n (pc := 36) (i := 1) (q := 2) (ax_dd KX0_admits 22 rfl) rfl rfl ?_
  obtain ⟨j1, b2, h⟩ := ob_bind h
  refine ax_ild (pc := 37) (k := 26) (N := 6) (j := j1) (ax_dd KX0_admits 23 rfl) (hs 26 _ rfl) b2 ?_
  refine ax_iconst (pc := 38) (v := 2) (ax_dd KX0_admits 24 rfl) (by decide) ?_
  obtain ⟨v3, b4, h⟩ := ob_bind h
  refine ax_kSN (pc := 39) (i := 5) (As := [.int (μ 26 j1), .int 2]) (rest := []) (st1 := [.int v3]) (μ1 := μ) (ax_dd KX0_admits 25 rfl) (c_X9_isA hs b4) kN_X0_86 rfl e_X9_isA rfl rfl (by decide) (by decide) (Nat.le_of_ble_eq_true rfl) rfl ?_
  by_cases c5 : v3 = 0
  · rw [if_pos c5] at h
    refine ax_if_eq_t (pc := 42) (tgt := 72) (ax_dd KX0_admits 26 rfl) (by decide) c5 ?_
    refine ax_iload_n (pc := 72) (i := 3) (q := 0) (ax_dd KX0_admits 42 rfl) rfl rfl ?_
    by_cases c6 : s0 = 0 ∨ s0 = 1
    · rw [if_pos c6] at h
      obtain rfl := Option.some.inj h
      exact ax_ireti (pc := 73) (ax_dd KX0_admits 43 rfl) ⟨_, rfl, ax_nb c6⟩ rfl
    · rw [if_neg c6] at h
      cases h
  · rw [if_neg c5] at h
    refine ax_if_eq_f (pc := 42) (tgt := 72) (ax_dd KX0_admits 26 rfl) (by decide) c5 ?_
    refine ax_iload_n (pc := 45) (i := 3) (q := 0) (ax_dd KX0_admits 27 rfl) rfl rfl ?_
    by_cases c7 : s0 = 0
    · rw [if_pos c7] at h
      refine ax_if_eq_t (pc := 46) (tgt := 68) (ax_dd KX0_admits 28 rfl) (by decide) c7 ?_
      refine ax_iconst (pc := 68) (v := 0) (ax_dd KX0_admits 40 rfl) (by decide) ?_
      refine ax_goto (pc := 69) (tgt := 73) (ax_dd KX0_admits 41 rfl) (by decide) ?_
      obtain rfl := Option.some.inj h
      exact ax_ireti (pc := 73) (ax_dd KX0_admits 43 rfl) ⟨_, rfl, rfl⟩ rfl
    · rw [if_neg c7] at h
      refine ax_if_eq_f (pc := 46) (tgt := 68) (ax_dd KX0_admits 28 rfl) (by decide) c7 ?_
      refine ax_aload_n (pc := 49) (i := 0) (q := 1) (ax_dd KX0_admits 29 rfl) rfl rfl ?_
      refine ax_getR (pc := 50) (k := 25) (q := 31) (ax_dd KX0_admits 30 rfl) f_X0_31 (hs 25 _ rfl) rfl ?_
      refine ax_iload_n (pc := 53) (i := 1) (q := 2) (ax_dd KX0_admits 31 rfl) rfl rfl ?_
      obtain ⟨j8, b9, h⟩ := ob_bind h
      refine ax_ild (pc := 54) (k := 31) (N := 6) (j := j8) (ax_dd KX0_admits 32 rfl) (hs 31 _ rfl) b9 ?_
      refine ax_aload_n (pc := 55) (i := 0) (q := 1) (ax_dd KX0_admits 33 rfl) rfl rfl ?_
      refine ax_getR (pc := 56) (k := 25) (q := 27) (ax_dd KX0_admits 34 rfl) f_X0_19 (hs 25 _ rfl) rfl ?_
      refine ax_iload_n (pc := 59) (i := 1) (q := 2) (ax_dd KX0_admits 35 rfl) rfl rfl ?_
      obtain ⟨j10, b11, h⟩ := ob_bind h
      refine ax_ild (pc := 60) (k := 27) (N := 6) (j := j10) (ax_dd KX0_admits 36 rfl) (hs 27 _ rfl) b11 ?_
      by_cases c12 : (μ 27 j10) ≤ (μ 31 j8)
      · rw [if_pos c12] at h
        refine ax_icmp_ge_t (pc := 61) (tgt := 68) (ax_dd KX0_admits 37 rfl) (by decide) c12 ?_
        refine ax_iconst (pc := 68) (v := 0) (ax_dd KX0_admits 40 rfl) (by decide) ?_
        refine ax_goto (pc := 69) (tgt := 73) (ax_dd KX0_admits 41 rfl) (by decide) ?_
        obtain rfl := Option.some.inj h
        exact ax_ireti (pc := 73) (ax_dd KX0_admits 43 rfl) ⟨_, rfl, rfl⟩ rfl
      · rw [if_neg c12] at h
        refine ax_icmp_ge_f (pc := 61) (tgt := 68) (ax_dd KX0_admits 37 rfl) (by decide) c12 ?_
        refine ax_iconst (pc := 64) (v := 1) (ax_dd KX0_admits 38 rfl) (by decide) ?_
        refine ax_goto (pc := 65) (tgt := 73) (ax_dd KX0_admits 39 rfl) (by decide) ?_
        obtain rfl := Option.some.inj h
        exact ax_ireti (pc := 73) (ax_dd KX0_admits 43 rfl) ⟨_, rfl, rfl⟩ rfl
def m_X0_admits (x1 : Int32) (x2 : Int32) (μ : ax_M) : Option (Int32 × ax_M) :=
  (ix 6 x1).bind fun j1 =>
  if (μ 26 j1) = 3 then
    some (1, μ)
  else
    bind2 (m_X0_says 1 x1 x2 (μ 25 2) μ) fun v4 μ6 =>
    if v4 = 0 then
      m_X0_admits_31 x1 0 μ6
    else
      m_X0_admits_31 x1 1 μ6
set_option maxRecDepth 100000 in
set_option maxHeartbeats 8000000 in
theorem c_X0_admits {G : ax_G} {l : Launch} {sh : List ax_E} {x1 : Int32} {x2 : Int32} {μ : ax_M} (hs : ∀ (k : Nat) (e : ax_E), SHc[k]? = some e → sh[k]? = some e) {v : Int32 × ax_M} (h : m_X0_admits x1 x2 μ = some v) : ax_A G l yX0_admits cX0_admits 4 (some .boolean) 4 [.ref (G.1 + 25), .int x1, .int x2] sh μ (some (.int v.1), sh, v.2) := by
  refine ax_A.of false (by decide +kernel) (fun h9 => by cases h9) (Nat.le_of_ble_eq_true rfl) (?_ : ax_X G l RX0 cX0_admits 4 (some .boolean) false 4 (some (.int v.1), sh, v.2) 0 [(0, .ref (G.1 + 25)), (1, .int x1), (2, .int x2)] [] sh μ)
  unfold m_X0_admits at h
  refine ax_aload_n (pc := 0) (i := 0) (q := 0) (ax_dd KX0_admits 0 rfl) rfl rfl ?_
  refine ax_getR (pc := 1) (k := 25) (q := 26) (ax_dd KX0_admits 1 rfl) f_X0_15 (hs 25 _ rfl) rfl ?_
  refine ax_iload_n (pc := 4) (i := 1) (q := 1) (ax_dd KX0_admits 2 rfl) rfl rfl ?_
  obtain ⟨j1, b2, h⟩ := ob_bind h
  refine ax_ild (pc := 5) (k := 26) (N := 6) (j := j1) (ax_dd KX0_admits 3 rfl) (hs 26 _ rfl) b2 ?_
  refine ax_iconst (pc := 6) (v := 3) (ax_dd KX0_admits 4 rfl) (by decide) ?_
  by_cases c3 : (μ 26 j1) = 3
  · rw [if_pos c3] at h
    refine ax_icmp_ne_f (pc := 7) (tgt := 12) (ax_dd KX0_admits 5 rfl) (by decide) (fun z => z c3) ?_
    refine ax_iconst (pc := 10) (v := 1) (ax_dd KX0_admits 6 rfl) (by decide) ?_
    obtain rfl := Option.some.inj h
    exact ax_ireti (pc := 11) (ax_dd KX0_admits 7 rfl) ⟨_, rfl, rfl⟩ rfl
  · rw [if_neg c3] at h
    refine ax_icmp_ne_t (pc := 7) (tgt := 12) (ax_dd KX0_admits 5 rfl) (by decide) c3 ?_
    refine ax_aload_n (pc := 12) (i := 0) (q := 0) (ax_dd KX0_admits 8 rfl) rfl rfl ?_
    refine ax_iconst (pc := 13) (v := 1) (ax_dd KX0_admits 9 rfl) (by decide) ?_
    refine ax_iload_n (pc := 14) (i := 1) (q := 1) (ax_dd KX0_admits 10 rfl) rfl rfl ?_
    refine ax_iload_n (pc := 15) (i := 2) (q := 2) (ax_dd KX0_admits 11 rfl) rfl rfl ?_
    refine ax_aload_n (pc := 16) (i := 0) (q := 0) (ax_dd KX0_admits 12 rfl) rfl rfl ?_
    refine ax_getI (pc := 17) (k := 25) (ax_dd KX0_admits 13 rfl) f_X0_9 (hs 25 _ rfl) rfl ?_
    obtain ⟨v4, μ6, b5, h⟩ := ob_bind2 h
    refine ax_kV (pc := 20) (ci := 0) (k := 25) (As := [.int 1, .int x1, .int x2, .int (μ 25 2)]) (rest := []) (st1 := [.int v4]) (μ1 := μ6) (ax_dd KX0_admits 14 rfl) (c_X0_says hs b5) kV_X0_82 e_X0_says (hs 25 _ rfl) cl_X0 (by decide) rfl rfl (by decide) (by decide) (Nat.le_of_ble_eq_true rfl) rfl ?_
    by_cases c7 : v4 = 0
    · rw [if_pos c7] at h
      refine ax_if_eq_t (pc := 23) (tgt := 30) (ax_dd KX0_admits 15 rfl) (by decide) c7 ?_
      refine ax_iconst (pc := 30) (v := 0) (ax_dd KX0_admits 18 rfl) (by decide) ?_
      refine ax_sub (lv' := [(0, .ref (G.1 + 25)), (1, .int x1)]) [0, 1] rfl ?_
      exact a_X0_admits_31 hs h
    · rw [if_neg c7] at h
      refine ax_if_eq_f (pc := 23) (tgt := 30) (ax_dd KX0_admits 15 rfl) (by decide) c7 ?_
      refine ax_iconst (pc := 26) (v := 1) (ax_dd KX0_admits 16 rfl) (by decide) ?_
      refine ax_goto (pc := 27) (tgt := 31) (ax_dd KX0_admits 17 rfl) (by decide) ?_
      refine ax_sub (lv' := [(0, .ref (G.1 + 25)), (1, .int x1)]) [0, 1] rfl ?_
      exact a_X0_admits_31 hs h
def m_X0_fineOf_63 (x1 : Int32) (x4 : Int32) (x5 : Int32) (s0 : Int32) (μ : ax_M) : Option (Int32 × ax_M) :=
  (ix 6 x1).bind fun j1 =>
  if (μ 26 j1) = 1 then
    some (s0, μ)
  else
    if (μ 26 j1) = 2 then
      some (x4, μ)
    else
      if (μ 26 j1) = 3 then
        some (((2 : Int32) * s0), μ)
      else
        if (μ 26 j1) = 4 then
          if x5 = 0 then
            some ((x4 / 2), μ)
          else
            some (0, μ)
        else
          some (x4, μ)
set_option maxRecDepth 100000 in
set_option maxHeartbeats 8000000 in
theorem a_X0_fineOf_63 {G : ax_G} {l : Launch} {sh : List ax_E} {x1 : Int32} {x4 : Int32} {x5 : Int32} {s0 : Int32} {μ : ax_M} (hs : ∀ (k : Nat) (e : ax_E), SHc[k]? = some e → sh[k]? = some e) {v : Int32 × ax_M} (h : m_X0_fineOf_63 x1 x4 x5 s0 μ = some v) : ax_X G l RX0 cX0_fineOf 7 (some .int) false 4 (some (.int v.1), sh, v.2) 63 [(0, .ref (G.1 + 25)), (1, .int x1), (4, .int x4), (5, .int x5)] [.int s0] sh μ := by
  unfold m_X0_fineOf_63 at h
  refine ax_istore (pc := 63) (lv' := [(6, .int s0), (0, .ref (G.1 + 25)), (1, .int x1), (4, .int x4), (5, .int x5)]) (ax_dd KX0_fineOf 40 rfl) (by decide) rfl ?_
  refine ax_aload_n (pc := 65) (i := 0) (q := 1) (ax_dd KX0_fineOf 41 rfl) rfl rfl ?_
  refine ax_getR (pc := 66) (k := 25) (q := 26) (ax_dd KX0_fineOf 42 rfl) f_X0_15 (hs 25 _ rfl) rfl ?_
  refine ax_iload_n (pc := 69) (i := 1) (q := 2) (ax_dd KX0_fineOf 43 rfl) rfl rfl ?_
  obtain ⟨j1, b2, h⟩ := ob_bind h
  refine ax_ild (pc := 70) (k := 26) (N := 6) (j := j1) (ax_dd KX0_fineOf 44 rfl) (hs 26 _ rfl) b2 ?_
  by_cases c3 : (μ 26 j1) = 1
  · rw [if_pos c3] at h
    refine ax_tab (pc := 71) (off := 29) (tgt := 100) (ax_dd KX0_fineOf 45 rfl) (by rw [c3]; decide) (by rw [c3]; decide) (by rw [c3]; rfl) (by decide) ?_
    refine ax_iload (pc := 100) (q := 0) (ax_dd KX0_fineOf 46 rfl) rfl ?_
    obtain rfl := Option.some.inj h
    exact ax_ireti (pc := 102) (ax_dd KX0_fineOf 47 rfl) ⟨_, rfl, rfl⟩ rfl
  · rw [if_neg c3] at h
    by_cases c4 : (μ 26 j1) = 2
    · rw [if_pos c4] at h
      refine ax_tab (pc := 71) (off := 51) (tgt := 122) (ax_dd KX0_fineOf 45 rfl) (by rw [c4]; decide) (by rw [c4]; decide) (by rw [c4]; rfl) (by decide) ?_
      refine ax_iload (pc := 122) (q := 3) (ax_dd KX0_fineOf 60 rfl) rfl ?_
      obtain rfl := Option.some.inj h
      exact ax_ireti (pc := 124) (ax_dd KX0_fineOf 61 rfl) ⟨_, rfl, rfl⟩ rfl
    · rw [if_neg c4] at h
      by_cases c5 : (μ 26 j1) = 3
      · rw [if_pos c5] at h
        refine ax_tab (pc := 71) (off := 32) (tgt := 103) (ax_dd KX0_fineOf 45 rfl) (by rw [c5]; decide) (by rw [c5]; decide) (by rw [c5]; rfl) (by decide) ?_
        refine ax_iconst (pc := 103) (v := 2) (ax_dd KX0_fineOf 48 rfl) (by decide) ?_
        refine ax_iload (pc := 104) (q := 0) (ax_dd KX0_fineOf 49 rfl) rfl ?_
        refine ax_imul (pc := 106) (ax_dd KX0_fineOf 50 rfl) ?_
        obtain rfl := Option.some.inj h
        exact ax_ireti (pc := 107) (ax_dd KX0_fineOf 51 rfl) ⟨_, rfl, rfl⟩ rfl
      · rw [if_neg c5] at h
        by_cases c6 : (μ 26 j1) = 4
        · rw [if_pos c6] at h
          refine ax_tab (pc := 71) (off := 37) (tgt := 108) (ax_dd KX0_fineOf 45 rfl) (by rw [c6]; decide) (by rw [c6]; decide) (by rw [c6]; rfl) (by decide) ?_
          refine ax_iload (pc := 108) (q := 4) (ax_dd KX0_fineOf 52 rfl) rfl ?_
          by_cases c7 : x5 = 0
          · rw [if_pos c7] at h
            refine ax_if_eq_t (pc := 110) (tgt := 117) (ax_dd KX0_fineOf 53 rfl) (by decide) c7 ?_
            refine ax_iload (pc := 117) (q := 3) (ax_dd KX0_fineOf 56 rfl) rfl ?_
            refine ax_iconst (pc := 119) (v := 2) (ax_dd KX0_fineOf 57 rfl) (by decide) ?_
            refine ax_idiv (pc := 120) (ax_dd KX0_fineOf 58 rfl) (by decide) ?_
            obtain rfl := Option.some.inj h
            exact ax_ireti (pc := 121) (ax_dd KX0_fineOf 59 rfl) ⟨_, rfl, rfl⟩ rfl
          · rw [if_neg c7] at h
            refine ax_if_eq_f (pc := 110) (tgt := 117) (ax_dd KX0_fineOf 53 rfl) (by decide) c7 ?_
            refine ax_iconst (pc := 113) (v := 0) (ax_dd KX0_fineOf 54 rfl) (by decide) ?_
            refine ax_goto (pc := 114) (tgt := 121) (ax_dd KX0_fineOf 55 rfl) (by decide) ?_
            obtain rfl := Option.some.inj h
            exact ax_ireti (pc := 121) (ax_dd KX0_fineOf 59 rfl) ⟨_, rfl, rfl⟩ rfl
        · rw [if_neg c6] at h
          refine ax_tabD (pc := 71) (tgt := 122) (ax_dd KX0_fineOf 45 rfl) (by have e0 := ax_ne c3 (a := 1) rfl; have e1 := ax_ne c4 (a := 2) rfl; have e2 := ax_ne c5 (a := 3) rfl; have e3 := ax_ne c6 (a := 4) rfl; omega) (by decide) ?_
          refine ax_iload (pc := 122) (q := 3) (ax_dd KX0_fineOf 60 rfl) rfl ?_
          obtain rfl := Option.some.inj h
          exact ax_ireti (pc := 124) (ax_dd KX0_fineOf 61 rfl) ⟨_, rfl, rfl⟩ rfl
def m_X0_fineOf (x1 : Int32) (x2 : Int32) (x3 : Int32) (μ : ax_M) : Option (Int32 × ax_M) :=
  if x1 = (-1) then
    some (0, μ)
  else
    (ix 6 x1).bind fun j2 =>
    if (μ 26 j2) = 5 then
      (ix 6 x1).bind fun j5 =>
      some ((μ 27 j5), μ)
    else
      bind2 (m_X0_says 0 x1 x2 x3 μ) fun v7 μ9 =>
      (m_X0_hasFringeOn x1 x2 μ9).bind fun v10 =>
      if v10 = 0 then
        m_X0_fineOf_63 x1 v7 v10 v7 μ9
      else
        (ix 6 x1).bind fun j13 =>
        m_X0_fineOf_63 x1 v7 v10 (v7 + ((2 : Int32) * (μ9 27 j13))) μ9
set_option maxRecDepth 100000 in
set_option maxHeartbeats 8000000 in
theorem c_X0_fineOf {G : ax_G} {l : Launch} {sh : List ax_E} {x1 : Int32} {x2 : Int32} {x3 : Int32} {μ : ax_M} (hs : ∀ (k : Nat) (e : ax_E), SHc[k]? = some e → sh[k]? = some e) {v : Int32 × ax_M} (h : m_X0_fineOf x1 x2 x3 μ = some v) : ax_A G l yX0_fineOf cX0_fineOf 7 (some .int) 4 [.ref (G.1 + 25), .int x1, .int x2, .int x3] sh μ (some (.int v.1), sh, v.2) := by
  refine ax_A.of false (by decide +kernel) (fun h9 => by cases h9) (Nat.le_of_ble_eq_true rfl) (?_ : ax_X G l RX0 cX0_fineOf 7 (some .int) false 4 (some (.int v.1), sh, v.2) 0 [(0, .ref (G.1 + 25)), (1, .int x1), (2, .int x2), (3, .int x3)] [] sh μ)
  unfold m_X0_fineOf at h
  refine ax_iload_n (pc := 0) (i := 1) (q := 1) (ax_dd KX0_fineOf 0 rfl) rfl rfl ?_
  refine ax_iconst (pc := 1) (v := (-1)) (ax_dd KX0_fineOf 1 rfl) (by decide) ?_
  by_cases c1 : x1 = (-1)
  · rw [if_pos c1] at h
    refine ax_icmp_ne_f (pc := 2) (tgt := 7) (ax_dd KX0_fineOf 2 rfl) (by decide) (fun z => z c1) ?_
    refine ax_iconst (pc := 5) (v := 0) (ax_dd KX0_fineOf 3 rfl) (by decide) ?_
    obtain rfl := Option.some.inj h
    exact ax_ireti (pc := 6) (ax_dd KX0_fineOf 4 rfl) ⟨_, rfl, rfl⟩ rfl
  · rw [if_neg c1] at h
    refine ax_icmp_ne_t (pc := 2) (tgt := 7) (ax_dd KX0_fineOf 2 rfl) (by decide) c1 ?_
    refine ax_aload_n (pc := 7) (i := 0) (q := 0) (ax_dd KX0_fineOf 5 rfl) rfl rfl ?_
    refine ax_getR (pc := 8) (k := 25) (q := 26) (ax_dd KX0_fineOf 6 rfl) f_X0_15 (hs 25 _ rfl) rfl ?_
    refine ax_iload_n (pc := 11) (i := 1) (q := 1) (ax_dd KX0_fineOf 7 rfl) rfl rfl ?_
    obtain ⟨j2, b3, h⟩ := ob_bind h
    refine ax_ild (pc := 12) (k := 26) (N := 6) (j := j2) (ax_dd KX0_fineOf 8 rfl) (hs 26 _ rfl) b3 ?_
    refine ax_iconst (pc := 13) (v := 5) (ax_dd KX0_fineOf 9 rfl) (by decide) ?_
    by_cases c4 : (μ 26 j2) = 5
    · rw [if_pos c4] at h
      refine ax_icmp_ne_f (pc := 14) (tgt := 24) (ax_dd KX0_fineOf 10 rfl) (by decide) (fun z => z c4) ?_
      refine ax_aload_n (pc := 17) (i := 0) (q := 0) (ax_dd KX0_fineOf 11 rfl) rfl rfl ?_
      refine ax_getR (pc := 18) (k := 25) (q := 27) (ax_dd KX0_fineOf 12 rfl) f_X0_19 (hs 25 _ rfl) rfl ?_
      refine ax_iload_n (pc := 21) (i := 1) (q := 1) (ax_dd KX0_fineOf 13 rfl) rfl rfl ?_
      obtain ⟨j5, b6, h⟩ := ob_bind h
      refine ax_ild (pc := 22) (k := 27) (N := 6) (j := j5) (ax_dd KX0_fineOf 14 rfl) (hs 27 _ rfl) b6 ?_
      obtain rfl := Option.some.inj h
      exact ax_ireti (pc := 23) (ax_dd KX0_fineOf 15 rfl) ⟨_, rfl, rfl⟩ rfl
    · rw [if_neg c4] at h
      refine ax_icmp_ne_t (pc := 14) (tgt := 24) (ax_dd KX0_fineOf 10 rfl) (by decide) c4 ?_
      refine ax_aload_n (pc := 24) (i := 0) (q := 0) (ax_dd KX0_fineOf 16 rfl) rfl rfl ?_
      refine ax_iconst (pc := 25) (v := 0) (ax_dd KX0_fineOf 17 rfl) (by decide) ?_
      refine ax_iload_n (pc := 26) (i := 1) (q := 1) (ax_dd KX0_fineOf 18 rfl) rfl rfl ?_
      refine ax_iload_n (pc := 27) (i := 2) (q := 2) (ax_dd KX0_fineOf 19 rfl) rfl rfl ?_
      refine ax_iload_n (pc := 28) (i := 3) (q := 3) (ax_dd KX0_fineOf 20 rfl) rfl rfl ?_
      obtain ⟨v7, μ9, b8, h⟩ := ob_bind2 h
      refine ax_kV (pc := 29) (ci := 0) (k := 25) (As := [.int 0, .int x1, .int x2, .int x3]) (rest := []) (st1 := [.int v7]) (μ1 := μ9) (ax_dd KX0_fineOf 21 rfl) (c_X0_says hs b8) kV_X0_82 e_X0_says (hs 25 _ rfl) cl_X0 (by decide) rfl rfl (by decide) (by decide) (Nat.le_of_ble_eq_true rfl) rfl ?_
      refine ax_istore (pc := 32) (lv' := [(4, .int v7), (0, .ref (G.1 + 25)), (1, .int x1), (2, .int x2), (3, .int x3)]) (ax_dd KX0_fineOf 22 rfl) (by decide) rfl ?_
      refine ax_aload_n (pc := 34) (i := 0) (q := 1) (ax_dd KX0_fineOf 23 rfl) rfl rfl ?_
      refine ax_iload_n (pc := 35) (i := 1) (q := 2) (ax_dd KX0_fineOf 24 rfl) rfl rfl ?_
      refine ax_iload_n (pc := 36) (i := 2) (q := 3) (ax_dd KX0_fineOf 25 rfl) rfl rfl ?_
      obtain ⟨v10, b11, h⟩ := ob_bind h
      refine ax_kV (pc := 37) (ci := 0) (k := 25) (As := [.int x1, .int x2]) (rest := []) (st1 := [.int v10]) (μ1 := μ9) (ax_dd KX0_fineOf 26 rfl) (c_X0_hasFringeOn hs b11) kV_X0_89 e_X0_hasFringeOn (hs 25 _ rfl) cl_X0 (by decide) rfl rfl (by decide) (by decide) (Nat.le_of_ble_eq_true rfl) rfl ?_
      refine ax_istore (pc := 40) (lv' := [(5, .int v10), (4, .int v7), (0, .ref (G.1 + 25)), (1, .int x1), (2, .int x2), (3, .int x3)]) (ax_dd KX0_fineOf 27 rfl) (by decide) rfl ?_
      refine ax_iload (pc := 42) (q := 0) (ax_dd KX0_fineOf 28 rfl) rfl ?_
      by_cases c12 : v10 = 0
      · rw [if_pos c12] at h
        refine ax_if_eq_t (pc := 44) (tgt := 61) (ax_dd KX0_fineOf 29 rfl) (by decide) c12 ?_
        refine ax_iload (pc := 61) (q := 1) (ax_dd KX0_fineOf 39 rfl) rfl ?_
        refine ax_sub (lv' := [(0, .ref (G.1 + 25)), (1, .int x1), (4, .int v7), (5, .int v10)]) [2, 3, 1, 0] rfl ?_
        exact a_X0_fineOf_63 hs h
      · rw [if_neg c12] at h
        refine ax_if_eq_f (pc := 44) (tgt := 61) (ax_dd KX0_fineOf 29 rfl) (by decide) c12 ?_
        refine ax_iload (pc := 47) (q := 1) (ax_dd KX0_fineOf 30 rfl) rfl ?_
        refine ax_iconst (pc := 49) (v := 2) (ax_dd KX0_fineOf 31 rfl) (by decide) ?_
        refine ax_aload_n (pc := 50) (i := 0) (q := 2) (ax_dd KX0_fineOf 32 rfl) rfl rfl ?_
        refine ax_getR (pc := 51) (k := 25) (q := 27) (ax_dd KX0_fineOf 33 rfl) f_X0_19 (hs 25 _ rfl) rfl ?_
        refine ax_iload_n (pc := 54) (i := 1) (q := 3) (ax_dd KX0_fineOf 34 rfl) rfl rfl ?_
        obtain ⟨j13, b14, h⟩ := ob_bind h
        refine ax_ild (pc := 55) (k := 27) (N := 6) (j := j13) (ax_dd KX0_fineOf 35 rfl) (hs 27 _ rfl) b14 ?_
        refine ax_imul (pc := 56) (ax_dd KX0_fineOf 36 rfl) ?_
        refine ax_iadd (pc := 57) (ax_dd KX0_fineOf 37 rfl) ?_
        refine ax_goto (pc := 58) (tgt := 63) (ax_dd KX0_fineOf 38 rfl) (by decide) ?_
        refine ax_sub (lv' := [(0, .ref (G.1 + 25)), (1, .int x1), (4, .int v7), (5, .int v10)]) [2, 3, 1, 0] rfl ?_
        exact a_X0_fineOf_63 hs h
