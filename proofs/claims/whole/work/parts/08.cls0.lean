def m_X3_isAt (x1 : Int32) (μ : ax_M) : Option (Int32) :=
  if (μ 22 5) = 0 then
    (ix 161 (μ 22 4)).bind fun j2 =>
    if (μ 20 j2) = x1 then
      some 1
    else
      some 0
  else
    some 0
set_option maxRecDepth 100000 in
set_option maxHeartbeats 8000000 in
theorem c_X3_isAt {G : ax_G} {l : Launch} {sh : List ax_E} {x1 : Int32} {μ : ax_M} (hs : ∀ (k : Nat) (e : ax_E), SHc[k]? = some e → sh[k]? = some e) {v : Int32} (h : m_X3_isAt x1 μ = some v) : ax_A G l yX3_isAt cX3_isAt 2 (some .boolean) 2 [.ref (G.1 + 22), .int x1] sh μ (some (.int v), sh, μ) := by
  refine ax_A.of false (by decide +kernel) (fun h9 => by cases h9) (Nat.le_of_ble_eq_true rfl) (?_ : ax_X G l RX3 cX3_isAt 2 (some .boolean) false 2 (some (.int v), sh, μ) 0 [(0, .ref (G.1 + 22)), (1, .int x1)] [] sh μ)
  unfold m_X3_isAt at h
  refine ax_aload_n (pc := 0) (i := 0) (q := 0) (ax_dd KX3_isAt 0 rfl) rfl rfl ?_
  refine ax_getI (pc := 1) (k := 22) (ax_dd KX3_isAt 1 rfl) f_X3_34 (hs 22 _ rfl) rfl ?_
  by_cases c1 : (μ 22 5) = 0
  · rw [if_pos c1] at h
    refine ax_if_ne_f (pc := 4) (tgt := 27) (ax_dd KX3_isAt 2 rfl) (by decide) (fun z => z c1) ?_
    refine ax_aload_n (pc := 7) (i := 0) (q := 0) (ax_dd KX3_isAt 3 rfl) rfl rfl ?_
    refine ax_getR (pc := 8) (k := 22) (q := 18) (ax_dd KX3_isAt 4 rfl) f_X3_18 (hs 22 _ rfl) rfl ?_
    refine ax_getR (pc := 11) (k := 18) (q := 20) (ax_dd KX3_isAt 5 rfl) f_X3_48 (hs 18 _ rfl) rfl ?_
    refine ax_aload_n (pc := 14) (i := 0) (q := 0) (ax_dd KX3_isAt 6 rfl) rfl rfl ?_
    refine ax_getI (pc := 15) (k := 22) (ax_dd KX3_isAt 7 rfl) f_X3_31 (hs 22 _ rfl) rfl ?_
    obtain ⟨j2, b3, h⟩ := ob_bind h
    refine ax_ild (pc := 18) (k := 20) (N := 161) (j := j2) (ax_dd KX3_isAt 8 rfl) (hs 20 _ rfl) b3 ?_
    refine ax_iload_n (pc := 19) (i := 1) (q := 1) (ax_dd KX3_isAt 9 rfl) rfl rfl ?_
    by_cases c4 : (μ 20 j2) = x1
    · rw [if_pos c4] at h
      refine ax_icmp_ne_f (pc := 20) (tgt := 27) (ax_dd KX3_isAt 10 rfl) (by decide) (fun z => z c4) ?_
      refine ax_iconst (pc := 23) (v := 1) (ax_dd KX3_isAt 11 rfl) (by decide) ?_
      refine ax_goto (pc := 24) (tgt := 28) (ax_dd KX3_isAt 12 rfl) (by decide) ?_
      obtain rfl := Option.some.inj h
      exact ax_ireti (pc := 28) (ax_dd KX3_isAt 14 rfl) ⟨_, rfl, rfl⟩ rfl
    · rw [if_neg c4] at h
      refine ax_icmp_ne_t (pc := 20) (tgt := 27) (ax_dd KX3_isAt 10 rfl) (by decide) c4 ?_
      refine ax_iconst (pc := 27) (v := 0) (ax_dd KX3_isAt 13 rfl) (by decide) ?_
      obtain rfl := Option.some.inj h
      exact ax_ireti (pc := 28) (ax_dd KX3_isAt 14 rfl) ⟨_, rfl, rfl⟩ rfl
  · rw [if_neg c1] at h
    refine ax_if_ne_t (pc := 4) (tgt := 27) (ax_dd KX3_isAt 2 rfl) (by decide) c1 ?_
    refine ax_iconst (pc := 27) (v := 0) (ax_dd KX3_isAt 13 rfl) (by decide) ?_
    obtain rfl := Option.some.inj h
    exact ax_ireti (pc := 28) (ax_dd KX3_isAt 14 rfl) ⟨_, rfl, rfl⟩ rfl
def m_X3_goOn (μ : ax_M) : Option (ax_M) :=
  if ((μ 18 4) - 1) ≤ (μ 22 4) then
    some μ
  else
    some (ax_w μ 22 4 ((μ 22 4) + 1))
set_option maxRecDepth 100000 in
set_option maxHeartbeats 8000000 in
theorem c_X3_goOn {G : ax_G} {l : Launch} {sh : List ax_E} {μ : ax_M} (hs : ∀ (k : Nat) (e : ax_E), SHc[k]? = some e → sh[k]? = some e) {v : ax_M} (h : m_X3_goOn μ = some v) : ax_A G l yX3_goOn cX3_goOn 1 none 2 [.ref (G.1 + 22)] sh μ (none, sh, v) := by
  refine ax_A.of false (by decide +kernel) (fun h9 => by cases h9) (Nat.le_of_ble_eq_true rfl) (?_ : ax_X G l RX3 cX3_goOn 1 none false 2 (none, sh, v) 0 [(0, .ref (G.1 + 22))] [] sh μ)
  unfold m_X3_goOn at h
  refine ax_aload_n (pc := 0) (i := 0) (q := 0) (ax_dd KX3_goOn 0 rfl) rfl rfl ?_
  refine ax_getI (pc := 1) (k := 22) (ax_dd KX3_goOn 1 rfl) f_X3_31 (hs 22 _ rfl) rfl ?_
  refine ax_aload_n (pc := 4) (i := 0) (q := 0) (ax_dd KX3_goOn 2 rfl) rfl rfl ?_
  refine ax_getR (pc := 5) (k := 22) (q := 18) (ax_dd KX3_goOn 3 rfl) f_X3_18 (hs 22 _ rfl) rfl ?_
  refine ax_getI (pc := 8) (k := 18) (ax_dd KX3_goOn 4 rfl) f_X3_58 (hs 18 _ rfl) rfl ?_
  refine ax_iconst (pc := 11) (v := 1) (ax_dd KX3_goOn 5 rfl) (by decide) ?_
  refine ax_isub (pc := 12) (ax_dd KX3_goOn 6 rfl) ?_
  by_cases c1 : ((μ 18 4) - 1) ≤ (μ 22 4)
  · rw [if_pos c1] at h
    refine ax_icmp_ge_t (pc := 13) (tgt := 26) (ax_dd KX3_goOn 7 rfl) (by decide) c1 ?_
    obtain rfl := Option.some.inj h
    exact ax_vret (pc := 26) (ax_dd KX3_goOn 14 rfl) rfl rfl
  · rw [if_neg c1] at h
    refine ax_icmp_ge_f (pc := 13) (tgt := 26) (ax_dd KX3_goOn 7 rfl) (by decide) c1 ?_
    refine ax_aload_n (pc := 16) (i := 0) (q := 0) (ax_dd KX3_goOn 8 rfl) rfl rfl ?_
    refine ax_dup (pc := 17) (ax_dd KX3_goOn 9 rfl) rfl ?_
    refine ax_getI (pc := 18) (k := 22) (ax_dd KX3_goOn 10 rfl) f_X3_31 (hs 22 _ rfl) rfl ?_
    refine ax_iconst (pc := 21) (v := 1) (ax_dd KX3_goOn 11 rfl) (by decide) ?_
    refine ax_iadd (pc := 22) (ax_dd KX3_goOn 12 rfl) ?_
    refine ax_putI (pc := 23) (k := 22) (ax_dd KX3_goOn 13 rfl) f_X3_31 ft_X3 (hs 22 _ rfl) rfl (fun _ h9 => by cases h9; rfl) rfl rfl ?_
    obtain rfl := Option.some.inj h
    exact ax_vret (pc := 26) (ax_dd KX3_goOn 14 rfl) rfl rfl
def m_X3_opens (x1 : Int32) (μ : ax_M) : Option (Int32 × ax_M) :=
  if x1 < 5 then
    (m_X3_goOn μ).bind fun μ4 =>
    some (1, μ4)
  else
    some (0, ax_w μ 22 5 1)
set_option maxRecDepth 100000 in
set_option maxHeartbeats 8000000 in
theorem c_X3_opens {G : ax_G} {l : Launch} {sh : List ax_E} {x1 : Int32} {μ : ax_M} (hs : ∀ (k : Nat) (e : ax_E), SHc[k]? = some e → sh[k]? = some e) {v : Int32 × ax_M} (h : m_X3_opens x1 μ = some v) : ax_A G l yX3_opens cX3_opens 2 (some .boolean) 3 [.ref (G.1 + 22), .int x1] sh μ (some (.int v.1), sh, v.2) := by
  refine ax_A.of false (by decide +kernel) (fun h9 => by cases h9) (Nat.le_of_ble_eq_true rfl) (?_ : ax_X G l RX3 cX3_opens 2 (some .boolean) false 3 (some (.int v.1), sh, v.2) 0 [(0, .ref (G.1 + 22)), (1, .int x1)] [] sh μ)
  unfold m_X3_opens at h
  refine ax_iload_n (pc := 0) (i := 1) (q := 1) (ax_dd KX3_opens 0 rfl) rfl rfl ?_
  refine ax_iconst (pc := 1) (v := 5) (ax_dd KX3_opens 1 rfl) (by decide) ?_
  by_cases c1 : x1 < 5
  · rw [if_pos c1] at h
    refine ax_icmp_lt_t (pc := 2) (tgt := 12) (ax_dd KX3_opens 2 rfl) (by decide) c1 ?_
    refine ax_aload_n (pc := 12) (i := 0) (q := 0) (ax_dd KX3_opens 8 rfl) rfl rfl ?_
    obtain ⟨μ4, b3, h⟩ := ob_bind h
    refine ax_kV (pc := 13) (ci := 3) (k := 22) (As := []) (rest := []) (st1 := []) (μ1 := μ4) (ax_dd KX3_opens 9 rfl) (c_X3_goOn hs b3) kV_X3_55 e_X3_goOn (hs 22 _ rfl) cl_X3 (by decide) rfl rfl (by decide) (by decide) (Nat.le_of_ble_eq_true rfl) rfl ?_
    refine ax_iconst (pc := 16) (v := 1) (ax_dd KX3_opens 10 rfl) (by decide) ?_
    obtain rfl := Option.some.inj h
    exact ax_ireti (pc := 17) (ax_dd KX3_opens 11 rfl) ⟨_, rfl, rfl⟩ rfl
  · rw [if_neg c1] at h
    refine ax_icmp_lt_f (pc := 2) (tgt := 12) (ax_dd KX3_opens 2 rfl) (by decide) c1 ?_
    refine ax_aload_n (pc := 5) (i := 0) (q := 0) (ax_dd KX3_opens 3 rfl) rfl rfl ?_
    refine ax_iconst (pc := 6) (v := 1) (ax_dd KX3_opens 4 rfl) (by decide) ?_
    refine ax_putI (pc := 7) (k := 22) (ax_dd KX3_opens 5 rfl) f_X3_34 ft_X3 (hs 22 _ rfl) rfl (fun _ h9 => by cases h9; rfl) rfl rfl ?_
    refine ax_iconst (pc := 10) (v := 0) (ax_dd KX3_opens 6 rfl) (by decide) ?_
    obtain rfl := Option.some.inj h
    exact ax_ireti (pc := 11) (ax_dd KX3_opens 7 rfl) ⟨_, rfl, rfl⟩ rfl
def m_X3_write (x1 : Int32) (μ : ax_M) : Option (ax_M) :=
  if 160 ≤ (μ 22 3) then
    some μ
  else
    (ix 160 (μ 22 3)).bind fun j2 =>
    some (ax_w (ax_w μ 22 3 ((μ 22 3) + 1)) 23 j2 x1)
set_option maxRecDepth 100000 in
set_option maxHeartbeats 8000000 in
theorem c_X3_write {G : ax_G} {l : Launch} {sh : List ax_E} {x1 : Int32} {μ : ax_M} (hs : ∀ (k : Nat) (e : ax_E), SHc[k]? = some e → sh[k]? = some e) {v : ax_M} (h : m_X3_write x1 μ = some v) : ax_A G l yX3_write cX3_write 2 none 2 [.ref (G.1 + 22), .int x1] sh μ (none, sh, v) := by
  refine ax_A.of false (by decide +kernel) (fun h9 => by cases h9) (Nat.le_of_ble_eq_true rfl) (?_ : ax_X G l RX3 cX3_write 2 none false 2 (none, sh, v) 0 [(0, .ref (G.1 + 22)), (1, .int x1)] [] sh μ)
  unfold m_X3_write at h
  refine ax_aload_n (pc := 0) (i := 0) (q := 0) (ax_dd KX3_write 0 rfl) rfl rfl ?_
  refine ax_getI (pc := 1) (k := 22) (ax_dd KX3_write 1 rfl) f_X3_27 (hs 22 _ rfl) rfl ?_
  refine ax_sipush (pc := 4) (v := 160) (ax_dd KX3_write 2 rfl) (by decide) ?_
  by_cases c1 : 160 ≤ (μ 22 3)
  · rw [if_pos c1] at h
    refine ax_icmp_ge_t (pc := 7) (tgt := 27) (ax_dd KX3_write 3 rfl) (by decide) c1 ?_
    obtain rfl := Option.some.inj h
    exact ax_vret (pc := 27) (ax_dd KX3_write 15 rfl) rfl rfl
  · rw [if_neg c1] at h
    refine ax_icmp_ge_f (pc := 7) (tgt := 27) (ax_dd KX3_write 3 rfl) (by decide) c1 ?_
    refine ax_aload_n (pc := 10) (i := 0) (q := 0) (ax_dd KX3_write 4 rfl) rfl rfl ?_
    refine ax_getR (pc := 11) (k := 22) (q := 23) (ax_dd KX3_write 5 rfl) f_X3_9 (hs 22 _ rfl) rfl ?_
    refine ax_aload_n (pc := 14) (i := 0) (q := 0) (ax_dd KX3_write 6 rfl) rfl rfl ?_
    refine ax_dup (pc := 15) (ax_dd KX3_write 7 rfl) rfl ?_
    refine ax_getI (pc := 16) (k := 22) (ax_dd KX3_write 8 rfl) f_X3_27 (hs 22 _ rfl) rfl ?_
    refine ax_dup_x1 (pc := 19) (ax_dd KX3_write 9 rfl) rfl rfl ?_
    refine ax_iconst (pc := 20) (v := 1) (ax_dd KX3_write 10 rfl) (by decide) ?_
    refine ax_iadd (pc := 21) (ax_dd KX3_write 11 rfl) ?_
    refine ax_putI (pc := 22) (k := 22) (ax_dd KX3_write 12 rfl) f_X3_27 ft_X3 (hs 22 _ rfl) rfl (fun _ h9 => by cases h9; rfl) rfl rfl ?_
    refine ax_iload_n (pc := 25) (i := 1) (q := 1) (ax_dd KX3_write 13 rfl) rfl rfl ?_
    obtain ⟨j2, b3, h⟩ := ob_bind h
    refine ax_ist (pc := 26) (k := 23) (N := 160) (j := j2) (ax_dd KX3_write 14 rfl) (hs 23 _ rfl) b3 ?_
    obtain rfl := Option.some.inj h
    exact ax_vret (pc := 27) (ax_dd KX3_write 15 rfl) rfl rfl
def m_X3_demand (x1 : Int32) (μ : ax_M) : Option (ax_M) :=
  (m_X3_isAt x1 μ).bind fun v1 =>
  if v1 = 0 then
    some (ax_w μ 22 5 1)
  else
    (m_X3_goOn μ).bind fun μ6 =>
    some μ6
set_option maxRecDepth 100000 in
set_option maxHeartbeats 8000000 in
theorem c_X3_demand {G : ax_G} {l : Launch} {sh : List ax_E} {x1 : Int32} {μ : ax_M} (hs : ∀ (k : Nat) (e : ax_E), SHc[k]? = some e → sh[k]? = some e) {v : ax_M} (h : m_X3_demand x1 μ = some v) : ax_A G l yX3_demand cX3_demand 2 none 3 [.ref (G.1 + 22), .int x1] sh μ (none, sh, v) := by
  refine ax_A.of false (by decide +kernel) (fun h9 => by cases h9) (Nat.le_of_ble_eq_true rfl) (?_ : ax_X G l RX3 cX3_demand 2 none false 3 (none, sh, v) 0 [(0, .ref (G.1 + 22)), (1, .int x1)] [] sh μ)
  unfold m_X3_demand at h
  refine ax_aload_n (pc := 0) (i := 0) (q := 0) (ax_dd KX3_demand 0 rfl) rfl rfl ?_
  refine ax_iload_n (pc := 1) (i := 1) (q := 1) (ax_dd KX3_demand 1 rfl) rfl rfl ?_
  obtain ⟨v1, b2, h⟩ := ob_bind h
  refine ax_kV (pc := 2) (ci := 3) (k := 22) (As := [.int x1]) (rest := []) (st1 := [.int v1]) (μ1 := μ) (ax_dd KX3_demand 2 rfl) (c_X3_isAt hs b2) kV_X3_51 e_X3_isAt (hs 22 _ rfl) cl_X3 (by decide) rfl rfl (by decide) (by decide) (Nat.le_of_ble_eq_true rfl) rfl ?_
  by_cases c3 : v1 = 0
  · rw [if_pos c3] at h
    refine ax_if_eq_t (pc := 5) (tgt := 15) (ax_dd KX3_demand 3 rfl) (by decide) c3 ?_
    refine ax_aload_n (pc := 15) (i := 0) (q := 0) (ax_dd KX3_demand 7 rfl) rfl rfl ?_
    refine ax_iconst (pc := 16) (v := 1) (ax_dd KX3_demand 8 rfl) (by decide) ?_
    refine ax_putI (pc := 17) (k := 22) (ax_dd KX3_demand 9 rfl) f_X3_34 ft_X3 (hs 22 _ rfl) rfl (fun _ h9 => by cases h9; rfl) rfl rfl ?_
    obtain rfl := Option.some.inj h
    exact ax_vret (pc := 20) (ax_dd KX3_demand 10 rfl) rfl rfl
  · rw [if_neg c3] at h
    refine ax_if_eq_f (pc := 5) (tgt := 15) (ax_dd KX3_demand 3 rfl) (by decide) c3 ?_
    refine ax_aload_n (pc := 8) (i := 0) (q := 0) (ax_dd KX3_demand 4 rfl) rfl rfl ?_
    obtain ⟨μ6, b5, h⟩ := ob_bind h
    refine ax_kV (pc := 9) (ci := 3) (k := 22) (As := []) (rest := []) (st1 := []) (μ1 := μ6) (ax_dd KX3_demand 5 rfl) (c_X3_goOn hs b5) kV_X3_55 e_X3_goOn (hs 22 _ rfl) cl_X3 (by decide) rfl rfl (by decide) (by decide) (Nat.le_of_ble_eq_true rfl) rfl ?_
    refine ax_goto (pc := 12) (tgt := 20) (ax_dd KX3_demand 6 rfl) (by decide) ?_
    obtain rfl := Option.some.inj h
    exact ax_vret (pc := 20) (ax_dd KX3_demand 10 rfl) rfl rfl
def m_X0_isRug (x1 : Int32) (μ : ax_M) : Option (Int32) :=
  if x1 < 0 then
    some 0
  else
    if (μ 25 1) ≤ x1 then
      some 0
    else
      some 1
set_option maxRecDepth 100000 in
set_option maxHeartbeats 8000000 in
theorem c_X0_isRug {G : ax_G} {l : Launch} {sh : List ax_E} {x1 : Int32} {μ : ax_M} (hs : ∀ (k : Nat) (e : ax_E), SHc[k]? = some e → sh[k]? = some e) {v : Int32} (h : m_X0_isRug x1 μ = some v) : ax_A G l yX0_isRug cX0_isRug 2 (some .boolean) 2 [.ref (G.1 + 25), .int x1] sh μ (some (.int v), sh, μ) := by
  refine ax_A.of false (by decide +kernel) (fun h9 => by cases h9) (Nat.le_of_ble_eq_true rfl) (?_ : ax_X G l RX0 cX0_isRug 2 (some .boolean) false 2 (some (.int v), sh, μ) 0 [(0, .ref (G.1 + 25)), (1, .int x1)] [] sh μ)
  unfold m_X0_isRug at h
  refine ax_iload_n (pc := 0) (i := 1) (q := 1) (ax_dd KX0_isRug 0 rfl) rfl rfl ?_
  by_cases c1 : x1 < 0
  · rw [if_pos c1] at h
    refine ax_if_lt_t (pc := 1) (tgt := 16) (ax_dd KX0_isRug 1 rfl) (by decide) c1 ?_
    refine ax_iconst (pc := 16) (v := 0) (ax_dd KX0_isRug 8 rfl) (by decide) ?_
    obtain rfl := Option.some.inj h
    exact ax_ireti (pc := 17) (ax_dd KX0_isRug 9 rfl) ⟨_, rfl, rfl⟩ rfl
  · rw [if_neg c1] at h
    refine ax_if_lt_f (pc := 1) (tgt := 16) (ax_dd KX0_isRug 1 rfl) (by decide) c1 ?_
    refine ax_iload_n (pc := 4) (i := 1) (q := 1) (ax_dd KX0_isRug 2 rfl) rfl rfl ?_
    refine ax_aload_n (pc := 5) (i := 0) (q := 0) (ax_dd KX0_isRug 3 rfl) rfl rfl ?_
    refine ax_getI (pc := 6) (k := 25) (ax_dd KX0_isRug 4 rfl) f_X0_44 (hs 25 _ rfl) rfl ?_
    by_cases c2 : (μ 25 1) ≤ x1
    · rw [if_pos c2] at h
      refine ax_icmp_ge_t (pc := 9) (tgt := 16) (ax_dd KX0_isRug 5 rfl) (by decide) c2 ?_
      refine ax_iconst (pc := 16) (v := 0) (ax_dd KX0_isRug 8 rfl) (by decide) ?_
      obtain rfl := Option.some.inj h
      exact ax_ireti (pc := 17) (ax_dd KX0_isRug 9 rfl) ⟨_, rfl, rfl⟩ rfl
    · rw [if_neg c2] at h
      refine ax_icmp_ge_f (pc := 9) (tgt := 16) (ax_dd KX0_isRug 5 rfl) (by decide) c2 ?_
      refine ax_iconst (pc := 12) (v := 1) (ax_dd KX0_isRug 6 rfl) (by decide) ?_
      refine ax_goto (pc := 13) (tgt := 17) (ax_dd KX0_isRug 7 rfl) (by decide) ?_
      obtain rfl := Option.some.inj h
      exact ax_ireti (pc := 17) (ax_dd KX0_isRug 9 rfl) ⟨_, rfl, rfl⟩ rfl
def m_X9_columnOf (x0 : Int32) (μ : ax_M) : Option (Int32) :=
  some (rmI x0 6)
set_option maxRecDepth 100000 in
set_option maxHeartbeats 8000000 in
theorem c_X9_columnOf {G : ax_G} {l : Launch} {sh : List ax_E} {x0 : Int32} {μ : ax_M} (hs : ∀ (k : Nat) (e : ax_E), SHc[k]? = some e → sh[k]? = some e) {v : Int32} (h : m_X9_columnOf x0 μ = some v) : ax_A G l yX9_columnOf cX9_columnOf 1 (some .int) 2 [.int x0] sh μ (some (.int v), sh, μ) := by
  refine ax_A.of false (by decide +kernel) (fun h9 => by cases h9) (Nat.le_of_ble_eq_true rfl) (?_ : ax_X G l RX9 cX9_columnOf 1 (some .int) false 2 (some (.int v), sh, μ) 0 [(0, .int x0)] [] sh μ)
  unfold m_X9_columnOf at h
  refine ax_iload_n (pc := 0) (i := 0) (q := 0) (ax_dd KX9_columnOf 0 rfl) rfl rfl ?_
  refine ax_bipush (pc := 1) (v := 6) (ax_dd KX9_columnOf 1 rfl) (by decide) ?_
  refine ax_irem (pc := 3) (ax_dd KX9_columnOf 2 rfl) (by decide) ?_
  obtain rfl := Option.some.inj h
  exact ax_ireti (pc := 4) (ax_dd KX9_columnOf 3 rfl) ⟨_, rfl, rfl⟩ rfl
def m_X9_rowOf (x0 : Int32) (μ : ax_M) : Option (Int32) :=
  some (x0 / 6)
set_option maxRecDepth 100000 in
set_option maxHeartbeats 8000000 in
theorem c_X9_rowOf {G : ax_G} {l : Launch} {sh : List ax_E} {x0 : Int32} {μ : ax_M} (hs : ∀ (k : Nat) (e : ax_E), SHc[k]? = some e → sh[k]? = some e) {v : Int32} (h : m_X9_rowOf x0 μ = some v) : ax_A G l yX9_rowOf cX9_rowOf 1 (some .int) 2 [.int x0] sh μ (some (.int v), sh, μ) := by
  refine ax_A.of false (by decide +kernel) (fun h9 => by cases h9) (Nat.le_of_ble_eq_true rfl) (?_ : ax_X G l RX9 cX9_rowOf 1 (some .int) false 2 (some (.int v), sh, μ) 0 [(0, .int x0)] [] sh μ)
  unfold m_X9_rowOf at h
  refine ax_iload_n (pc := 0) (i := 0) (q := 0) (ax_dd KX9_rowOf 0 rfl) rfl rfl ?_
  refine ax_bipush (pc := 1) (v := 6) (ax_dd KX9_rowOf 1 rfl) (by decide) ?_
  refine ax_idiv (pc := 3) (ax_dd KX9_rowOf 2 rfl) (by decide) ?_
  obtain rfl := Option.some.inj h
  exact ax_ireti (pc := 4) (ax_dd KX9_rowOf 3 rfl) ⟨_, rfl, rfl⟩ rfl
def m_X0_lay (x1 : Int32) (x2 : Int32) (x3 : Int32) (μ : ax_M) : Option (ax_M) :=
  (ix 6 x1).bind fun j1 =>
  (ix 6 x1).bind fun j3 =>
  (m_X9_columnOf x3 (ax_w (ax_w μ 28 j1 x2) 29 j3 x3)).bind fun v5 =>
  (m_X9_columnOf x2 (ax_w (ax_w μ 28 j1 x2) 29 j3 x3)).bind fun v7 =>
  (m_X9_rowOf x3 (ax_w (ax_w μ 28 j1 x2) 29 j3 x3)).bind fun v9 =>
  (m_X9_rowOf x2 (ax_w (ax_w μ 28 j1 x2) 29 j3 x3)).bind fun v11 =>
  (ix 6 x1).bind fun j13 =>
  some (ax_w (ax_w (ax_w μ 28 j1 x2) 29 j3 x3) 30 j13 (((v5 - v7) + 1) * ((v9 - v11) + 1)))
set_option maxRecDepth 100000 in
set_option maxHeartbeats 8000000 in
theorem c_X0_lay {G : ax_G} {l : Launch} {sh : List ax_E} {x1 : Int32} {x2 : Int32} {x3 : Int32} {μ : ax_M} (hs : ∀ (k : Nat) (e : ax_E), SHc[k]? = some e → sh[k]? = some e) {v : ax_M} (h : m_X0_lay x1 x2 x3 μ = some v) : ax_A G l yX0_lay cX0_lay 4 none 3 [.ref (G.1 + 25), .int x1, .int x2, .int x3] sh μ (none, sh, v) := by
  refine ax_A.of false (by decide +kernel) (fun h9 => by cases h9) (Nat.le_of_ble_eq_true rfl) (?_ : ax_X G l RX0 cX0_lay 4 none false 3 (none, sh, v) 0 [(0, .ref (G.1 + 25)), (1, .int x1), (2, .int x2), (3, .int x3)] [] sh μ)
  unfold m_X0_lay at h
  refine ax_aload_n (pc := 0) (i := 0) (q := 0) (ax_dd KX0_lay 0 rfl) rfl rfl ?_
  refine ax_getR (pc := 1) (k := 25) (q := 28) (ax_dd KX0_lay 1 rfl) f_X0_22 (hs 25 _ rfl) rfl ?_
  refine ax_iload_n (pc := 4) (i := 1) (q := 1) (ax_dd KX0_lay 2 rfl) rfl rfl ?_
  refine ax_iload_n (pc := 5) (i := 2) (q := 2) (ax_dd KX0_lay 3 rfl) rfl rfl ?_
  obtain ⟨j1, b2, h⟩ := ob_bind h
  refine ax_ist (pc := 6) (k := 28) (N := 6) (j := j1) (ax_dd KX0_lay 4 rfl) (hs 28 _ rfl) b2 ?_
  refine ax_aload_n (pc := 7) (i := 0) (q := 0) (ax_dd KX0_lay 5 rfl) rfl rfl ?_
  refine ax_getR (pc := 8) (k := 25) (q := 29) (ax_dd KX0_lay 6 rfl) f_X0_25 (hs 25 _ rfl) rfl ?_
  refine ax_iload_n (pc := 11) (i := 1) (q := 1) (ax_dd KX0_lay 7 rfl) rfl rfl ?_
  refine ax_iload_n (pc := 12) (i := 3) (q := 3) (ax_dd KX0_lay 8 rfl) rfl rfl ?_
  obtain ⟨j3, b4, h⟩ := ob_bind h
  refine ax_ist (pc := 13) (k := 29) (N := 6) (j := j3) (ax_dd KX0_lay 9 rfl) (hs 29 _ rfl) b4 ?_
  refine ax_aload_n (pc := 14) (i := 0) (q := 0) (ax_dd KX0_lay 10 rfl) rfl rfl ?_
  refine ax_getR (pc := 15) (k := 25) (q := 30) (ax_dd KX0_lay 11 rfl) f_X0_28 (hs 25 _ rfl) rfl ?_
  refine ax_iload_n (pc := 18) (i := 1) (q := 1) (ax_dd KX0_lay 12 rfl) rfl rfl ?_
  refine ax_iload_n (pc := 19) (i := 3) (q := 3) (ax_dd KX0_lay 13 rfl) rfl rfl ?_
  obtain ⟨v5, b6, h⟩ := ob_bind h
  refine ax_kSN (pc := 20) (i := 3) (As := [.int x3]) (rest := [.int x1, .ref (G.1 + 30)]) (st1 := [.int v5, .int x1, .ref (G.1 + 30)]) (μ1 := ax_w (ax_w μ 28 j1 x2) 29 j3 x3) (ax_dd KX0_lay 14 rfl) (c_X9_columnOf hs b6) kN_X0_51 rfl e_X9_columnOf rfl rfl (by decide) (by decide) (Nat.le_of_ble_eq_true rfl) rfl ?_
  refine ax_iload_n (pc := 23) (i := 2) (q := 2) (ax_dd KX0_lay 15 rfl) rfl rfl ?_
  obtain ⟨v7, b8, h⟩ := ob_bind h
  refine ax_kSN (pc := 24) (i := 3) (As := [.int x2]) (rest := [.int v5, .int x1, .ref (G.1 + 30)]) (st1 := [.int v7, .int v5, .int x1, .ref (G.1 + 30)]) (μ1 := ax_w (ax_w μ 28 j1 x2) 29 j3 x3) (ax_dd KX0_lay 16 rfl) (c_X9_columnOf hs b8) kN_X0_51 rfl e_X9_columnOf rfl rfl (by decide) (by decide) (Nat.le_of_ble_eq_true rfl) rfl ?_
  refine ax_isub (pc := 27) (ax_dd KX0_lay 17 rfl) ?_
  refine ax_iconst (pc := 28) (v := 1) (ax_dd KX0_lay 18 rfl) (by decide) ?_
  refine ax_iadd (pc := 29) (ax_dd KX0_lay 19 rfl) ?_
  refine ax_iload_n (pc := 30) (i := 3) (q := 3) (ax_dd KX0_lay 20 rfl) rfl rfl ?_
  obtain ⟨v9, b10, h⟩ := ob_bind h
  refine ax_kSN (pc := 31) (i := 4) (As := [.int x3]) (rest := [.int ((v5 - v7) + 1), .int x1, .ref (G.1 + 30)]) (st1 := [.int v9, .int ((v5 - v7) + 1), .int x1, .ref (G.1 + 30)]) (μ1 := ax_w (ax_w μ 28 j1 x2) 29 j3 x3) (ax_dd KX0_lay 21 rfl) (c_X9_rowOf hs b10) kN_X0_55 rfl e_X9_rowOf rfl rfl (by decide) (by decide) (Nat.le_of_ble_eq_true rfl) rfl ?_
  refine ax_iload_n (pc := 34) (i := 2) (q := 2) (ax_dd KX0_lay 22 rfl) rfl rfl ?_
  obtain ⟨v11, b12, h⟩ := ob_bind h
  refine ax_kSN (pc := 35) (i := 4) (As := [.int x2]) (rest := [.int v9, .int ((v5 - v7) + 1), .int x1, .ref (G.1 + 30)]) (st1 := [.int v11, .int v9, .int ((v5 - v7) + 1), .int x1, .ref (G.1 + 30)]) (μ1 := ax_w (ax_w μ 28 j1 x2) 29 j3 x3) (ax_dd KX0_lay 23 rfl) (c_X9_rowOf hs b12) kN_X0_55 rfl e_X9_rowOf rfl rfl (by decide) (by decide) (Nat.le_of_ble_eq_true rfl) rfl ?_
  refine ax_isub (pc := 38) (ax_dd KX0_lay 24 rfl) ?_
  refine ax_iconst (pc := 39) (v := 1) (ax_dd KX0_lay 25 rfl) (by decide) ?_
  refine ax_iadd (pc := 40) (ax_dd KX0_lay 26 rfl) ?_
  refine ax_imul (pc := 41) (ax_dd KX0_lay 27 rfl) ?_
  obtain ⟨j13, b14, h⟩ := ob_bind h
  refine ax_ist (pc := 42) (k := 30) (N := 6) (j := j13) (ax_dd KX0_lay 28 rfl) (hs 30 _ rfl) b14 ?_
  obtain rfl := Option.some.inj h
  exact ax_vret (pc := 43) (ax_dd KX0_lay 29 rfl) rfl rfl
def m_X0_add (x1 : Int32) (x2 : Int32) (μ : ax_M) : Option (Int32 × ax_M) :=
  (ix 6 (μ 25 1)).bind fun j1 =>
  (ix 6 (μ 25 1)).bind fun j3 =>
  (ix 6 (μ 25 1)).bind fun j5 =>
  (m_X0_lay (μ 25 1) (x2 / 100) (rmI x2 100) (ax_w (ax_w (ax_w (ax_w μ 25 1 ((μ 25 1) + 1)) 26 j1 (x1 / 10)) 27 j3 (rmI x1 10)) 31 j5 0)).bind fun μ9 =>
  some ((μ 25 1), μ9)
set_option maxRecDepth 100000 in
set_option maxHeartbeats 8000000 in
theorem c_X0_add {G : ax_G} {l : Launch} {sh : List ax_E} {x1 : Int32} {x2 : Int32} {μ : ax_M} (hs : ∀ (k : Nat) (e : ax_E), SHc[k]? = some e → sh[k]? = some e) {v : Int32 × ax_M} (h : m_X0_add x1 x2 μ = some v) : ax_A G l yX0_add cX0_add 4 (some .int) 4 [.ref (G.1 + 25), .int x1, .int x2] sh μ (some (.int v.1), sh, v.2) := by
  refine ax_A.of false (by decide +kernel) (fun h9 => by cases h9) (Nat.le_of_ble_eq_true rfl) (?_ : ax_X G l RX0 cX0_add 4 (some .int) false 4 (some (.int v.1), sh, v.2) 0 [(0, .ref (G.1 + 25)), (1, .int x1), (2, .int x2)] [] sh μ)
  unfold m_X0_add at h
  refine ax_aload_n (pc := 0) (i := 0) (q := 0) (ax_dd KX0_add 0 rfl) rfl rfl ?_
  refine ax_getI (pc := 1) (k := 25) (ax_dd KX0_add 1 rfl) f_X0_44 (hs 25 _ rfl) rfl ?_
  refine ax_istore_n (pc := 4) (i := 3) (lv' := [(3, .int (μ 25 1)), (0, .ref (G.1 + 25)), (1, .int x1), (2, .int x2)]) (ax_dd KX0_add 2 rfl) rfl (by decide) rfl ?_
  refine ax_aload_n (pc := 5) (i := 0) (q := 1) (ax_dd KX0_add 3 rfl) rfl rfl ?_
  refine ax_dup (pc := 6) (ax_dd KX0_add 4 rfl) rfl ?_
  refine ax_getI (pc := 7) (k := 25) (ax_dd KX0_add 5 rfl) f_X0_44 (hs 25 _ rfl) rfl ?_
  refine ax_iconst (pc := 10) (v := 1) (ax_dd KX0_add 6 rfl) (by decide) ?_
  refine ax_iadd (pc := 11) (ax_dd KX0_add 7 rfl) ?_
  refine ax_putI (pc := 12) (k := 25) (ax_dd KX0_add 8 rfl) f_X0_44 ft_X0 (hs 25 _ rfl) rfl (fun _ h9 => by cases h9; rfl) rfl rfl ?_
  refine ax_aload_n (pc := 15) (i := 0) (q := 1) (ax_dd KX0_add 9 rfl) rfl rfl ?_
  refine ax_getR (pc := 16) (k := 25) (q := 26) (ax_dd KX0_add 10 rfl) f_X0_15 (hs 25 _ rfl) rfl ?_
  refine ax_iload_n (pc := 19) (i := 3) (q := 0) (ax_dd KX0_add 11 rfl) rfl rfl ?_
  refine ax_iload_n (pc := 20) (i := 1) (q := 2) (ax_dd KX0_add 12 rfl) rfl rfl ?_
  refine ax_bipush (pc := 21) (v := 10) (ax_dd KX0_add 13 rfl) (by decide) ?_
  refine ax_idiv (pc := 23) (ax_dd KX0_add 14 rfl) (by decide) ?_
  obtain ⟨j1, b2, h⟩ := ob_bind h
  refine ax_ist (pc := 24) (k := 26) (N := 6) (j := j1) (ax_dd KX0_add 15 rfl) (hs 26 _ rfl) b2 ?_
  refine ax_aload_n (pc := 25) (i := 0) (q := 1) (ax_dd KX0_add 16 rfl) rfl rfl ?_
  refine ax_getR (pc := 26) (k := 25) (q := 27) (ax_dd KX0_add 17 rfl) f_X0_19 (hs 25 _ rfl) rfl ?_
  refine ax_iload_n (pc := 29) (i := 3) (q := 0) (ax_dd KX0_add 18 rfl) rfl rfl ?_
  refine ax_iload_n (pc := 30) (i := 1) (q := 2) (ax_dd KX0_add 19 rfl) rfl rfl ?_
  refine ax_bipush (pc := 31) (v := 10) (ax_dd KX0_add 20 rfl) (by decide) ?_
  refine ax_irem (pc := 33) (ax_dd KX0_add 21 rfl) (by decide) ?_
  obtain ⟨j3, b4, h⟩ := ob_bind h
  refine ax_ist (pc := 34) (k := 27) (N := 6) (j := j3) (ax_dd KX0_add 22 rfl) (hs 27 _ rfl) b4 ?_
  refine ax_aload_n (pc := 35) (i := 0) (q := 1) (ax_dd KX0_add 23 rfl) rfl rfl ?_
  refine ax_getR (pc := 36) (k := 25) (q := 31) (ax_dd KX0_add 24 rfl) f_X0_31 (hs 25 _ rfl) rfl ?_
  refine ax_iload_n (pc := 39) (i := 3) (q := 0) (ax_dd KX0_add 25 rfl) rfl rfl ?_
  refine ax_iconst (pc := 40) (v := 0) (ax_dd KX0_add 26 rfl) (by decide) ?_
  obtain ⟨j5, b6, h⟩ := ob_bind h
  refine ax_ist (pc := 41) (k := 31) (N := 6) (j := j5) (ax_dd KX0_add 27 rfl) (hs 31 _ rfl) b6 ?_
  refine ax_aload_n (pc := 42) (i := 0) (q := 1) (ax_dd KX0_add 28 rfl) rfl rfl ?_
  refine ax_iload_n (pc := 43) (i := 3) (q := 0) (ax_dd KX0_add 29 rfl) rfl rfl ?_
  refine ax_iload_n (pc := 44) (i := 2) (q := 3) (ax_dd KX0_add 30 rfl) rfl rfl ?_
  refine ax_bipush (pc := 45) (v := 100) (ax_dd KX0_add 31 rfl) (by decide) ?_
  refine ax_idiv (pc := 47) (ax_dd KX0_add 32 rfl) (by decide) ?_
  refine ax_iload_n (pc := 48) (i := 2) (q := 3) (ax_dd KX0_add 33 rfl) rfl rfl ?_
  refine ax_bipush (pc := 49) (v := 100) (ax_dd KX0_add 34 rfl) (by decide) ?_
  refine ax_irem (pc := 51) (ax_dd KX0_add 35 rfl) (by decide) ?_
  obtain ⟨μ9, b8, h⟩ := ob_bind h
  refine ax_kV (pc := 52) (ci := 0) (k := 25) (As := [.int (μ 25 1), .int (x2 / 100), .int (rmI x2 100)]) (rest := []) (st1 := []) (μ1 := μ9) (ax_dd KX0_add 36 rfl) (c_X0_lay hs b8) kV_X0_47 e_X0_lay (hs 25 _ rfl) cl_X0 (by decide) rfl rfl (by decide) (by decide) (Nat.le_of_ble_eq_true rfl) rfl ?_
  refine ax_iload_n (pc := 55) (i := 3) (q := 0) (ax_dd KX0_add 37 rfl) rfl rfl ?_
  obtain rfl := Option.some.inj h
  exact ax_ireti (pc := 56) (ax_dd KX0_add 38 rfl) ⟨_, rfl, rfl⟩ rfl
def m_X0_corners (x1 : Int32) (μ : ax_M) : Option (Int32) :=
  (ix 6 x1).bind fun j1 =>
  (ix 6 x1).bind fun j3 =>
  some (((100 : Int32) * (μ 28 j1)) + (μ 29 j3))
set_option maxRecDepth 100000 in
set_option maxHeartbeats 8000000 in
theorem c_X0_corners {G : ax_G} {l : Launch} {sh : List ax_E} {x1 : Int32} {μ : ax_M} (hs : ∀ (k : Nat) (e : ax_E), SHc[k]? = some e → sh[k]? = some e) {v : Int32} (h : m_X0_corners x1 μ = some v) : ax_A G l yX0_corners cX0_corners 2 (some .int) 2 [.ref (G.1 + 25), .int x1] sh μ (some (.int v), sh, μ) := by
  refine ax_A.of false (by decide +kernel) (fun h9 => by cases h9) (Nat.le_of_ble_eq_true rfl) (?_ : ax_X G l RX0 cX0_corners 2 (some .int) false 2 (some (.int v), sh, μ) 0 [(0, .ref (G.1 + 25)), (1, .int x1)] [] sh μ)
  unfold m_X0_corners at h
  refine ax_bipush (pc := 0) (v := 100) (ax_dd KX0_corners 0 rfl) (by decide) ?_
  refine ax_aload_n (pc := 2) (i := 0) (q := 0) (ax_dd KX0_corners 1 rfl) rfl rfl ?_
  refine ax_getR (pc := 3) (k := 25) (q := 28) (ax_dd KX0_corners 2 rfl) f_X0_22 (hs 25 _ rfl) rfl ?_
  refine ax_iload_n (pc := 6) (i := 1) (q := 1) (ax_dd KX0_corners 3 rfl) rfl rfl ?_
  obtain ⟨j1, b2, h⟩ := ob_bind h
  refine ax_ild (pc := 7) (k := 28) (N := 6) (j := j1) (ax_dd KX0_corners 4 rfl) (hs 28 _ rfl) b2 ?_
  refine ax_imul (pc := 8) (ax_dd KX0_corners 5 rfl) ?_
  refine ax_aload_n (pc := 9) (i := 0) (q := 0) (ax_dd KX0_corners 6 rfl) rfl rfl ?_
  refine ax_getR (pc := 10) (k := 25) (q := 29) (ax_dd KX0_corners 7 rfl) f_X0_25 (hs 25 _ rfl) rfl ?_
  refine ax_iload_n (pc := 13) (i := 1) (q := 1) (ax_dd KX0_corners 8 rfl) rfl rfl ?_
  obtain ⟨j3, b4, h⟩ := ob_bind h
  refine ax_ild (pc := 14) (k := 29) (N := 6) (j := j3) (ax_dd KX0_corners 9 rfl) (hs 29 _ rfl) b4 ?_
  refine ax_iadd (pc := 15) (ax_dd KX0_corners 10 rfl) ?_
  obtain rfl := Option.some.inj h
  exact ax_ireti (pc := 16) (ax_dd KX0_corners 11 rfl) ⟨_, rfl, rfl⟩ rfl
def m_X0_liesOn (x1 : Int32) (x2 : Int32) (μ : ax_M) : Option (Int32) :=
  (m_X9_columnOf x2 μ).bind fun v1 =>
  (ix 6 x1).bind fun j3 =>
  (m_X9_columnOf (μ 28 j3) μ).bind fun v5 =>
  if v1 < v5 then
    some 0
  else
    (m_X9_columnOf x2 μ).bind fun v8 =>
    (ix 6 x1).bind fun j10 =>
    (m_X9_columnOf (μ 29 j10) μ).bind fun v12 =>
    if v12 < v8 then
      some 0
    else
      (m_X9_rowOf x2 μ).bind fun v15 =>
      (ix 6 x1).bind fun j17 =>
      (m_X9_rowOf (μ 28 j17) μ).bind fun v19 =>
      if v15 < v19 then
        some 0
      else
        (m_X9_rowOf x2 μ).bind fun v22 =>
        (ix 6 x1).bind fun j24 =>
        (m_X9_rowOf (μ 29 j24) μ).bind fun v26 =>
        if v26 < v22 then
          some 0
        else
          some 1
set_option maxRecDepth 100000 in
set_option maxHeartbeats 8000000 in
theorem c_X0_liesOn {G : ax_G} {l : Launch} {sh : List ax_E} {x1 : Int32} {x2 : Int32} {μ : ax_M} (hs : ∀ (k : Nat) (e : ax_E), SHc[k]? = some e → sh[k]? = some e) {v : Int32} (h : m_X0_liesOn x1 x2 μ = some v) : ax_A G l yX0_liesOn cX0_liesOn 3 (some .boolean) 3 [.ref (G.1 + 25), .int x1, .int x2] sh μ (some (.int v), sh, μ) := by
  refine ax_A.of false (by decide +kernel) (fun h9 => by cases h9) (Nat.le_of_ble_eq_true rfl) (?_ : ax_X G l RX0 cX0_liesOn 3 (some .boolean) false 3 (some (.int v), sh, μ) 0 [(0, .ref (G.1 + 25)), (1, .int x1), (2, .int x2)] [] sh μ)
  unfold m_X0_liesOn at h
  refine ax_iload_n (pc := 0) (i := 2) (q := 2) (ax_dd KX0_liesOn 0 rfl) rfl rfl ?_
  obtain ⟨v1, b2, h⟩ := ob_bind h
  refine ax_kSN (pc := 1) (i := 3) (As := [.int x2]) (rest := []) (st1 := [.int v1]) (μ1 := μ) (ax_dd KX0_liesOn 1 rfl) (c_X9_columnOf hs b2) kN_X0_51 rfl e_X9_columnOf rfl rfl (by decide) (by decide) (Nat.le_of_ble_eq_true rfl) rfl ?_
  refine ax_aload_n (pc := 4) (i := 0) (q := 0) (ax_dd KX0_liesOn 2 rfl) rfl rfl ?_
  refine ax_getR (pc := 5) (k := 25) (q := 28) (ax_dd KX0_liesOn 3 rfl) f_X0_22 (hs 25 _ rfl) rfl ?_
  refine ax_iload_n (pc := 8) (i := 1) (q := 1) (ax_dd KX0_liesOn 4 rfl) rfl rfl ?_
  obtain ⟨j3, b4, h⟩ := ob_bind h
  refine ax_ild (pc := 9) (k := 28) (N := 6) (j := j3) (ax_dd KX0_liesOn 5 rfl) (hs 28 _ rfl) b4 ?_
  obtain ⟨v5, b6, h⟩ := ob_bind h
  refine ax_kSN (pc := 10) (i := 3) (As := [.int (μ 28 j3)]) (rest := [.int v1]) (st1 := [.int v5, .int v1]) (μ1 := μ) (ax_dd KX0_liesOn 6 rfl) (c_X9_columnOf hs b6) kN_X0_51 rfl e_X9_columnOf rfl rfl (by decide) (by decide) (Nat.le_of_ble_eq_true rfl) rfl ?_
  by_cases c7 : v1 < v5
  · rw [if_pos c7] at h
    refine ax_icmp_lt_t (pc := 13) (tgt := 68) (ax_dd KX0_liesOn 7 rfl) (by decide) c7 ?_
    refine ax_iconst (pc := 68) (v := 0) (ax_dd KX0_liesOn 34 rfl) (by decide) ?_
    obtain rfl := Option.some.inj h
    exact ax_ireti (pc := 69) (ax_dd KX0_liesOn 35 rfl) ⟨_, rfl, rfl⟩ rfl
  · rw [if_neg c7] at h
    refine ax_icmp_lt_f (pc := 13) (tgt := 68) (ax_dd KX0_liesOn 7 rfl) (by decide) c7 ?_
    refine ax_iload_n (pc := 16) (i := 2) (q := 2) (ax_dd KX0_liesOn 8 rfl) rfl rfl ?_
    obtain ⟨v8, b9, h⟩ := ob_bind h
    refine ax_kSN (pc := 17) (i := 3) (As := [.int x2]) (rest := []) (st1 := [.int v8]) (μ1 := μ) (ax_dd KX0_liesOn 9 rfl) (c_X9_columnOf hs b9) kN_X0_51 rfl e_X9_columnOf rfl rfl (by decide) (by decide) (Nat.le_of_ble_eq_true rfl) rfl ?_
    refine ax_aload_n (pc := 20) (i := 0) (q := 0) (ax_dd KX0_liesOn 10 rfl) rfl rfl ?_
    refine ax_getR (pc := 21) (k := 25) (q := 29) (ax_dd KX0_liesOn 11 rfl) f_X0_25 (hs 25 _ rfl) rfl ?_
    refine ax_iload_n (pc := 24) (i := 1) (q := 1) (ax_dd KX0_liesOn 12 rfl) rfl rfl ?_
    obtain ⟨j10, b11, h⟩ := ob_bind h
    refine ax_ild (pc := 25) (k := 29) (N := 6) (j := j10) (ax_dd KX0_liesOn 13 rfl) (hs 29 _ rfl) b11 ?_
    obtain ⟨v12, b13, h⟩ := ob_bind h
    refine ax_kSN (pc := 26) (i := 3) (As := [.int (μ 29 j10)]) (rest := [.int v8]) (st1 := [.int v12, .int v8]) (μ1 := μ) (ax_dd KX0_liesOn 14 rfl) (c_X9_columnOf hs b13) kN_X0_51 rfl e_X9_columnOf rfl rfl (by decide) (by decide) (Nat.le_of_ble_eq_true rfl) rfl ?_
    by_cases c14 : v12 < v8
    · rw [if_pos c14] at h
      refine ax_icmp_gt_t (pc := 29) (tgt := 68) (ax_dd KX0_liesOn 15 rfl) (by decide) c14 ?_
      refine ax_iconst (pc := 68) (v := 0) (ax_dd KX0_liesOn 34 rfl) (by decide) ?_
      obtain rfl := Option.some.inj h
      exact ax_ireti (pc := 69) (ax_dd KX0_liesOn 35 rfl) ⟨_, rfl, rfl⟩ rfl
    · rw [if_neg c14] at h
      refine ax_icmp_gt_f (pc := 29) (tgt := 68) (ax_dd KX0_liesOn 15 rfl) (by decide) c14 ?_
      refine ax_iload_n (pc := 32) (i := 2) (q := 2) (ax_dd KX0_liesOn 16 rfl) rfl rfl ?_
      obtain ⟨v15, b16, h⟩ := ob_bind h
      refine ax_kSN (pc := 33) (i := 4) (As := [.int x2]) (rest := []) (st1 := [.int v15]) (μ1 := μ) (ax_dd KX0_liesOn 17 rfl) (c_X9_rowOf hs b16) kN_X0_55 rfl e_X9_rowOf rfl rfl (by decide) (by decide) (Nat.le_of_ble_eq_true rfl) rfl ?_
      refine ax_aload_n (pc := 36) (i := 0) (q := 0) (ax_dd KX0_liesOn 18 rfl) rfl rfl ?_
      refine ax_getR (pc := 37) (k := 25) (q := 28) (ax_dd KX0_liesOn 19 rfl) f_X0_22 (hs 25 _ rfl) rfl ?_
      refine ax_iload_n (pc := 40) (i := 1) (q := 1) (ax_dd KX0_liesOn 20 rfl) rfl rfl ?_
      obtain ⟨j17, b18, h⟩ := ob_bind h
      refine ax_ild (pc := 41) (k := 28) (N := 6) (j := j17) (ax_dd KX0_liesOn 21 rfl) (hs 28 _ rfl) b18 ?_
      obtain ⟨v19, b20, h⟩ := ob_bind h
      refine ax_kSN (pc := 42) (i := 4) (As := [.int (μ 28 j17)]) (rest := [.int v15]) (st1 := [.int v19, .int v15]) (μ1 := μ) (ax_dd KX0_liesOn 22 rfl) (c_X9_rowOf hs b20) kN_X0_55 rfl e_X9_rowOf rfl rfl (by decide) (by decide) (Nat.le_of_ble_eq_true rfl) rfl ?_
      by_cases c21 : v15 < v19
      · rw [if_pos c21] at h
        refine ax_icmp_lt_t (pc := 45) (tgt := 68) (ax_dd KX0_liesOn 23 rfl) (by decide) c21 ?_
        refine ax_iconst (pc := 68) (v := 0) (ax_dd KX0_liesOn 34 rfl) (by decide) ?_
        obtain rfl := Option.some.inj h
        exact ax_ireti (pc := 69) (ax_dd KX0_liesOn 35 rfl) ⟨_, rfl, rfl⟩ rfl
      · rw [if_neg c21] at h
        refine ax_icmp_lt_f (pc := 45) (tgt := 68) (ax_dd KX0_liesOn 23 rfl) (by decide) c21 ?_
        refine ax_iload_n (pc := 48) (i := 2) (q := 2) (ax_dd KX0_liesOn 24 rfl) rfl rfl ?_
        obtain ⟨v22, b23, h⟩ := ob_bind h
        refine ax_kSN (pc := 49) (i := 4) (As := [.int x2]) (rest := []) (st1 := [.int v22]) (μ1 := μ) (ax_dd KX0_liesOn 25 rfl) (c_X9_rowOf hs b23) kN_X0_55 rfl e_X9_rowOf rfl rfl (by decide) (by decide) (Nat.le_of_ble_eq_true rfl) rfl ?_
        refine ax_aload_n (pc := 52) (i := 0) (q := 0) (ax_dd KX0_liesOn 26 rfl) rfl rfl ?_
        refine ax_getR (pc := 53) (k := 25) (q := 29) (ax_dd KX0_liesOn 27 rfl) f_X0_25 (hs 25 _ rfl) rfl ?_
        refine ax_iload_n (pc := 56) (i := 1) (q := 1) (ax_dd KX0_liesOn 28 rfl) rfl rfl ?_
        obtain ⟨j24, b25, h⟩ := ob_bind h
        refine ax_ild (pc := 57) (k := 29) (N := 6) (j := j24) (ax_dd KX0_liesOn 29 rfl) (hs 29 _ rfl) b25 ?_
        obtain ⟨v26, b27, h⟩ := ob_bind h
        refine ax_kSN (pc := 58) (i := 4) (As := [.int (μ 29 j24)]) (rest := [.int v22]) (st1 := [.int v26, .int v22]) (μ1 := μ) (ax_dd KX0_liesOn 30 rfl) (c_X9_rowOf hs b27) kN_X0_55 rfl e_X9_rowOf rfl rfl (by decide) (by decide) (Nat.le_of_ble_eq_true rfl) rfl ?_
        by_cases c28 : v26 < v22
        · rw [if_pos c28] at h
          refine ax_icmp_gt_t (pc := 61) (tgt := 68) (ax_dd KX0_liesOn 31 rfl) (by decide) c28 ?_
          refine ax_iconst (pc := 68) (v := 0) (ax_dd KX0_liesOn 34 rfl) (by decide) ?_
          obtain rfl := Option.some.inj h
          exact ax_ireti (pc := 69) (ax_dd KX0_liesOn 35 rfl) ⟨_, rfl, rfl⟩ rfl
        · rw [if_neg c28] at h
          refine ax_icmp_gt_f (pc := 61) (tgt := 68) (ax_dd KX0_liesOn 31 rfl) (by decide) c28 ?_
          refine ax_iconst (pc := 64) (v := 1) (ax_dd KX0_liesOn 32 rfl) (by decide) ?_
          refine ax_goto (pc := 65) (tgt := 69) (ax_dd KX0_liesOn 33 rfl) (by decide) ?_
          obtain rfl := Option.some.inj h
          exact ax_ireti (pc := 69) (ax_dd KX0_liesOn 35 rfl) ⟨_, rfl, rfl⟩ rfl
def m_X0_hasFringeOn (x1 : Int32) (x2 : Int32) (μ : ax_M) : Option (Int32) :=
  (m_X9_columnOf x2 μ).bind fun v1 =>
  (ix 6 x1).bind fun j3 =>
  (m_X9_columnOf (μ 28 j3) μ).bind fun v5 =>
  if v1 = v5 then
    some 1
  else
    (m_X9_columnOf x2 μ).bind fun v8 =>
    (ix 6 x1).bind fun j10 =>
    (m_X9_columnOf (μ 29 j10) μ).bind fun v12 =>
    if v8 = v12 then
      some 1
    else
      (m_X9_rowOf x2 μ).bind fun v15 =>
      (ix 6 x1).bind fun j17 =>
      (m_X9_rowOf (μ 28 j17) μ).bind fun v19 =>
      if v15 = v19 then
        some 1
      else
        (m_X9_rowOf x2 μ).bind fun v22 =>
        (ix 6 x1).bind fun j24 =>
        (m_X9_rowOf (μ 29 j24) μ).bind fun v26 =>
        if v22 = v26 then
          some 1
        else
          some 0
set_option maxRecDepth 100000 in
set_option maxHeartbeats 8000000 in
theorem c_X0_hasFringeOn {G : ax_G} {l : Launch} {sh : List ax_E} {x1 : Int32} {x2 : Int32} {μ : ax_M} (hs : ∀ (k : Nat) (e : ax_E), SHc[k]? = some e → sh[k]? = some e) {v : Int32} (h : m_X0_hasFringeOn x1 x2 μ = some v) : ax_A G l yX0_hasFringeOn cX0_hasFringeOn 3 (some .boolean) 3 [.ref (G.1 + 25), .int x1, .int x2] sh μ (some (.int v), sh, μ) := by
  refine ax_A.of false (by decide +kernel) (fun h9 => by cases h9) (Nat.le_of_ble_eq_true rfl) (?_ : ax_X G l RX0 cX0_hasFringeOn 3 (some .boolean) false 3 (some (.int v), sh, μ) 0 [(0, .ref (G.1 + 25)), (1, .int x1), (2, .int x2)] [] sh μ)
  unfold m_X0_hasFringeOn at h
  refine ax_iload_n (pc := 0) (i := 2) (q := 2) (ax_dd KX0_hasFringeOn 0 rfl) rfl rfl ?_
  obtain ⟨v1, b2, h⟩ := ob_bind h
  refine ax_kSN (pc := 1) (i := 3) (As := [.int x2]) (rest := []) (st1 := [.int v1]) (μ1 := μ) (ax_dd KX0_hasFringeOn 1 rfl) (c_X9_columnOf hs b2) kN_X0_51 rfl e_X9_columnOf rfl rfl (by decide) (by decide) (Nat.le_of_ble_eq_true rfl) rfl ?_
  refine ax_aload_n (pc := 4) (i := 0) (q := 0) (ax_dd KX0_hasFringeOn 2 rfl) rfl rfl ?_
  refine ax_getR (pc := 5) (k := 25) (q := 28) (ax_dd KX0_hasFringeOn 3 rfl) f_X0_22 (hs 25 _ rfl) rfl ?_
  refine ax_iload_n (pc := 8) (i := 1) (q := 1) (ax_dd KX0_hasFringeOn 4 rfl) rfl rfl ?_
  obtain ⟨j3, b4, h⟩ := ob_bind h
  refine ax_ild (pc := 9) (k := 28) (N := 6) (j := j3) (ax_dd KX0_hasFringeOn 5 rfl) (hs 28 _ rfl) b4 ?_
  obtain ⟨v5, b6, h⟩ := ob_bind h
  refine ax_kSN (pc := 10) (i := 3) (As := [.int (μ 28 j3)]) (rest := [.int v1]) (st1 := [.int v5, .int v1]) (μ1 := μ) (ax_dd KX0_hasFringeOn 6 rfl) (c_X9_columnOf hs b6) kN_X0_51 rfl e_X9_columnOf rfl rfl (by decide) (by decide) (Nat.le_of_ble_eq_true rfl) rfl ?_
  by_cases c7 : v1 = v5
  · rw [if_pos c7] at h
    refine ax_icmp_eq_t (pc := 13) (tgt := 64) (ax_dd KX0_hasFringeOn 7 rfl) (by decide) c7 ?_
    refine ax_iconst (pc := 64) (v := 1) (ax_dd KX0_hasFringeOn 32 rfl) (by decide) ?_
    refine ax_goto (pc := 65) (tgt := 69) (ax_dd KX0_hasFringeOn 33 rfl) (by decide) ?_
    obtain rfl := Option.some.inj h
    exact ax_ireti (pc := 69) (ax_dd KX0_hasFringeOn 35 rfl) ⟨_, rfl, rfl⟩ rfl
  · rw [if_neg c7] at h
    refine ax_icmp_eq_f (pc := 13) (tgt := 64) (ax_dd KX0_hasFringeOn 7 rfl) (by decide) c7 ?_
    refine ax_iload_n (pc := 16) (i := 2) (q := 2) (ax_dd KX0_hasFringeOn 8 rfl) rfl rfl ?_
    obtain ⟨v8, b9, h⟩ := ob_bind h
    refine ax_kSN (pc := 17) (i := 3) (As := [.int x2]) (rest := []) (st1 := [.int v8]) (μ1 := μ) (ax_dd KX0_hasFringeOn 9 rfl) (c_X9_columnOf hs b9) kN_X0_51 rfl e_X9_columnOf rfl rfl (by decide) (by decide) (Nat.le_of_ble_eq_true rfl) rfl ?_
    refine ax_aload_n (pc := 20) (i := 0) (q := 0) (ax_dd KX0_hasFringeOn 10 rfl) rfl rfl ?_
    refine ax_getR (pc := 21) (k := 25) (q := 29) (ax_dd KX0_hasFringeOn 11 rfl) f_X0_25 (hs 25 _ rfl) rfl ?_
    refine ax_iload_n (pc := 24) (i := 1) (q := 1) (ax_dd KX0_hasFringeOn 12 rfl) rfl rfl ?_
    obtain ⟨j10, b11, h⟩ := ob_bind h
    refine ax_ild (pc := 25) (k := 29) (N := 6) (j := j10) (ax_dd KX0_hasFringeOn 13 rfl) (hs 29 _ rfl) b11 ?_
    obtain ⟨v12, b13, h⟩ := ob_bind h
    refine ax_kSN (pc := 26) (i := 3) (As := [.int (μ 29 j10)]) (rest := [.int v8]) (st1 := [.int v12, .int v8]) (μ1 := μ) (ax_dd KX0_hasFringeOn 14 rfl) (c_X9_columnOf hs b13) kN_X0_51 rfl e_X9_columnOf rfl rfl (by decide) (by decide) (Nat.le_of_ble_eq_true rfl) rfl ?_
    by_cases c14 : v8 = v12
    · rw [if_pos c14] at h
      refine ax_icmp_eq_t (pc := 29) (tgt := 64) (ax_dd KX0_hasFringeOn 15 rfl) (by decide) c14 ?_
      refine ax_iconst (pc := 64) (v := 1) (ax_dd KX0_hasFringeOn 32 rfl) (by decide) ?_
      refine ax_goto (pc := 65) (tgt := 69) (ax_dd KX0_hasFringeOn 33 rfl) (by decide) ?_
      obtain rfl := Option.some.inj h
      exact ax_ireti (pc := 69) (ax_dd KX0_hasFringeOn 35 rfl) ⟨_, rfl, rfl⟩ rfl
    · rw [if_neg c14] at h
      refine ax_icmp_eq_f (pc := 29) (tgt := 64) (ax_dd KX0_hasFringeOn 15 rfl) (by decide) c14 ?_
      refine ax_iload_n (pc := 32) (i := 2) (q := 2) (ax_dd KX0_hasFringeOn 16 rfl) rfl rfl ?_
      obtain ⟨v15, b16, h⟩ := ob_bind h
      refine ax_kSN (pc := 33) (i := 4) (As := [.int x2]) (rest := []) (st1 := [.int v15]) (μ1 := μ) (ax_dd KX0_hasFringeOn 17 rfl) (c_X9_rowOf hs b16) kN_X0_55 rfl e_X9_rowOf rfl rfl (by decide) (by decide) (Nat.le_of_ble_eq_true rfl) rfl ?_
      refine ax_aload_n (pc := 36) (i := 0) (q := 0) (ax_dd KX0_hasFringeOn 18 rfl) rfl rfl ?_
      refine ax_getR (pc := 37) (k := 25) (q := 28) (ax_dd KX0_hasFringeOn 19 rfl) f_X0_22 (hs 25 _ rfl) rfl ?_
      refine ax_iload_n (pc := 40) (i := 1) (q := 1) (ax_dd KX0_hasFringeOn 20 rfl) rfl rfl ?_
      obtain ⟨j17, b18, h⟩ := ob_bind h
      refine ax_ild (pc := 41) (k := 28) (N := 6) (j := j17) (ax_dd KX0_hasFringeOn 21 rfl) (hs 28 _ rfl) b18 ?_
      obtain ⟨v19, b20, h⟩ := ob_bind h
      refine ax_kSN (pc := 42) (i := 4) (As := [.int (μ 28 j17)]) (rest := [.int v15]) (st1 := [.int v19, .int v15]) (μ1 := μ) (ax_dd KX0_hasFringeOn 22 rfl) (c_X9_rowOf hs b20) kN_X0_55 rfl e_X9_rowOf rfl rfl (by decide) (by decide) (Nat.le_of_ble_eq_true rfl) rfl ?_
      by_cases c21 : v15 = v19
      · rw [if_pos c21] at h
        refine ax_icmp_eq_t (pc := 45) (tgt := 64) (ax_dd KX0_hasFringeOn 23 rfl) (by decide) c21 ?_
        refine ax_iconst (pc := 64) (v := 1) (ax_dd KX0_hasFringeOn 32 rfl) (by decide) ?_
        refine ax_goto (pc := 65) (tgt := 69) (ax_dd KX0_hasFringeOn 33 rfl) (by decide) ?_
        obtain rfl := Option.some.inj h
        exact ax_ireti (pc := 69) (ax_dd KX0_hasFringeOn 35 rfl) ⟨_, rfl, rfl⟩ rfl
      · rw [if_neg c21] at h
        refine ax_icmp_eq_f (pc := 45) (tgt := 64) (ax_dd KX0_hasFringeOn 23 rfl) (by decide) c21 ?_
        refine ax_iload_n (pc := 48) (i := 2) (q := 2) (ax_dd KX0_hasFringeOn 24 rfl) rfl rfl ?_
        obtain ⟨v22, b23, h⟩ := ob_bind h
        refine ax_kSN (pc := 49) (i := 4) (As := [.int x2]) (rest := []) (st1 := [.int v22]) (μ1 := μ) (ax_dd KX0_hasFringeOn 25 rfl) (c_X9_rowOf hs b23) kN_X0_55 rfl e_X9_rowOf rfl rfl (by decide) (by decide) (Nat.le_of_ble_eq_true rfl) rfl ?_
        refine ax_aload_n (pc := 52) (i := 0) (q := 0) (ax_dd KX0_hasFringeOn 26 rfl) rfl rfl ?_
        refine ax_getR (pc := 53) (k := 25) (q := 29) (ax_dd KX0_hasFringeOn 27 rfl) f_X0_25 (hs 25 _ rfl) rfl ?_
        refine ax_iload_n (pc := 56) (i := 1) (q := 1) (ax_dd KX0_hasFringeOn 28 rfl) rfl rfl ?_
        obtain ⟨j24, b25, h⟩ := ob_bind h
        refine ax_ild (pc := 57) (k := 29) (N := 6) (j := j24) (ax_dd KX0_hasFringeOn 29 rfl) (hs 29 _ rfl) b25 ?_
        obtain ⟨v26, b27, h⟩ := ob_bind h
        refine ax_kSN (pc := 58) (i := 4) (As := [.int (μ 29 j24)]) (rest := [.int v22]) (st1 := [.int v26, .int v22]) (μ1 := μ) (ax_dd KX0_hasFringeOn 30 rfl) (c_X9_rowOf hs b27) kN_X0_55 rfl e_X9_rowOf rfl rfl (by decide) (by decide) (Nat.le_of_ble_eq_true rfl) rfl ?_
        by_cases c28 : v22 = v26
        · rw [if_pos c28] at h
          refine ax_icmp_ne_f (pc := 61) (tgt := 68) (ax_dd KX0_hasFringeOn 31 rfl) (by decide) (fun z => z c28) ?_
          refine ax_iconst (pc := 64) (v := 1) (ax_dd KX0_hasFringeOn 32 rfl) (by decide) ?_
          refine ax_goto (pc := 65) (tgt := 69) (ax_dd KX0_hasFringeOn 33 rfl) (by decide) ?_
          obtain rfl := Option.some.inj h
          exact ax_ireti (pc := 69) (ax_dd KX0_hasFringeOn 35 rfl) ⟨_, rfl, rfl⟩ rfl
        · rw [if_neg c28] at h
          refine ax_icmp_ne_t (pc := 61) (tgt := 68) (ax_dd KX0_hasFringeOn 31 rfl) (by decide) c28 ?_
          refine ax_iconst (pc := 68) (v := 0) (ax_dd KX0_hasFringeOn 34 rfl) (by decide) ?_
          obtain rfl := Option.some.inj h
          exact ax_ireti (pc := 69) (ax_dd KX0_hasFringeOn 35 rfl) ⟨_, rfl, rfl⟩ rfl
def m_X0_layers_4 (x1 : Int32) (μ : ax_M) : Nat → Int32 → Int32 → Option (Int32)
  | 0, _, _ => none
  | n + 1, x2, x3 =>
    if (μ 25 1) ≤ x3 then
      some x2
    else
      (m_X0_liesOn x3 x1 μ).bind fun v2 =>
      if v2 = 0 then
        m_X0_layers_4 x1 μ n x2 (x3 + 1)
      else
        m_X0_layers_4 x1 μ n (x2 + 1) (x3 + 1)
set_option maxRecDepth 100000 in
set_option maxHeartbeats 8000000 in
theorem a_X0_layers_4 {G : ax_G} {l : Launch} {sh : List ax_E} {x1 : Int32} {μ : ax_M} (hs : ∀ (k : Nat) (e : ax_E), SHc[k]? = some e → sh[k]? = some e) : ∀ (n : Nat) (x2 : Int32) (x3 : Int32) (v : Int32), m_X0_layers_4 x1 μ n x2 x3 = some v → ax_X G l RX0 cX0_layers 4 (some .int) false 4 (some (.int v), sh, μ) 4 [(0, .ref (G.1 + 25)), (1, .int x1), (2, .int x2), (3, .int x3)] [] sh μ := by
  intro n
  induction n with
  | zero =>
    intro x2 x3 v h
    rw [m_X0_layers_4] at h
    cases h
  | succ n ih =>
    intro x2 x3 v h
    rw [m_X0_layers_4] at h
    refine ax_iload_n (pc := 4) (i := 3) (q := 3) (ax_dd KX0_layers 4 rfl) rfl rfl ?_
    refine ax_aload_n (pc := 5) (i := 0) (q := 0) (ax_dd KX0_layers 5 rfl) rfl rfl ?_
    refine ax_getI (pc := 6) (k := 25) (ax_dd KX0_layers 6 rfl) f_X0_44 (hs 25 _ rfl) rfl ?_
    by_cases c1 : (μ 25 1) ≤ x3
    · rw [if_pos c1] at h
      refine ax_icmp_ge_t (pc := 9) (tgt := 30) (ax_dd KX0_layers 7 rfl) (by decide) c1 ?_
      refine ax_iload_n (pc := 30) (i := 2) (q := 2) (ax_dd KX0_layers 16 rfl) rfl rfl ?_
      obtain rfl := Option.some.inj h
      exact ax_ireti (pc := 31) (ax_dd KX0_layers 17 rfl) ⟨_, rfl, rfl⟩ rfl
    · rw [if_neg c1] at h
      refine ax_icmp_ge_f (pc := 9) (tgt := 30) (ax_dd KX0_layers 7 rfl) (by decide) c1 ?_
      refine ax_aload_n (pc := 12) (i := 0) (q := 0) (ax_dd KX0_layers 8 rfl) rfl rfl ?_
      refine ax_iload_n (pc := 13) (i := 3) (q := 3) (ax_dd KX0_layers 9 rfl) rfl rfl ?_
      refine ax_iload_n (pc := 14) (i := 1) (q := 1) (ax_dd KX0_layers 10 rfl) rfl rfl ?_
      obtain ⟨v2, b3, h⟩ := ob_bind h
      refine ax_kV (pc := 15) (ci := 0) (k := 25) (As := [.int x3, .int x1]) (rest := []) (st1 := [.int v2]) (μ1 := μ) (ax_dd KX0_layers 11 rfl) (c_X0_liesOn hs b3) kV_X0_58 e_X0_liesOn (hs 25 _ rfl) cl_X0 (by decide) rfl rfl (by decide) (by decide) (Nat.le_of_ble_eq_true rfl) rfl ?_
      by_cases c4 : v2 = 0
      · rw [if_pos c4] at h
        refine ax_if_eq_t (pc := 18) (tgt := 24) (ax_dd KX0_layers 12 rfl) (by decide) c4 ?_
        refine ax_iinc (pc := 24) (q := 3) (v := (x3 + 1)) (lv' := [(3, .int (x3 + 1)), (0, .ref (G.1 + 25)), (1, .int x1), (2, .int x2)]) (ax_dd KX0_layers 14 rfl) rfl rfl (by decide) rfl ?_
        refine ax_goto (pc := 27) (tgt := 4) (ax_dd KX0_layers 15 rfl) (by decide) ?_
        refine ax_sub (lv' := [(0, .ref (G.1 + 25)), (1, .int x1), (2, .int x2), (3, .int (x3 + 1))]) [1, 2, 3, 0] rfl ?_
        exact ih _ _ _ h
      · rw [if_neg c4] at h
        refine ax_if_eq_f (pc := 18) (tgt := 24) (ax_dd KX0_layers 12 rfl) (by decide) c4 ?_
        refine ax_iinc (pc := 21) (q := 2) (v := (x2 + 1)) (lv' := [(2, .int (x2 + 1)), (0, .ref (G.1 + 25)), (1, .int x1), (3, .int x3)]) (ax_dd KX0_layers 13 rfl) rfl rfl (by decide) rfl ?_
        refine ax_iinc (pc := 24) (q := 3) (v := (x3 + 1)) (lv' := [(3, .int (x3 + 1)), (2, .int (x2 + 1)), (0, .ref (G.1 + 25)), (1, .int x1)]) (ax_dd KX0_layers 14 rfl) rfl rfl (by decide) rfl ?_
        refine ax_goto (pc := 27) (tgt := 4) (ax_dd KX0_layers 15 rfl) (by decide) ?_
        refine ax_sub (lv' := [(0, .ref (G.1 + 25)), (1, .int x1), (2, .int (x2 + 1)), (3, .int (x3 + 1))]) [2, 3, 1, 0] rfl ?_
        exact ih _ _ _ h
def m_X0_layers (x1 : Int32) (μ : ax_M) : Option (Int32) :=
  m_X0_layers_4 x1 μ fu 0 0
set_option maxRecDepth 100000 in
set_option maxHeartbeats 8000000 in
theorem c_X0_layers {G : ax_G} {l : Launch} {sh : List ax_E} {x1 : Int32} {μ : ax_M} (hs : ∀ (k : Nat) (e : ax_E), SHc[k]? = some e → sh[k]? = some e) {v : Int32} (h : m_X0_layers x1 μ = some v) : ax_A G l yX0_layers cX0_layers 4 (some .int) 4 [.ref (G.1 + 25), .int x1] sh μ (some (.int v), sh, μ) := by
  refine ax_A.of false (by decide +kernel) (fun h9 => by cases h9) (Nat.le_of_ble_eq_true rfl) (?_ : ax_X G l RX0 cX0_layers 4 (some .int) false 4 (some (.int v), sh, μ) 0 [(0, .ref (G.1 + 25)), (1, .int x1)] [] sh μ)
  unfold m_X0_layers at h
  refine ax_iconst (pc := 0) (v := 0) (ax_dd KX0_layers 0 rfl) (by decide) ?_
  refine ax_istore_n (pc := 1) (i := 2) (lv' := [(2, .int 0), (0, .ref (G.1 + 25)), (1, .int x1)]) (ax_dd KX0_layers 1 rfl) rfl (by decide) rfl ?_
  refine ax_iconst (pc := 2) (v := 0) (ax_dd KX0_layers 2 rfl) (by decide) ?_
  refine ax_istore_n (pc := 3) (i := 3) (lv' := [(3, .int 0), (2, .int 0), (0, .ref (G.1 + 25)), (1, .int x1)]) (ax_dd KX0_layers 3 rfl) rfl (by decide) rfl ?_
  refine ax_sub (lv' := [(0, .ref (G.1 + 25)), (1, .int x1), (2, .int 0), (3, .int 0)]) [2, 3, 1, 0] rfl ?_
  exact a_X0_layers_4 hs fu _ _ _ h
def m_X7_value_365 (x1 : Int32) (x2 : Int32) (x3 : Int32) (x5 : Int32) (x7 : Int32) (k26 : Int32 → Int32 → ax_M → Option (Int32 × ax_M)) (μ : ax_M) : Option (Int32 × ax_M) :=
  (ix 160 (x3 - 1)).bind fun j1 =>
  k26 x3 (x5 + 1) (ax_w μ 17 j1 x7)
set_option maxRecDepth 100000 in
set_option maxHeartbeats 8000000 in
theorem a_X7_value_365 {G : ax_G} {l : Launch} {sh : List ax_E} {x1 : Int32} {x2 : Int32} {x3 : Int32} {x5 : Int32} {x7 : Int32} {k26 : Int32 → Int32 → ax_M → Option (Int32 × ax_M)} {μ : ax_M} (hs : ∀ (k : Nat) (e : ax_E), SHc[k]? = some e → sh[k]? = some e) (hk26 : ∀ (x3 : Int32) (x5 : Int32) (μ : ax_M) (v : Int32 × ax_M), k26 x3 x5 μ = some v → ax_X G l RX7 cX7_value 9 (some .int) false 2 (some (.int v.1), sh, v.2) 26 [(0, .ref (G.1 + 1)), (1, .int x1), (2, .int x2), (3, .int x3), (5, .int x5)] [] sh μ) {v : Int32 × ax_M} (h : m_X7_value_365 x1 x2 x3 x5 x7 k26 μ = some v) : ax_X G l RX7 cX7_value 9 (some .int) false 2 (some (.int v.1), sh, v.2) 365 [(0, .ref (G.1 + 1)), (1, .int x1), (2, .int x2), (3, .int x3), (5, .int x5), (7, .int x7)] [] sh μ := by
  unfold m_X7_value_365 at h
  refine ax_aload_n (pc := 365) (i := 0) (q := 0) (ax_dd KX7_value 170 rfl) rfl rfl ?_
  refine ax_getR (pc := 366) (k := 1) (q := 17) (ax_dd KX7_value 171 rfl) f_X7_23 (hs 1 _ rfl) rfl ?_
  refine ax_iload_n (pc := 369) (i := 3) (q := 3) (ax_dd KX7_value 172 rfl) rfl rfl ?_
  refine ax_iconst (pc := 370) (v := 1) (ax_dd KX7_value 173 rfl) (by decide) ?_
  refine ax_isub (pc := 371) (ax_dd KX7_value 174 rfl) ?_
  refine ax_iload (pc := 372) (q := 5) (ax_dd KX7_value 175 rfl) rfl ?_
  obtain ⟨j1, b2, h⟩ := ob_bind h
  refine ax_ist (pc := 374) (k := 17) (N := 160) (j := j1) (ax_dd KX7_value 176 rfl) (hs 17 _ rfl) b2 ?_
  refine ax_iinc (pc := 375) (q := 4) (v := (x5 + 1)) (lv' := [(5, .int (x5 + 1)), (0, .ref (G.1 + 1)), (1, .int x1), (2, .int x2), (3, .int x3), (7, .int x7)]) (ax_dd KX7_value 177 rfl) rfl rfl (by decide) rfl ?_
  refine ax_goto (pc := 378) (tgt := 26) (ax_dd KX7_value 178 rfl) (by decide) ?_
  refine ax_sub (lv' := [(0, .ref (G.1 + 1)), (1, .int x1), (2, .int x2), (3, .int x3), (5, .int (x5 + 1))]) [1, 2, 3, 4, 0] rfl ?_
  exact hk26 _ _ _ _ h
def m_X7_value_183 (x1 : Int32) (x2 : Int32) (x3 : Int32) (x5 : Int32) (x6 : Int32) (k26 : Int32 → Int32 → ax_M → Option (Int32 × ax_M)) (μ : ax_M) : Option (Int32 × ax_M) :=
  if x3 ≤ 1 then
    k26 x3 (x5 + 1) μ
  else
    (ix 160 ((x3 + (-1)) - 1)).bind fun j2 =>
    (ix 160 (x3 + (-1))).bind fun j4 =>
    if x6 = 6 then
      if (μ 17 j2) = 0 then
        if (μ 17 j4) = 0 then
          m_X7_value_365 x1 x2 (x3 + (-1)) x5 0 k26 μ
        else
          m_X7_value_365 x1 x2 (x3 + (-1)) x5 1 k26 μ
      else
        m_X7_value_365 x1 x2 (x3 + (-1)) x5 1 k26 μ
    else
      if x6 = 7 then
        if (μ 17 j2) = 0 then
          m_X7_value_365 x1 x2 (x3 + (-1)) x5 0 k26 μ
        else
          if (μ 17 j4) = 0 then
            m_X7_value_365 x1 x2 (x3 + (-1)) x5 0 k26 μ
          else
            m_X7_value_365 x1 x2 (x3 + (-1)) x5 1 k26 μ
      else
        if x6 = 8 then
          m_X7_value_365 x1 x2 (x3 + (-1)) x5 ((μ 17 j2) * (μ 17 j4)) k26 μ
        else
          if x6 = 9 then
            m_X7_value_365 x1 x2 (x3 + (-1)) x5 ((μ 17 j2) * (μ 17 j4)) k26 μ
          else
            if x6 = 10 then
              m_X7_value_365 x1 x2 (x3 + (-1)) x5 ((μ 17 j2) * (μ 17 j4)) k26 μ
            else
              if x6 = 11 then
                m_X7_value_365 x1 x2 (x3 + (-1)) x5 ((μ 17 j2) * (μ 17 j4)) k26 μ
              else
                if x6 = 12 then
                  if (μ 17 j4) ≤ (μ 17 j2) then
                    m_X7_value_365 x1 x2 (x3 + (-1)) x5 0 k26 μ
                  else
                    m_X7_value_365 x1 x2 (x3 + (-1)) x5 1 k26 μ
                else
                  if x6 = 13 then
                    if (μ 17 j2) = (μ 17 j4) then
                      m_X7_value_365 x1 x2 (x3 + (-1)) x5 1 k26 μ
                    else
                      m_X7_value_365 x1 x2 (x3 + (-1)) x5 0 k26 μ
                  else
                    if x6 = 14 then
                      m_X7_value_365 x1 x2 (x3 + (-1)) x5 ((μ 17 j2) + (μ 17 j4)) k26 μ
                    else
                      if x6 = 15 then
                        m_X7_value_365 x1 x2 (x3 + (-1)) x5 ((μ 17 j2) - (μ 17 j4)) k26 μ
                      else
                        m_X7_value_365 x1 x2 (x3 + (-1)) x5 ((μ 17 j2) * (μ 17 j4)) k26 μ
set_option maxRecDepth 100000 in
set_option maxHeartbeats 8000000 in
theorem a_X7_value_183 {G : ax_G} {l : Launch} {sh : List ax_E} {x1 : Int32} {x2 : Int32} {x3 : Int32} {x5 : Int32} {x6 : Int32} {k26 : Int32 → Int32 → ax_M → Option (Int32 × ax_M)} {μ : ax_M} (hs : ∀ (k : Nat) (e : ax_E), SHc[k]? = some e → sh[k]? = some e) (hk26 : ∀ (x3 : Int32) (x5 : Int32) (μ : ax_M) (v : Int32 × ax_M), k26 x3 x5 μ = some v → ax_X G l RX7 cX7_value 9 (some .int) false 2 (some (.int v.1), sh, v.2) 26 [(0, .ref (G.1 + 1)), (1, .int x1), (2, .int x2), (3, .int x3), (5, .int x5)] [] sh μ) {v : Int32 × ax_M} (h : m_X7_value_183 x1 x2 x3 x5 x6 k26 μ = some v) : ax_X G l RX7 cX7_value 9 (some .int) false 2 (some (.int v.1), sh, v.2) 183 [(0, .ref (G.1 + 1)), (1, .int x1), (2, .int x2), (3, .int x3), (5, .int x5), (6, .int x6)] [] sh μ := by
  unfold m_X7_value_183 at h
  refine ax_iload_n (pc := 183) (i := 3) (q := 3) (ax_dd KX7_value 104 rfl) rfl rfl ?_
  refine ax_iconst (pc := 184) (v := 1) (ax_dd KX7_value 105 rfl) (by decide) ?_
  by_cases c1 : x3 ≤ 1
  · rw [if_pos c1] at h
    refine ax_icmp_le_t (pc := 185) (tgt := 375) (ax_dd KX7_value 106 rfl) (by decide) c1 ?_
    refine ax_iinc (pc := 375) (q := 4) (v := (x5 + 1)) (lv' := [(5, .int (x5 + 1)), (0, .ref (G.1 + 1)), (1, .int x1), (2, .int x2), (3, .int x3), (6, .int x6)]) (ax_dd KX7_value 177 rfl) rfl rfl (by decide) rfl ?_
    refine ax_goto (pc := 378) (tgt := 26) (ax_dd KX7_value 178 rfl) (by decide) ?_
    refine ax_sub (lv' := [(0, .ref (G.1 + 1)), (1, .int x1), (2, .int x2), (3, .int x3), (5, .int (x5 + 1))]) [1, 2, 3, 4, 0] rfl ?_
    exact hk26 _ _ _ _ h
  · rw [if_neg c1] at h
    refine ax_icmp_le_f (pc := 185) (tgt := 375) (ax_dd KX7_value 106 rfl) (by decide) c1 ?_
    refine ax_iinc (pc := 188) (q := 3) (v := (x3 + (-1))) (lv' := [(3, .int (x3 + (-1))), (0, .ref (G.1 + 1)), (1, .int x1), (2, .int x2), (5, .int x5), (6, .int x6)]) (ax_dd KX7_value 107 rfl) rfl rfl (by decide) rfl ?_
    refine ax_aload_n (pc := 191) (i := 0) (q := 1) (ax_dd KX7_value 108 rfl) rfl rfl ?_
    refine ax_getR (pc := 192) (k := 1) (q := 17) (ax_dd KX7_value 109 rfl) f_X7_23 (hs 1 _ rfl) rfl ?_
    refine ax_iload_n (pc := 195) (i := 3) (q := 0) (ax_dd KX7_value 110 rfl) rfl rfl ?_
    refine ax_iconst (pc := 196) (v := 1) (ax_dd KX7_value 111 rfl) (by decide) ?_
    refine ax_isub (pc := 197) (ax_dd KX7_value 112 rfl) ?_
    obtain ⟨j2, b3, h⟩ := ob_bind h
    refine ax_ild (pc := 198) (k := 17) (N := 160) (j := j2) (ax_dd KX7_value 113 rfl) (hs 17 _ rfl) b3 ?_
    refine ax_istore (pc := 199) (lv' := [(7, .int (μ 17 j2)), (3, .int (x3 + (-1))), (0, .ref (G.1 + 1)), (1, .int x1), (2, .int x2), (5, .int x5), (6, .int x6)]) (ax_dd KX7_value 114 rfl) (by decide) rfl ?_
    refine ax_aload_n (pc := 201) (i := 0) (q := 2) (ax_dd KX7_value 115 rfl) rfl rfl ?_
    refine ax_getR (pc := 202) (k := 1) (q := 17) (ax_dd KX7_value 116 rfl) f_X7_23 (hs 1 _ rfl) rfl ?_
    refine ax_iload_n (pc := 205) (i := 3) (q := 1) (ax_dd KX7_value 117 rfl) rfl rfl ?_
    obtain ⟨j4, b5, h⟩ := ob_bind h
    refine ax_ild (pc := 206) (k := 17) (N := 160) (j := j4) (ax_dd KX7_value 118 rfl) (hs 17 _ rfl) b5 ?_
    refine ax_istore (pc := 207) (lv' := [(8, .int (μ 17 j4)), (7, .int (μ 17 j2)), (3, .int (x3 + (-1))), (0, .ref (G.1 + 1)), (1, .int x1), (2, .int x2), (5, .int x5), (6, .int x6)]) (ax_dd KX7_value 119 rfl) (by decide) rfl ?_
    refine ax_iload (pc := 209) (q := 7) (ax_dd KX7_value 120 rfl) rfl ?_
    by_cases c6 : x6 = 6
    · rw [if_pos c6] at h
      refine ax_tab (pc := 211) (off := 53) (tgt := 264) (ax_dd KX7_value 121 rfl) (by rw [c6]; decide) (by rw [c6]; decide) (by rw [c6]; rfl) (by decide) ?_
      refine ax_iload (pc := 264) (q := 1) (ax_dd KX7_value 122 rfl) rfl ?_
      by_cases c7 : (μ 17 j2) = 0
      · rw [if_pos c7] at h
        refine ax_if_ne_f (pc := 266) (tgt := 274) (ax_dd KX7_value 123 rfl) (by decide) (fun z => z c7) ?_
        refine ax_iload (pc := 269) (q := 0) (ax_dd KX7_value 124 rfl) rfl ?_
        by_cases c8 : (μ 17 j4) = 0
        · rw [if_pos c8] at h
          refine ax_if_eq_t (pc := 271) (tgt := 278) (ax_dd KX7_value 125 rfl) (by decide) c8 ?_
          refine ax_iconst (pc := 278) (v := 0) (ax_dd KX7_value 128 rfl) (by decide) ?_
          refine ax_istore (pc := 279) (lv' := [(7, .int 0), (8, .int (μ 17 j4)), (3, .int (x3 + (-1))), (0, .ref (G.1 + 1)), (1, .int x1), (2, .int x2), (5, .int x5), (6, .int x6)]) (ax_dd KX7_value 129 rfl) (by decide) rfl ?_
          refine ax_goto (pc := 281) (tgt := 365) (ax_dd KX7_value 130 rfl) (by decide) ?_
          refine ax_sub (lv' := [(0, .ref (G.1 + 1)), (1, .int x1), (2, .int x2), (3, .int (x3 + (-1))), (5, .int x5), (7, .int 0)]) [3, 4, 5, 2, 6, 0] rfl ?_
          exact a_X7_value_365 hs hk26 h
        · rw [if_neg c8] at h
          refine ax_if_eq_f (pc := 271) (tgt := 278) (ax_dd KX7_value 125 rfl) (by decide) c8 ?_
          refine ax_iconst (pc := 274) (v := 1) (ax_dd KX7_value 126 rfl) (by decide) ?_
          refine ax_goto (pc := 275) (tgt := 279) (ax_dd KX7_value 127 rfl) (by decide) ?_
          refine ax_istore (pc := 279) (lv' := [(7, .int 1), (8, .int (μ 17 j4)), (3, .int (x3 + (-1))), (0, .ref (G.1 + 1)), (1, .int x1), (2, .int x2), (5, .int x5), (6, .int x6)]) (ax_dd KX7_value 129 rfl) (by decide) rfl ?_
          refine ax_goto (pc := 281) (tgt := 365) (ax_dd KX7_value 130 rfl) (by decide) ?_
          refine ax_sub (lv' := [(0, .ref (G.1 + 1)), (1, .int x1), (2, .int x2), (3, .int (x3 + (-1))), (5, .int x5), (7, .int 1)]) [3, 4, 5, 2, 6, 0] rfl ?_
          exact a_X7_value_365 hs hk26 h
      · rw [if_neg c7] at h
        refine ax_if_ne_t (pc := 266) (tgt := 274) (ax_dd KX7_value 123 rfl) (by decide) c7 ?_
        refine ax_iconst (pc := 274) (v := 1) (ax_dd KX7_value 126 rfl) (by decide) ?_
        refine ax_goto (pc := 275) (tgt := 279) (ax_dd KX7_value 127 rfl) (by decide) ?_
        refine ax_istore (pc := 279) (lv' := [(7, .int 1), (8, .int (μ 17 j4)), (3, .int (x3 + (-1))), (0, .ref (G.1 + 1)), (1, .int x1), (2, .int x2), (5, .int x5), (6, .int x6)]) (ax_dd KX7_value 129 rfl) (by decide) rfl ?_
        refine ax_goto (pc := 281) (tgt := 365) (ax_dd KX7_value 130 rfl) (by decide) ?_
        refine ax_sub (lv' := [(0, .ref (G.1 + 1)), (1, .int x1), (2, .int x2), (3, .int (x3 + (-1))), (5, .int x5), (7, .int 1)]) [3, 4, 5, 2, 6, 0] rfl ?_
        exact a_X7_value_365 hs hk26 h
    · rw [if_neg c6] at h
      by_cases c9 : x6 = 7
      · rw [if_pos c9] at h
        refine ax_tab (pc := 211) (off := 73) (tgt := 284) (ax_dd KX7_value 121 rfl) (by rw [c9]; decide) (by rw [c9]; decide) (by rw [c9]; rfl) (by decide) ?_
        refine ax_iload (pc := 284) (q := 1) (ax_dd KX7_value 131 rfl) rfl ?_
        by_cases c10 : (μ 17 j2) = 0
        · rw [if_pos c10] at h
          refine ax_if_eq_t (pc := 286) (tgt := 298) (ax_dd KX7_value 132 rfl) (by decide) c10 ?_
          refine ax_iconst (pc := 298) (v := 0) (ax_dd KX7_value 137 rfl) (by decide) ?_
          refine ax_istore (pc := 299) (lv' := [(7, .int 0), (8, .int (μ 17 j4)), (3, .int (x3 + (-1))), (0, .ref (G.1 + 1)), (1, .int x1), (2, .int x2), (5, .int x5), (6, .int x6)]) (ax_dd KX7_value 138 rfl) (by decide) rfl ?_
          refine ax_goto (pc := 301) (tgt := 365) (ax_dd KX7_value 139 rfl) (by decide) ?_
          refine ax_sub (lv' := [(0, .ref (G.1 + 1)), (1, .int x1), (2, .int x2), (3, .int (x3 + (-1))), (5, .int x5), (7, .int 0)]) [3, 4, 5, 2, 6, 0] rfl ?_
          exact a_X7_value_365 hs hk26 h
        · rw [if_neg c10] at h
          refine ax_if_eq_f (pc := 286) (tgt := 298) (ax_dd KX7_value 132 rfl) (by decide) c10 ?_
          refine ax_iload (pc := 289) (q := 0) (ax_dd KX7_value 133 rfl) rfl ?_
          by_cases c11 : (μ 17 j4) = 0
          · rw [if_pos c11] at h
            refine ax_if_eq_t (pc := 291) (tgt := 298) (ax_dd KX7_value 134 rfl) (by decide) c11 ?_
            refine ax_iconst (pc := 298) (v := 0) (ax_dd KX7_value 137 rfl) (by decide) ?_
            refine ax_istore (pc := 299) (lv' := [(7, .int 0), (8, .int (μ 17 j4)), (3, .int (x3 + (-1))), (0, .ref (G.1 + 1)), (1, .int x1), (2, .int x2), (5, .int x5), (6, .int x6)]) (ax_dd KX7_value 138 rfl) (by decide) rfl ?_
            refine ax_goto (pc := 301) (tgt := 365) (ax_dd KX7_value 139 rfl) (by decide) ?_
            refine ax_sub (lv' := [(0, .ref (G.1 + 1)), (1, .int x1), (2, .int x2), (3, .int (x3 + (-1))), (5, .int x5), (7, .int 0)]) [3, 4, 5, 2, 6, 0] rfl ?_
            exact a_X7_value_365 hs hk26 h
          · rw [if_neg c11] at h
            refine ax_if_eq_f (pc := 291) (tgt := 298) (ax_dd KX7_value 134 rfl) (by decide) c11 ?_
            refine ax_iconst (pc := 294) (v := 1) (ax_dd KX7_value 135 rfl) (by decide) ?_
            refine ax_goto (pc := 295) (tgt := 299) (ax_dd KX7_value 136 rfl) (by decide) ?_
            refine ax_istore (pc := 299) (lv' := [(7, .int 1), (8, .int (μ 17 j4)), (3, .int (x3 + (-1))), (0, .ref (G.1 + 1)), (1, .int x1), (2, .int x2), (5, .int x5), (6, .int x6)]) (ax_dd KX7_value 138 rfl) (by decide) rfl ?_
            refine ax_goto (pc := 301) (tgt := 365) (ax_dd KX7_value 139 rfl) (by decide) ?_
            refine ax_sub (lv' := [(0, .ref (G.1 + 1)), (1, .int x1), (2, .int x2), (3, .int (x3 + (-1))), (5, .int x5), (7, .int 1)]) [3, 4, 5, 2, 6, 0] rfl ?_
            exact a_X7_value_365 hs hk26 h
      · rw [if_neg c9] at h
        by_cases c12 : x6 = 8
        · rw [if_pos c12] at h
          refine ax_tab (pc := 211) (off := 147) (tgt := 358) (ax_dd KX7_value 121 rfl) (by rw [c12]; decide) (by rw [c12]; decide) (by rw [c12]; rfl) (by decide) ?_
          refine ax_iload (pc := 358) (q := 1) (ax_dd KX7_value 166 rfl) rfl ?_
          refine ax_iload (pc := 360) (q := 0) (ax_dd KX7_value 167 rfl) rfl ?_
          refine ax_imul (pc := 362) (ax_dd KX7_value 168 rfl) ?_
          refine ax_istore (pc := 363) (lv' := [(7, .int ((μ 17 j2) * (μ 17 j4))), (8, .int (μ 17 j4)), (3, .int (x3 + (-1))), (0, .ref (G.1 + 1)), (1, .int x1), (2, .int x2), (5, .int x5), (6, .int x6)]) (ax_dd KX7_value 169 rfl) (by decide) rfl ?_
          refine ax_sub (lv' := [(0, .ref (G.1 + 1)), (1, .int x1), (2, .int x2), (3, .int (x3 + (-1))), (5, .int x5), (7, .int ((μ 17 j2) * (μ 17 j4)))]) [3, 4, 5, 2, 6, 0] rfl ?_
          exact a_X7_value_365 hs hk26 h
        · rw [if_neg c12] at h
          by_cases c13 : x6 = 9
          · rw [if_pos c13] at h
            refine ax_tab (pc := 211) (off := 147) (tgt := 358) (ax_dd KX7_value 121 rfl) (by rw [c13]; decide) (by rw [c13]; decide) (by rw [c13]; rfl) (by decide) ?_
            refine ax_iload (pc := 358) (q := 1) (ax_dd KX7_value 166 rfl) rfl ?_
            refine ax_iload (pc := 360) (q := 0) (ax_dd KX7_value 167 rfl) rfl ?_
            refine ax_imul (pc := 362) (ax_dd KX7_value 168 rfl) ?_
            refine ax_istore (pc := 363) (lv' := [(7, .int ((μ 17 j2) * (μ 17 j4))), (8, .int (μ 17 j4)), (3, .int (x3 + (-1))), (0, .ref (G.1 + 1)), (1, .int x1), (2, .int x2), (5, .int x5), (6, .int x6)]) (ax_dd KX7_value 169 rfl) (by decide) rfl ?_
            refine ax_sub (lv' := [(0, .ref (G.1 + 1)), (1, .int x1), (2, .int x2), (3, .int (x3 + (-1))), (5, .int x5), (7, .int ((μ 17 j2) * (μ 17 j4)))]) [3, 4, 5, 2, 6, 0] rfl ?_
            exact a_X7_value_365 hs hk26 h
          · rw [if_neg c13] at h
            by_cases c14 : x6 = 10
            · rw [if_pos c14] at h
              refine ax_tab (pc := 211) (off := 147) (tgt := 358) (ax_dd KX7_value 121 rfl) (by rw [c14]; decide) (by rw [c14]; decide) (by rw [c14]; rfl) (by decide) ?_
              refine ax_iload (pc := 358) (q := 1) (ax_dd KX7_value 166 rfl) rfl ?_
              refine ax_iload (pc := 360) (q := 0) (ax_dd KX7_value 167 rfl) rfl ?_
              refine ax_imul (pc := 362) (ax_dd KX7_value 168 rfl) ?_
              refine ax_istore (pc := 363) (lv' := [(7, .int ((μ 17 j2) * (μ 17 j4))), (8, .int (μ 17 j4)), (3, .int (x3 + (-1))), (0, .ref (G.1 + 1)), (1, .int x1), (2, .int x2), (5, .int x5), (6, .int x6)]) (ax_dd KX7_value 169 rfl) (by decide) rfl ?_
              refine ax_sub (lv' := [(0, .ref (G.1 + 1)), (1, .int x1), (2, .int x2), (3, .int (x3 + (-1))), (5, .int x5), (7, .int ((μ 17 j2) * (μ 17 j4)))]) [3, 4, 5, 2, 6, 0] rfl ?_
              exact a_X7_value_365 hs hk26 h
            · rw [if_neg c14] at h
              by_cases c15 : x6 = 11
              · rw [if_pos c15] at h
                refine ax_tab (pc := 211) (off := 147) (tgt := 358) (ax_dd KX7_value 121 rfl) (by rw [c15]; decide) (by rw [c15]; decide) (by rw [c15]; rfl) (by decide) ?_
                refine ax_iload (pc := 358) (q := 1) (ax_dd KX7_value 166 rfl) rfl ?_
                refine ax_iload (pc := 360) (q := 0) (ax_dd KX7_value 167 rfl) rfl ?_
                refine ax_imul (pc := 362) (ax_dd KX7_value 168 rfl) ?_
                refine ax_istore (pc := 363) (lv' := [(7, .int ((μ 17 j2) * (μ 17 j4))), (8, .int (μ 17 j4)), (3, .int (x3 + (-1))), (0, .ref (G.1 + 1)), (1, .int x1), (2, .int x2), (5, .int x5), (6, .int x6)]) (ax_dd KX7_value 169 rfl) (by decide) rfl ?_
                refine ax_sub (lv' := [(0, .ref (G.1 + 1)), (1, .int x1), (2, .int x2), (3, .int (x3 + (-1))), (5, .int x5), (7, .int ((μ 17 j2) * (μ 17 j4)))]) [3, 4, 5, 2, 6, 0] rfl ?_
                exact a_X7_value_365 hs hk26 h
              · rw [if_neg c15] at h
                by_cases c16 : x6 = 12
                · rw [if_pos c16] at h
                  refine ax_tab (pc := 211) (off := 93) (tgt := 304) (ax_dd KX7_value 121 rfl) (by rw [c16]; decide) (by rw [c16]; decide) (by rw [c16]; rfl) (by decide) ?_
                  refine ax_iload (pc := 304) (q := 1) (ax_dd KX7_value 140 rfl) rfl ?_
                  refine ax_iload (pc := 306) (q := 0) (ax_dd KX7_value 141 rfl) rfl ?_
                  by_cases c17 : (μ 17 j4) ≤ (μ 17 j2)
                  · rw [if_pos c17] at h
                    refine ax_icmp_ge_t (pc := 308) (tgt := 315) (ax_dd KX7_value 142 rfl) (by decide) c17 ?_
                    refine ax_iconst (pc := 315) (v := 0) (ax_dd KX7_value 145 rfl) (by decide) ?_
                    refine ax_istore (pc := 316) (lv' := [(7, .int 0), (8, .int (μ 17 j4)), (3, .int (x3 + (-1))), (0, .ref (G.1 + 1)), (1, .int x1), (2, .int x2), (5, .int x5), (6, .int x6)]) (ax_dd KX7_value 146 rfl) (by decide) rfl ?_
                    refine ax_goto (pc := 318) (tgt := 365) (ax_dd KX7_value 147 rfl) (by decide) ?_
                    refine ax_sub (lv' := [(0, .ref (G.1 + 1)), (1, .int x1), (2, .int x2), (3, .int (x3 + (-1))), (5, .int x5), (7, .int 0)]) [3, 4, 5, 2, 6, 0] rfl ?_
                    exact a_X7_value_365 hs hk26 h
                  · rw [if_neg c17] at h
                    refine ax_icmp_ge_f (pc := 308) (tgt := 315) (ax_dd KX7_value 142 rfl) (by decide) c17 ?_
                    refine ax_iconst (pc := 311) (v := 1) (ax_dd KX7_value 143 rfl) (by decide) ?_
                    refine ax_goto (pc := 312) (tgt := 316) (ax_dd KX7_value 144 rfl) (by decide) ?_
                    refine ax_istore (pc := 316) (lv' := [(7, .int 1), (8, .int (μ 17 j4)), (3, .int (x3 + (-1))), (0, .ref (G.1 + 1)), (1, .int x1), (2, .int x2), (5, .int x5), (6, .int x6)]) (ax_dd KX7_value 146 rfl) (by decide) rfl ?_
                    refine ax_goto (pc := 318) (tgt := 365) (ax_dd KX7_value 147 rfl) (by decide) ?_
                    refine ax_sub (lv' := [(0, .ref (G.1 + 1)), (1, .int x1), (2, .int x2), (3, .int (x3 + (-1))), (5, .int x5), (7, .int 1)]) [3, 4, 5, 2, 6, 0] rfl ?_
                    exact a_X7_value_365 hs hk26 h
                · rw [if_neg c16] at h
                  by_cases c18 : x6 = 13
                  · rw [if_pos c18] at h
                    refine ax_tab (pc := 211) (off := 110) (tgt := 321) (ax_dd KX7_value 121 rfl) (by rw [c18]; decide) (by rw [c18]; decide) (by rw [c18]; rfl) (by decide) ?_
                    refine ax_iload (pc := 321) (q := 1) (ax_dd KX7_value 148 rfl) rfl ?_
                    refine ax_iload (pc := 323) (q := 0) (ax_dd KX7_value 149 rfl) rfl ?_
                    by_cases c19 : (μ 17 j2) = (μ 17 j4)
                    · rw [if_pos c19] at h
                      refine ax_icmp_ne_f (pc := 325) (tgt := 332) (ax_dd KX7_value 150 rfl) (by decide) (fun z => z c19) ?_
                      refine ax_iconst (pc := 328) (v := 1) (ax_dd KX7_value 151 rfl) (by decide) ?_
                      refine ax_goto (pc := 329) (tgt := 333) (ax_dd KX7_value 152 rfl) (by decide) ?_
                      refine ax_istore (pc := 333) (lv' := [(7, .int 1), (8, .int (μ 17 j4)), (3, .int (x3 + (-1))), (0, .ref (G.1 + 1)), (1, .int x1), (2, .int x2), (5, .int x5), (6, .int x6)]) (ax_dd KX7_value 154 rfl) (by decide) rfl ?_
                      refine ax_goto (pc := 335) (tgt := 365) (ax_dd KX7_value 155 rfl) (by decide) ?_
                      refine ax_sub (lv' := [(0, .ref (G.1 + 1)), (1, .int x1), (2, .int x2), (3, .int (x3 + (-1))), (5, .int x5), (7, .int 1)]) [3, 4, 5, 2, 6, 0] rfl ?_
                      exact a_X7_value_365 hs hk26 h
                    · rw [if_neg c19] at h
                      refine ax_icmp_ne_t (pc := 325) (tgt := 332) (ax_dd KX7_value 150 rfl) (by decide) c19 ?_
                      refine ax_iconst (pc := 332) (v := 0) (ax_dd KX7_value 153 rfl) (by decide) ?_
                      refine ax_istore (pc := 333) (lv' := [(7, .int 0), (8, .int (μ 17 j4)), (3, .int (x3 + (-1))), (0, .ref (G.1 + 1)), (1, .int x1), (2, .int x2), (5, .int x5), (6, .int x6)]) (ax_dd KX7_value 154 rfl) (by decide) rfl ?_
                      refine ax_goto (pc := 335) (tgt := 365) (ax_dd KX7_value 155 rfl) (by decide) ?_
                      refine ax_sub (lv' := [(0, .ref (G.1 + 1)), (1, .int x1), (2, .int x2), (3, .int (x3 + (-1))), (5, .int x5), (7, .int 0)]) [3, 4, 5, 2, 6, 0] rfl ?_
                      exact a_X7_value_365 hs hk26 h
                  · rw [if_neg c18] at h
                    by_cases c20 : x6 = 14
                    · rw [if_pos c20] at h
                      refine ax_tab (pc := 211) (off := 127) (tgt := 338) (ax_dd KX7_value 121 rfl) (by rw [c20]; decide) (by rw [c20]; decide) (by rw [c20]; rfl) (by decide) ?_
                      refine ax_iload (pc := 338) (q := 1) (ax_dd KX7_value 156 rfl) rfl ?_
                      refine ax_iload (pc := 340) (q := 0) (ax_dd KX7_value 157 rfl) rfl ?_
                      refine ax_iadd (pc := 342) (ax_dd KX7_value 158 rfl) ?_
                      refine ax_istore (pc := 343) (lv' := [(7, .int ((μ 17 j2) + (μ 17 j4))), (8, .int (μ 17 j4)), (3, .int (x3 + (-1))), (0, .ref (G.1 + 1)), (1, .int x1), (2, .int x2), (5, .int x5), (6, .int x6)]) (ax_dd KX7_value 159 rfl) (by decide) rfl ?_
                      refine ax_goto (pc := 345) (tgt := 365) (ax_dd KX7_value 160 rfl) (by decide) ?_
                      refine ax_sub (lv' := [(0, .ref (G.1 + 1)), (1, .int x1), (2, .int x2), (3, .int (x3 + (-1))), (5, .int x5), (7, .int ((μ 17 j2) + (μ 17 j4)))]) [3, 4, 5, 2, 6, 0] rfl ?_
                      exact a_X7_value_365 hs hk26 h
                    · rw [if_neg c20] at h
                      by_cases c21 : x6 = 15
                      · rw [if_pos c21] at h
                        refine ax_tab (pc := 211) (off := 137) (tgt := 348) (ax_dd KX7_value 121 rfl) (by rw [c21]; decide) (by rw [c21]; decide) (by rw [c21]; rfl) (by decide) ?_
                        refine ax_iload (pc := 348) (q := 1) (ax_dd KX7_value 161 rfl) rfl ?_
                        refine ax_iload (pc := 350) (q := 0) (ax_dd KX7_value 162 rfl) rfl ?_
                        refine ax_isub (pc := 352) (ax_dd KX7_value 163 rfl) ?_
                        refine ax_istore (pc := 353) (lv' := [(7, .int ((μ 17 j2) - (μ 17 j4))), (8, .int (μ 17 j4)), (3, .int (x3 + (-1))), (0, .ref (G.1 + 1)), (1, .int x1), (2, .int x2), (5, .int x5), (6, .int x6)]) (ax_dd KX7_value 164 rfl) (by decide) rfl ?_
                        refine ax_goto (pc := 355) (tgt := 365) (ax_dd KX7_value 165 rfl) (by decide) ?_
                        refine ax_sub (lv' := [(0, .ref (G.1 + 1)), (1, .int x1), (2, .int x2), (3, .int (x3 + (-1))), (5, .int x5), (7, .int ((μ 17 j2) - (μ 17 j4)))]) [3, 4, 5, 2, 6, 0] rfl ?_
                        exact a_X7_value_365 hs hk26 h
                      · rw [if_neg c21] at h
                        refine ax_tabD (pc := 211) (tgt := 358) (ax_dd KX7_value 121 rfl) (by have e0 := ax_ne c6 (a := 6) rfl; have e1 := ax_ne c9 (a := 7) rfl; have e2 := ax_ne c12 (a := 8) rfl; have e3 := ax_ne c13 (a := 9) rfl; have e4 := ax_ne c14 (a := 10) rfl; have e5 := ax_ne c15 (a := 11) rfl; have e6 := ax_ne c16 (a := 12) rfl; have e7 := ax_ne c18 (a := 13) rfl; have e8 := ax_ne c20 (a := 14) rfl; have e9 := ax_ne c21 (a := 15) rfl; omega) (by decide) ?_
                        refine ax_iload (pc := 358) (q := 1) (ax_dd KX7_value 166 rfl) rfl ?_
                        refine ax_iload (pc := 360) (q := 0) (ax_dd KX7_value 167 rfl) rfl ?_
                        refine ax_imul (pc := 362) (ax_dd KX7_value 168 rfl) ?_
                        refine ax_istore (pc := 363) (lv' := [(7, .int ((μ 17 j2) * (μ 17 j4))), (8, .int (μ 17 j4)), (3, .int (x3 + (-1))), (0, .ref (G.1 + 1)), (1, .int x1), (2, .int x2), (5, .int x5), (6, .int x6)]) (ax_dd KX7_value 169 rfl) (by decide) rfl ?_
                        refine ax_sub (lv' := [(0, .ref (G.1 + 1)), (1, .int x1), (2, .int x2), (3, .int (x3 + (-1))), (5, .int x5), (7, .int ((μ 17 j2) * (μ 17 j4)))]) [3, 4, 5, 2, 6, 0] rfl ?_
                        exact a_X7_value_365 hs hk26 h
