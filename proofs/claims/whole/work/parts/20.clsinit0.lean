def m_X0_init (μ : ax_M) : Option (ax_M) :=
  some (ax_z (ax_z (ax_z (ax_z (ax_z (ax_z (ax_z (ax_z (ax_w μ 25 2 12) 26) 27) 28) 29) 30) 31) 32) 33)
set_option maxRecDepth 100000 in
set_option maxHeartbeats 8000000 in
theorem c_X0_init {G : ax_G} {l : Launch} {μ : ax_M} {v : ax_M} (h : m_X0_init μ = some v) : ax_A G l yX0_init cX0_init 2 none 2 [.ref (G.1 + 25), .ref (G.1 + 1)] sh_26_17 μ (none, sh_34_16, v) := by
  refine ax_A.of true (by decide +kernel) (fun _ => rfl) (Nat.le_of_ble_eq_true rfl) (?_ : ax_X G l RX0 cX0_init 2 none true 2 (none, sh_34_16, v) 0 [(0, .ref (G.1 + 25)), (1, .ref (G.1 + 1))] [] sh_26_17 μ)
  unfold m_X0_init at h
  refine ax_aload_n (pc := 0) (i := 0) (q := 0) (ax_dd KX0_init 0 rfl) rfl rfl ?_
  refine ax_objInit (pc := 1) (ax_dd KX0_init 1 rfl) oi_X0_3 (by decide) (Nat.le_of_ble_eq_true rfl) ?_
  refine ax_aload_n (pc := 4) (i := 0) (q := 0) (ax_dd KX0_init 2 rfl) rfl rfl ?_
  refine ax_bipush (pc := 5) (v := 12) (ax_dd KX0_init 3 rfl) (by decide) ?_
  refine ax_putI (pc := 7) (k := 25) (ax_dd KX0_init 4 rfl) f_X0_9 ft_X0 rfl rfl (fun _ h9 => by cases h9; rfl) rfl rfl ?_
  refine ax_aload_n (pc := 10) (i := 0) (q := 0) (ax_dd KX0_init 5 rfl) rfl rfl ?_
  refine ax_bipush (pc := 11) (v := 6) (ax_dd KX0_init 6 rfl) (by decide) ?_
  refine ax_newa (pc := 13) (t := 0) (N := 6) (k := 26) (sh' := sh_27_0) (ax_dd KX0_init 7 rfl) (Or.inl ⟨rfl, rfl⟩) (by decide) rfl (by decide) na_0 rfl rfl ?_
  refine ax_putR (pc := 15) (k := 25) (q := 26) (sh' := sh_27_1) (ax_dd KX0_init 8 rfl) f_X0_15 ft_X0 rfl rfl rfl (fun _ h9 => by cases h9; exact ⟨rfl, rfl⟩) rfl rfl rfl rfl ?_
  refine ax_aload_n (pc := 18) (i := 0) (q := 0) (ax_dd KX0_init 9 rfl) rfl rfl ?_
  refine ax_bipush (pc := 19) (v := 6) (ax_dd KX0_init 10 rfl) (by decide) ?_
  refine ax_newa (pc := 21) (t := 0) (N := 6) (k := 27) (sh' := sh_28_2) (ax_dd KX0_init 11 rfl) (Or.inl ⟨rfl, rfl⟩) (by decide) rfl (by decide) na_0 rfl rfl ?_
  refine ax_putR (pc := 23) (k := 25) (q := 27) (sh' := sh_28_3) (ax_dd KX0_init 12 rfl) f_X0_19 ft_X0 rfl rfl rfl (fun _ h9 => by cases h9; exact ⟨rfl, rfl⟩) rfl rfl rfl rfl ?_
  refine ax_aload_n (pc := 26) (i := 0) (q := 0) (ax_dd KX0_init 13 rfl) rfl rfl ?_
  refine ax_bipush (pc := 27) (v := 6) (ax_dd KX0_init 14 rfl) (by decide) ?_
  refine ax_newa (pc := 29) (t := 0) (N := 6) (k := 28) (sh' := sh_29_4) (ax_dd KX0_init 15 rfl) (Or.inl ⟨rfl, rfl⟩) (by decide) rfl (by decide) na_0 rfl rfl ?_
  refine ax_putR (pc := 31) (k := 25) (q := 28) (sh' := sh_29_5) (ax_dd KX0_init 16 rfl) f_X0_22 ft_X0 rfl rfl rfl (fun _ h9 => by cases h9; exact ⟨rfl, rfl⟩) rfl rfl rfl rfl ?_
  refine ax_aload_n (pc := 34) (i := 0) (q := 0) (ax_dd KX0_init 17 rfl) rfl rfl ?_
  refine ax_bipush (pc := 35) (v := 6) (ax_dd KX0_init 18 rfl) (by decide) ?_
  refine ax_newa (pc := 37) (t := 0) (N := 6) (k := 29) (sh' := sh_30_6) (ax_dd KX0_init 19 rfl) (Or.inl ⟨rfl, rfl⟩) (by decide) rfl (by decide) na_0 rfl rfl ?_
  refine ax_putR (pc := 39) (k := 25) (q := 29) (sh' := sh_30_7) (ax_dd KX0_init 20 rfl) f_X0_25 ft_X0 rfl rfl rfl (fun _ h9 => by cases h9; exact ⟨rfl, rfl⟩) rfl rfl rfl rfl ?_
  refine ax_aload_n (pc := 42) (i := 0) (q := 0) (ax_dd KX0_init 21 rfl) rfl rfl ?_
  refine ax_bipush (pc := 43) (v := 6) (ax_dd KX0_init 22 rfl) (by decide) ?_
  refine ax_newa (pc := 45) (t := 0) (N := 6) (k := 30) (sh' := sh_31_8) (ax_dd KX0_init 23 rfl) (Or.inl ⟨rfl, rfl⟩) (by decide) rfl (by decide) na_0 rfl rfl ?_
  refine ax_putR (pc := 47) (k := 25) (q := 30) (sh' := sh_31_9) (ax_dd KX0_init 24 rfl) f_X0_28 ft_X0 rfl rfl rfl (fun _ h9 => by cases h9; exact ⟨rfl, rfl⟩) rfl rfl rfl rfl ?_
  refine ax_aload_n (pc := 50) (i := 0) (q := 0) (ax_dd KX0_init 25 rfl) rfl rfl ?_
  refine ax_bipush (pc := 51) (v := 6) (ax_dd KX0_init 26 rfl) (by decide) ?_
  refine ax_newa (pc := 53) (t := 0) (N := 6) (k := 31) (sh' := sh_32_10) (ax_dd KX0_init 27 rfl) (Or.inl ⟨rfl, rfl⟩) (by decide) rfl (by decide) na_0 rfl rfl ?_
  refine ax_putR (pc := 55) (k := 25) (q := 31) (sh' := sh_32_11) (ax_dd KX0_init 28 rfl) f_X0_31 ft_X0 rfl rfl rfl (fun _ h9 => by cases h9; exact ⟨rfl, rfl⟩) rfl rfl rfl rfl ?_
  refine ax_aload_n (pc := 58) (i := 0) (q := 0) (ax_dd KX0_init 29 rfl) rfl rfl ?_
  refine ax_bipush (pc := 59) (v := 36) (ax_dd KX0_init 30 rfl) (by decide) ?_
  refine ax_newa (pc := 61) (t := 0) (N := 36) (k := 32) (sh' := sh_33_12) (ax_dd KX0_init 31 rfl) (Or.inl ⟨rfl, rfl⟩) (by decide) rfl (by decide) na_0 rfl rfl ?_
  refine ax_putR (pc := 63) (k := 25) (q := 32) (sh' := sh_33_13) (ax_dd KX0_init 32 rfl) f_X0_34 ft_X0 rfl rfl rfl (fun _ h9 => by cases h9; exact ⟨rfl, rfl⟩) rfl rfl rfl rfl ?_
  refine ax_aload_n (pc := 66) (i := 0) (q := 0) (ax_dd KX0_init 33 rfl) rfl rfl ?_
  refine ax_bipush (pc := 67) (v := 36) (ax_dd KX0_init 34 rfl) (by decide) ?_
  refine ax_newa (pc := 69) (t := 0) (N := 36) (k := 33) (sh' := sh_34_14) (ax_dd KX0_init 35 rfl) (Or.inl ⟨rfl, rfl⟩) (by decide) rfl (by decide) na_0 rfl rfl ?_
  refine ax_putR (pc := 71) (k := 25) (q := 33) (sh' := sh_34_15) (ax_dd KX0_init 36 rfl) f_X0_37 ft_X0 rfl rfl rfl (fun _ h9 => by cases h9; exact ⟨rfl, rfl⟩) rfl rfl rfl rfl ?_
  refine ax_aload_n (pc := 74) (i := 0) (q := 0) (ax_dd KX0_init 37 rfl) rfl rfl ?_
  refine ax_aload_n (pc := 75) (i := 1) (q := 1) (ax_dd KX0_init 38 rfl) rfl rfl ?_
  refine ax_putR (pc := 76) (k := 25) (q := 1) (sh' := sh_34_16) (ax_dd KX0_init 39 rfl) f_X0_40 ft_X0 rfl rfl rfl (fun _ h9 => by cases h9; exact ⟨rfl, rfl⟩) rfl rfl rfl rfl ?_
  obtain rfl := Option.some.inj h
  exact ax_vret (pc := 79) (ax_dd KX0_init 40 rfl) rfl rfl
def m_X1_init (μ : ax_M) : Option (ax_M) :=
  some (ax_z (ax_z (ax_z μ 40) 41) 42)
set_option maxRecDepth 100000 in
set_option maxHeartbeats 8000000 in
theorem c_X1_init {G : ax_G} {l : Launch} {μ : ax_M} {v : ax_M} (h : m_X1_init μ = some v) : ax_A G l yX1_init cX1_init 1 none 2 [.ref (G.1 + 39)] sh_40_24 μ (none, sh_43_23, v) := by
  refine ax_A.of true (by decide +kernel) (fun _ => rfl) (Nat.le_of_ble_eq_true rfl) (?_ : ax_X G l RX1 cX1_init 1 none true 2 (none, sh_43_23, v) 0 [(0, .ref (G.1 + 39))] [] sh_40_24 μ)
  unfold m_X1_init at h
  refine ax_aload_n (pc := 0) (i := 0) (q := 0) (ax_dd KX1_init 0 rfl) rfl rfl ?_
  refine ax_objInit (pc := 1) (ax_dd KX1_init 1 rfl) oi_X1_3 (by decide) (Nat.le_of_ble_eq_true rfl) ?_
  refine ax_aload_n (pc := 4) (i := 0) (q := 0) (ax_dd KX1_init 2 rfl) rfl rfl ?_
  refine ax_bipush (pc := 5) (v := 6) (ax_dd KX1_init 3 rfl) (by decide) ?_
  refine ax_newa (pc := 7) (t := 0) (N := 6) (k := 40) (sh' := sh_41_18) (ax_dd KX1_init 4 rfl) (Or.inl ⟨rfl, rfl⟩) (by decide) rfl (by decide) na_0 rfl rfl ?_
  refine ax_putR (pc := 9) (k := 39) (q := 40) (sh' := sh_41_19) (ax_dd KX1_init 5 rfl) f_X1_9 ft_X1 rfl rfl rfl (fun _ h9 => by cases h9; exact ⟨rfl, rfl⟩) rfl rfl rfl rfl ?_
  refine ax_aload_n (pc := 12) (i := 0) (q := 0) (ax_dd KX1_init 6 rfl) rfl rfl ?_
  refine ax_bipush (pc := 13) (v := 6) (ax_dd KX1_init 7 rfl) (by decide) ?_
  refine ax_newa (pc := 15) (t := 0) (N := 6) (k := 41) (sh' := sh_42_20) (ax_dd KX1_init 8 rfl) (Or.inl ⟨rfl, rfl⟩) (by decide) rfl (by decide) na_0 rfl rfl ?_
  refine ax_putR (pc := 17) (k := 39) (q := 41) (sh' := sh_42_21) (ax_dd KX1_init 9 rfl) f_X1_15 ft_X1 rfl rfl rfl (fun _ h9 => by cases h9; exact ⟨rfl, rfl⟩) rfl rfl rfl rfl ?_
  refine ax_aload_n (pc := 20) (i := 0) (q := 0) (ax_dd KX1_init 10 rfl) rfl rfl ?_
  refine ax_bipush (pc := 21) (v := 6) (ax_dd KX1_init 11 rfl) (by decide) ?_
  refine ax_newa (pc := 23) (t := 0) (N := 6) (k := 42) (sh' := sh_43_22) (ax_dd KX1_init 12 rfl) (Or.inl ⟨rfl, rfl⟩) (by decide) rfl (by decide) na_0 rfl rfl ?_
  refine ax_putR (pc := 25) (k := 39) (q := 42) (sh' := sh_43_23) (ax_dd KX1_init 13 rfl) f_X1_18 ft_X1 rfl rfl rfl (fun _ h9 => by cases h9; exact ⟨rfl, rfl⟩) rfl rfl rfl rfl ?_
  obtain rfl := Option.some.inj h
  exact ax_vret (pc := 28) (ax_dd KX1_init 14 rfl) rfl rfl
def m_X2_init (μ : ax_M) : Option (ax_M) :=
  some μ
set_option maxRecDepth 100000 in
set_option maxHeartbeats 8000000 in
theorem c_X2_init {G : ax_G} {l : Launch} {μ : ax_M} {v : ax_M} (h : m_X2_init μ = some v) : ax_A G l yX2_init cX2_init 2 none 2 [.ref (G.1 + 38), .ref (G.1 + 25)] sh_39_26 μ (none, sh_39_25, v) := by
  refine ax_A.of true (by decide +kernel) (fun _ => rfl) (Nat.le_of_ble_eq_true rfl) (?_ : ax_X G l RX2 cX2_init 2 none true 2 (none, sh_39_25, v) 0 [(0, .ref (G.1 + 38)), (1, .ref (G.1 + 25))] [] sh_39_26 μ)
  unfold m_X2_init at h
  refine ax_aload_n (pc := 0) (i := 0) (q := 0) (ax_dd KX2_init 0 rfl) rfl rfl ?_
  refine ax_objInit (pc := 1) (ax_dd KX2_init 1 rfl) oi_X2_3 (by decide) (Nat.le_of_ble_eq_true rfl) ?_
  refine ax_aload_n (pc := 4) (i := 0) (q := 0) (ax_dd KX2_init 2 rfl) rfl rfl ?_
  refine ax_aload_n (pc := 5) (i := 1) (q := 1) (ax_dd KX2_init 3 rfl) rfl rfl ?_
  refine ax_putR (pc := 6) (k := 38) (q := 25) (sh' := sh_39_25) (ax_dd KX2_init 4 rfl) f_X2_9 ft_X2 rfl rfl rfl (fun _ h9 => by cases h9; exact ⟨rfl, rfl⟩) rfl rfl rfl rfl ?_
  obtain rfl := Option.some.inj h
  exact ax_vret (pc := 9) (ax_dd KX2_init 5 rfl) rfl rfl
def m_X3_init (μ : ax_M) : Option (ax_M) :=
  some (ax_z (ax_z μ 23) 24)
set_option maxRecDepth 100000 in
set_option maxHeartbeats 8000000 in
theorem c_X3_init {G : ax_G} {l : Launch} {μ : ax_M} {v : ax_M} (h : m_X3_init μ = some v) : ax_A G l yX3_init cX3_init 2 none 2 [.ref (G.1 + 22), .ref (G.1 + 18)] sh_23_32 μ (none, sh_25_31, v) := by
  refine ax_A.of true (by decide +kernel) (fun _ => rfl) (Nat.le_of_ble_eq_true rfl) (?_ : ax_X G l RX3 cX3_init 2 none true 2 (none, sh_25_31, v) 0 [(0, .ref (G.1 + 22)), (1, .ref (G.1 + 18))] [] sh_23_32 μ)
  unfold m_X3_init at h
  refine ax_aload_n (pc := 0) (i := 0) (q := 0) (ax_dd KX3_init 0 rfl) rfl rfl ?_
  refine ax_objInit (pc := 1) (ax_dd KX3_init 1 rfl) oi_X3_3 (by decide) (Nat.le_of_ble_eq_true rfl) ?_
  refine ax_aload_n (pc := 4) (i := 0) (q := 0) (ax_dd KX3_init 2 rfl) rfl rfl ?_
  refine ax_sipush (pc := 5) (v := 160) (ax_dd KX3_init 3 rfl) (by decide) ?_
  refine ax_newa (pc := 8) (t := 0) (N := 160) (k := 23) (sh' := sh_24_27) (ax_dd KX3_init 4 rfl) (Or.inl ⟨rfl, rfl⟩) (by decide) rfl (by decide) na_0 rfl rfl ?_
  refine ax_putR (pc := 10) (k := 22) (q := 23) (sh' := sh_24_28) (ax_dd KX3_init 5 rfl) f_X3_9 ft_X3 rfl rfl rfl (fun _ h9 => by cases h9; exact ⟨rfl, rfl⟩) rfl rfl rfl rfl ?_
  refine ax_aload_n (pc := 13) (i := 0) (q := 0) (ax_dd KX3_init 6 rfl) rfl rfl ?_
  refine ax_iconst (pc := 14) (v := 3) (ax_dd KX3_init 7 rfl) (by decide) ?_
  refine ax_newa (pc := 15) (t := 0) (N := 3) (k := 24) (sh' := sh_25_29) (ax_dd KX3_init 8 rfl) (Or.inl ⟨rfl, rfl⟩) (by decide) rfl (by decide) na_0 rfl rfl ?_
  refine ax_putR (pc := 17) (k := 22) (q := 24) (sh' := sh_25_30) (ax_dd KX3_init 9 rfl) f_X3_15 ft_X3 rfl rfl rfl (fun _ h9 => by cases h9; exact ⟨rfl, rfl⟩) rfl rfl rfl rfl ?_
  refine ax_aload_n (pc := 20) (i := 0) (q := 0) (ax_dd KX3_init 10 rfl) rfl rfl ?_
  refine ax_aload_n (pc := 21) (i := 1) (q := 1) (ax_dd KX3_init 11 rfl) rfl rfl ?_
  refine ax_putR (pc := 22) (k := 22) (q := 18) (sh' := sh_25_31) (ax_dd KX3_init 12 rfl) f_X3_18 ft_X3 rfl rfl rfl (fun _ h9 => by cases h9; exact ⟨rfl, rfl⟩) rfl rfl rfl rfl ?_
  obtain rfl := Option.some.inj h
  exact ax_vret (pc := 25) (ax_dd KX3_init 13 rfl) rfl rfl
def m_X4_init_31 : Nat → Int32 → ax_M → Option (ax_M)
  | 0, _, _ => none
  | n + 1, x1, μ =>
    if 4 ≤ x1 then
      some μ
    else
      (ix 4 x1).bind fun j2 =>
      m_X4_init_31 n (x1 + 1) (ax_w μ 49 j2 (-1))
set_option maxRecDepth 100000 in
set_option maxHeartbeats 8000000 in
theorem a_X4_init_31 {G : ax_G} {l : Launch} : ∀ (n : Nat) (x1 : Int32) (μ : ax_M) (v : ax_M), m_X4_init_31 n x1 μ = some v → ax_X G l RX4 cX4_init 2 none true 2 (none, sh_51_33, v) 31 [(0, .ref (G.1 + 43)), (1, .int x1)] [] sh_51_33 μ := by
  intro n
  induction n with
  | zero =>
    intro x1 μ v h
    rw [m_X4_init_31] at h
    cases h
  | succ n ih =>
    intro x1 μ v h
    rw [m_X4_init_31] at h
    refine ax_iload_n (pc := 31) (i := 1) (q := 1) (ax_dd KX4_init 17 rfl) rfl rfl ?_
    refine ax_iconst (pc := 32) (v := 4) (ax_dd KX4_init 18 rfl) (by decide) ?_
    by_cases c1 : 4 ≤ x1
    · rw [if_pos c1] at h
      refine ax_icmp_ge_t (pc := 33) (tgt := 49) (ax_dd KX4_init 19 rfl) (by decide) c1 ?_
      obtain rfl := Option.some.inj h
      exact ax_vret (pc := 49) (ax_dd KX4_init 27 rfl) rfl rfl
    · rw [if_neg c1] at h
      refine ax_icmp_ge_f (pc := 33) (tgt := 49) (ax_dd KX4_init 19 rfl) (by decide) c1 ?_
      refine ax_aload_n (pc := 36) (i := 0) (q := 0) (ax_dd KX4_init 20 rfl) rfl rfl ?_
      refine ax_getR (pc := 37) (k := 43) (q := 49) (ax_dd KX4_init 21 rfl) f_X4_16 rfl rfl ?_
      refine ax_iload_n (pc := 40) (i := 1) (q := 1) (ax_dd KX4_init 22 rfl) rfl rfl ?_
      refine ax_iconst (pc := 41) (v := (-1)) (ax_dd KX4_init 23 rfl) (by decide) ?_
      obtain ⟨j2, b3, h⟩ := ob_bind h
      refine ax_ist (pc := 42) (k := 49) (N := 4) (j := j2) (ax_dd KX4_init 24 rfl) rfl b3 ?_
      refine ax_iinc (pc := 43) (q := 1) (v := (x1 + 1)) (lv' := [(1, .int (x1 + 1)), (0, .ref (G.1 + 43))]) (ax_dd KX4_init 25 rfl) rfl rfl (by decide) rfl ?_
      refine ax_goto (pc := 46) (tgt := 31) (ax_dd KX4_init 26 rfl) (by decide) ?_
      refine ax_sub (lv' := [(0, .ref (G.1 + 43)), (1, .int (x1 + 1))]) [1, 0] rfl ?_
      exact ih _ _ _ h
def m_X4_init (μ : ax_M) : Option (ax_M) :=
  m_X4_init_31 fu 0 (ax_z (ax_z (ax_zz μ 44 5) 49) 50)
set_option maxRecDepth 100000 in
set_option maxHeartbeats 8000000 in
theorem c_X4_init {G : ax_G} {l : Launch} {μ : ax_M} {v : ax_M} (h : m_X4_init μ = some v) : ax_A G l yX4_init cX4_init 2 none 2 [.ref (G.1 + 43)] sh_44_39 μ (none, sh_51_33, v) := by
  refine ax_A.of true (by decide +kernel) (fun _ => rfl) (Nat.le_of_ble_eq_true rfl) (?_ : ax_X G l RX4 cX4_init 2 none true 2 (none, sh_51_33, v) 0 [(0, .ref (G.1 + 43))] [] sh_44_39 μ)
  unfold m_X4_init at h
  refine ax_aload_n (pc := 0) (i := 0) (q := 0) (ax_dd KX4_init 0 rfl) rfl rfl ?_
  refine ax_objInit (pc := 1) (ax_dd KX4_init 1 rfl) oi_X4_3 (by decide) (Nat.le_of_ble_eq_true rfl) ?_
  refine ax_aload_n (pc := 4) (i := 0) (q := 0) (ax_dd KX4_init 2 rfl) rfl rfl ?_
  refine ax_iconst (pc := 5) (v := 4) (ax_dd KX4_init 3 rfl) (by decide) ?_
  refine ax_bipush (pc := 6) (v := 40) (ax_dd KX4_init 4 rfl) (by decide) ?_
  refine ax_mna (pc := 8) (k := 44) (N := 4) (M := 40) (sh' := sh_49_34) (ax_dd KX4_init 5 rfl) ma_X4_9 (by decide) (by decide) rfl rfl (by decide) (by decide) rfl rfl ?_
  refine ax_putR (pc := 12) (k := 43) (q := 44) (sh' := sh_49_35) (ax_dd KX4_init 6 rfl) f_X4_11 ft_X4 rfl rfl rfl (fun _ h9 => by cases h9; exact ⟨rfl, rfl⟩) rfl rfl rfl rfl ?_
  refine ax_aload_n (pc := 15) (i := 0) (q := 0) (ax_dd KX4_init 7 rfl) rfl rfl ?_
  refine ax_iconst (pc := 16) (v := 4) (ax_dd KX4_init 8 rfl) (by decide) ?_
  refine ax_newa (pc := 17) (t := 0) (N := 4) (k := 49) (sh' := sh_50_36) (ax_dd KX4_init 9 rfl) (Or.inl ⟨rfl, rfl⟩) (by decide) rfl (by decide) na_0 rfl rfl ?_
  refine ax_putR (pc := 19) (k := 43) (q := 49) (sh' := sh_50_37) (ax_dd KX4_init 10 rfl) f_X4_16 ft_X4 rfl rfl rfl (fun _ h9 => by cases h9; exact ⟨rfl, rfl⟩) rfl rfl rfl rfl ?_
  refine ax_aload_n (pc := 22) (i := 0) (q := 0) (ax_dd KX4_init 11 rfl) rfl rfl ?_
  refine ax_iconst (pc := 23) (v := 4) (ax_dd KX4_init 12 rfl) (by decide) ?_
  refine ax_newa (pc := 24) (t := 0) (N := 4) (k := 50) (sh' := sh_51_38) (ax_dd KX4_init 13 rfl) (Or.inl ⟨rfl, rfl⟩) (by decide) rfl (by decide) na_0 rfl rfl ?_
  refine ax_putR (pc := 26) (k := 43) (q := 50) (sh' := sh_51_33) (ax_dd KX4_init 14 rfl) f_X4_20 ft_X4 rfl rfl rfl (fun _ h9 => by cases h9; exact ⟨rfl, rfl⟩) rfl rfl rfl rfl ?_
  refine ax_iconst (pc := 29) (v := 0) (ax_dd KX4_init 15 rfl) (by decide) ?_
  refine ax_istore_n (pc := 30) (i := 1) (lv' := [(1, .int 0), (0, .ref (G.1 + 43))]) (ax_dd KX4_init 16 rfl) rfl (by decide) rfl ?_
  refine ax_sub (lv' := [(0, .ref (G.1 + 43)), (1, .int 0)]) [1, 0] rfl ?_
  exact a_X4_init_31 fu _ _ _ h
def m_X5_init (μ : ax_M) : Option (ax_M) :=
  some μ
set_option maxRecDepth 100000 in
set_option maxHeartbeats 8000000 in
theorem c_X5_init {G : ax_G} {l : Launch} {μ : ax_M} {v : ax_M} (h : m_X5_init μ = some v) : ax_A G l yX5_init cX5_init 2 none 2 [.ref (G.1 + 34), .ref (G.1 + 25)] sh_35_41 μ (none, sh_35_40, v) := by
  refine ax_A.of true (by decide +kernel) (fun _ => rfl) (Nat.le_of_ble_eq_true rfl) (?_ : ax_X G l RX5 cX5_init 2 none true 2 (none, sh_35_40, v) 0 [(0, .ref (G.1 + 34)), (1, .ref (G.1 + 25))] [] sh_35_41 μ)
  unfold m_X5_init at h
  refine ax_aload_n (pc := 0) (i := 0) (q := 0) (ax_dd KX5_init 0 rfl) rfl rfl ?_
  refine ax_objInit (pc := 1) (ax_dd KX5_init 1 rfl) oi_X5_3 (by decide) (Nat.le_of_ble_eq_true rfl) ?_
  refine ax_aload_n (pc := 4) (i := 0) (q := 0) (ax_dd KX5_init 2 rfl) rfl rfl ?_
  refine ax_aload_n (pc := 5) (i := 1) (q := 1) (ax_dd KX5_init 3 rfl) rfl rfl ?_
  refine ax_putR (pc := 6) (k := 34) (q := 25) (sh' := sh_35_40) (ax_dd KX5_init 4 rfl) f_X5_9 ft_X5 rfl rfl rfl (fun _ h9 => by cases h9; exact ⟨rfl, rfl⟩) rfl rfl rfl rfl ?_
  obtain rfl := Option.some.inj h
  exact ax_vret (pc := 9) (ax_dd KX5_init 5 rfl) rfl rfl
def m_X6_init (μ : ax_M) : Option (ax_M) :=
  some (ax_z (ax_z (ax_z μ 19) 20) 21)
set_option maxRecDepth 100000 in
set_option maxHeartbeats 8000000 in
theorem c_X6_init {G : ax_G} {l : Launch} {μ : ax_M} {v : ax_M} (h : m_X6_init μ = some v) : ax_A G l yX6_init cX6_init 1 none 2 [.ref (G.1 + 18)] sh_19_48 μ (none, sh_22_47, v) := by
  refine ax_A.of true (by decide +kernel) (fun _ => rfl) (Nat.le_of_ble_eq_true rfl) (?_ : ax_X G l RX6 cX6_init 1 none true 2 (none, sh_22_47, v) 0 [(0, .ref (G.1 + 18))] [] sh_19_48 μ)
  unfold m_X6_init at h
  refine ax_aload_n (pc := 0) (i := 0) (q := 0) (ax_dd KX6_init 0 rfl) rfl rfl ?_
  refine ax_objInit (pc := 1) (ax_dd KX6_init 1 rfl) oi_X6_3 (by decide) (Nat.le_of_ble_eq_true rfl) ?_
  refine ax_aload_n (pc := 4) (i := 0) (q := 0) (ax_dd KX6_init 2 rfl) rfl rfl ?_
  refine ax_sipush (pc := 5) (v := 160) (ax_dd KX6_init 3 rfl) (by decide) ?_
  refine ax_newa (pc := 8) (t := 0) (N := 160) (k := 19) (sh' := sh_20_42) (ax_dd KX6_init 4 rfl) (Or.inl ⟨rfl, rfl⟩) (by decide) rfl (by decide) na_0 rfl rfl ?_
  refine ax_putR (pc := 10) (k := 18) (q := 19) (sh' := sh_20_43) (ax_dd KX6_init 5 rfl) f_X6_9 ft_X6 rfl rfl rfl (fun _ h9 => by cases h9; exact ⟨rfl, rfl⟩) rfl rfl rfl rfl ?_
  refine ax_aload_n (pc := 13) (i := 0) (q := 0) (ax_dd KX6_init 6 rfl) rfl rfl ?_
  refine ax_sipush (pc := 14) (v := 161) (ax_dd KX6_init 7 rfl) (by decide) ?_
  refine ax_newa (pc := 17) (t := 0) (N := 161) (k := 20) (sh' := sh_21_44) (ax_dd KX6_init 8 rfl) (Or.inl ⟨rfl, rfl⟩) (by decide) rfl (by decide) na_0 rfl rfl ?_
  refine ax_putR (pc := 19) (k := 18) (q := 20) (sh' := sh_21_45) (ax_dd KX6_init 9 rfl) f_X6_15 ft_X6 rfl rfl rfl (fun _ h9 => by cases h9; exact ⟨rfl, rfl⟩) rfl rfl rfl rfl ?_
  refine ax_aload_n (pc := 22) (i := 0) (q := 0) (ax_dd KX6_init 10 rfl) rfl rfl ?_
  refine ax_sipush (pc := 23) (v := 161) (ax_dd KX6_init 11 rfl) (by decide) ?_
  refine ax_newa (pc := 26) (t := 0) (N := 161) (k := 21) (sh' := sh_22_46) (ax_dd KX6_init 12 rfl) (Or.inl ⟨rfl, rfl⟩) (by decide) rfl (by decide) na_0 rfl rfl ?_
  refine ax_putR (pc := 28) (k := 18) (q := 21) (sh' := sh_22_47) (ax_dd KX6_init 13 rfl) f_X6_18 ft_X6 rfl rfl rfl (fun _ h9 => by cases h9; exact ⟨rfl, rfl⟩) rfl rfl rfl rfl ?_
  obtain rfl := Option.some.inj h
  exact ax_vret (pc := 31) (ax_dd KX6_init 14 rfl) rfl rfl
def m_X7_init (μ : ax_M) : Option (ax_M) :=
  some (ax_z (ax_z (ax_zz (ax_zz μ 2 7) 9 7) 16) 17)
set_option maxRecDepth 100000 in
set_option maxHeartbeats 8000000 in
theorem c_X7_init {G : ax_G} {l : Launch} {μ : ax_M} {v : ax_M} (h : m_X7_init μ = some v) : ax_A G l yX7_init cX7_init 1 none 2 [.ref (G.1 + 1)] sh_2_57 μ (none, sh_18_56, v) := by
  refine ax_A.of true (by decide +kernel) (fun _ => rfl) (Nat.le_of_ble_eq_true rfl) (?_ : ax_X G l RX7 cX7_init 1 none true 2 (none, sh_18_56, v) 0 [(0, .ref (G.1 + 1))] [] sh_2_57 μ)
  unfold m_X7_init at h
  refine ax_aload_n (pc := 0) (i := 0) (q := 0) (ax_dd KX7_init 0 rfl) rfl rfl ?_
  refine ax_objInit (pc := 1) (ax_dd KX7_init 1 rfl) oi_X7_3 (by decide) (Nat.le_of_ble_eq_true rfl) ?_
  refine ax_aload_n (pc := 4) (i := 0) (q := 0) (ax_dd KX7_init 2 rfl) rfl rfl ?_
  refine ax_bipush (pc := 5) (v := 6) (ax_dd KX7_init 3 rfl) (by decide) ?_
  refine ax_sipush (pc := 7) (v := 160) (ax_dd KX7_init 4 rfl) (by decide) ?_
  refine ax_mna (pc := 10) (k := 2) (N := 6) (M := 160) (sh' := sh_9_49) (ax_dd KX7_init 5 rfl) ma_X7_9 (by decide) (by decide) rfl rfl (by decide) (by decide) rfl rfl ?_
  refine ax_putR (pc := 14) (k := 1) (q := 2) (sh' := sh_9_50) (ax_dd KX7_init 6 rfl) f_X7_11 ft_X7 rfl rfl rfl (fun _ h9 => by cases h9; exact ⟨rfl, rfl⟩) rfl rfl rfl rfl ?_
  refine ax_aload_n (pc := 17) (i := 0) (q := 0) (ax_dd KX7_init 7 rfl) rfl rfl ?_
  refine ax_bipush (pc := 18) (v := 6) (ax_dd KX7_init 8 rfl) (by decide) ?_
  refine ax_iconst (pc := 20) (v := 3) (ax_dd KX7_init 9 rfl) (by decide) ?_
  refine ax_mna (pc := 21) (k := 9) (N := 6) (M := 3) (sh' := sh_16_51) (ax_dd KX7_init 10 rfl) ma_X7_9 (by decide) (by decide) rfl rfl (by decide) (by decide) rfl rfl ?_
  refine ax_putR (pc := 25) (k := 1) (q := 9) (sh' := sh_16_52) (ax_dd KX7_init 11 rfl) f_X7_16 ft_X7 rfl rfl rfl (fun _ h9 => by cases h9; exact ⟨rfl, rfl⟩) rfl rfl rfl rfl ?_
  refine ax_aload_n (pc := 28) (i := 0) (q := 0) (ax_dd KX7_init 12 rfl) rfl rfl ?_
  refine ax_bipush (pc := 29) (v := 6) (ax_dd KX7_init 13 rfl) (by decide) ?_
  refine ax_newa (pc := 31) (t := 0) (N := 6) (k := 16) (sh' := sh_17_53) (ax_dd KX7_init 14 rfl) (Or.inl ⟨rfl, rfl⟩) (by decide) rfl (by decide) na_0 rfl rfl ?_
  refine ax_putR (pc := 33) (k := 1) (q := 16) (sh' := sh_17_54) (ax_dd KX7_init 15 rfl) f_X7_19 ft_X7 rfl rfl rfl (fun _ h9 => by cases h9; exact ⟨rfl, rfl⟩) rfl rfl rfl rfl ?_
  refine ax_aload_n (pc := 36) (i := 0) (q := 0) (ax_dd KX7_init 16 rfl) rfl rfl ?_
  refine ax_sipush (pc := 37) (v := 160) (ax_dd KX7_init 17 rfl) (by decide) ?_
  refine ax_newa (pc := 40) (t := 0) (N := 160) (k := 17) (sh' := sh_18_55) (ax_dd KX7_init 18 rfl) (Or.inl ⟨rfl, rfl⟩) (by decide) rfl (by decide) na_0 rfl rfl ?_
  refine ax_putR (pc := 42) (k := 1) (q := 17) (sh' := sh_18_56) (ax_dd KX7_init 19 rfl) f_X7_23 ft_X7 rfl rfl rfl (fun _ h9 => by cases h9; exact ⟨rfl, rfl⟩) rfl rfl rfl rfl ?_
  obtain rfl := Option.some.inj h
  exact ax_vret (pc := 45) (ax_dd KX7_init 20 rfl) rfl rfl
def m_X8_init (μ : ax_M) : Option (ax_M) :=
  some (ax_z (ax_z μ 36) 37)
set_option maxRecDepth 100000 in
set_option maxHeartbeats 8000000 in
theorem c_X8_init {G : ax_G} {l : Launch} {μ : ax_M} {v : ax_M} (h : m_X8_init μ = some v) : ax_A G l yX8_init cX8_init 2 none 2 [.ref (G.1 + 35), .ref (G.1 + 25)] sh_36_63 μ (none, sh_38_62, v) := by
  refine ax_A.of true (by decide +kernel) (fun _ => rfl) (Nat.le_of_ble_eq_true rfl) (?_ : ax_X G l RX8 cX8_init 2 none true 2 (none, sh_38_62, v) 0 [(0, .ref (G.1 + 35)), (1, .ref (G.1 + 25))] [] sh_36_63 μ)
  unfold m_X8_init at h
  refine ax_aload_n (pc := 0) (i := 0) (q := 0) (ax_dd KX8_init 0 rfl) rfl rfl ?_
  refine ax_objInit (pc := 1) (ax_dd KX8_init 1 rfl) oi_X8_3 (by decide) (Nat.le_of_ble_eq_true rfl) ?_
  refine ax_aload_n (pc := 4) (i := 0) (q := 0) (ax_dd KX8_init 2 rfl) rfl rfl ?_
  refine ax_bipush (pc := 5) (v := 36) (ax_dd KX8_init 3 rfl) (by decide) ?_
  refine ax_newa (pc := 7) (t := 1) (N := 36) (k := 36) (sh' := sh_37_58) (ax_dd KX8_init 4 rfl) (Or.inr ⟨rfl, rfl⟩) (by decide) rfl (by decide) na_1 rfl rfl ?_
  refine ax_putR (pc := 9) (k := 35) (q := 36) (sh' := sh_37_59) (ax_dd KX8_init 5 rfl) f_X8_9 ft_X8 rfl rfl rfl (fun _ h9 => by cases h9; exact ⟨rfl, rfl⟩) rfl rfl rfl rfl ?_
  refine ax_aload_n (pc := 12) (i := 0) (q := 0) (ax_dd KX8_init 6 rfl) rfl rfl ?_
  refine ax_bipush (pc := 13) (v := 36) (ax_dd KX8_init 7 rfl) (by decide) ?_
  refine ax_newa (pc := 15) (t := 0) (N := 36) (k := 37) (sh' := sh_38_60) (ax_dd KX8_init 8 rfl) (Or.inl ⟨rfl, rfl⟩) (by decide) rfl (by decide) na_0 rfl rfl ?_
  refine ax_putR (pc := 17) (k := 35) (q := 37) (sh' := sh_38_61) (ax_dd KX8_init 9 rfl) f_X8_15 ft_X8 rfl rfl rfl (fun _ h9 => by cases h9; exact ⟨rfl, rfl⟩) rfl rfl rfl rfl ?_
  refine ax_aload_n (pc := 20) (i := 0) (q := 0) (ax_dd KX8_init 10 rfl) rfl rfl ?_
  refine ax_aload_n (pc := 21) (i := 1) (q := 1) (ax_dd KX8_init 11 rfl) rfl rfl ?_
  refine ax_putR (pc := 22) (k := 35) (q := 25) (sh' := sh_38_62) (ax_dd KX8_init 12 rfl) f_X8_19 ft_X8 rfl rfl rfl (fun _ h9 => by cases h9; exact ⟨rfl, rfl⟩) rfl rfl rfl rfl ?_
  obtain rfl := Option.some.inj h
  exact ax_vret (pc := 25) (ax_dd KX8_init 13 rfl) rfl rfl
def m_X9_init_125 : Nat → Int32 → ax_M → Option (ax_M)
  | 0, _, _ => none
  | n + 1, x1, μ =>
    (m_J0_length_8abf5 0).bind fun v1 =>
    if v1 ≤ x1 then
      bind2 (m_X9_readTape μ) fun v4 μ6 =>
      some μ6
    else
      (m_J0_charAt_5068e 0 x1).bind fun v7 =>
      (m_X6_add v7 μ).bind fun μ11 =>
      m_X9_init_125 n (x1 + 1) μ11
set_option maxRecDepth 100000 in
set_option maxHeartbeats 8000000 in
theorem a_X9_init_125 {G : ax_G} {l : Launch} : ∀ (n : Nat) (x1 : Int32) (μ : ax_M) (v : ax_M), m_X9_init_125 n x1 μ = some v → ax_X G l RX9 cX9_init 2 none true 123 (none, SHc, v) 125 [(0, .ref (G.1 + 0)), (1, .int x1)] [] SHc μ := by
  intro n
  induction n with
  | zero =>
    intro x1 μ v h
    rw [m_X9_init_125] at h
    cases h
  | succ n ih =>
    intro x1 μ v h
    rw [m_X9_init_125] at h
    refine ax_iload_n (pc := 125) (i := 1) (q := 1) (ax_dd KX9_init 59 rfl) rfl rfl ?_
    refine ax_ldcS (pc := 126) (i := 0) (ax_dd KX9_init 60 rfl) rfl rfl rfl ?_
    obtain ⟨v1, b2, h⟩ := ob_bind h
    refine ax_kVS (pc := 128) (i := 0) (As := []) (rest := [.int x1]) (st1 := [.int v1, .int x1]) (μ1 := μ) (ax_dd KX9_init 61 rfl) (c_J0_length_8abf5 (by decide) b2) (by decide) kV_X9_80 e_J0_length_8abf5 rfl rfl rfl (by decide) (by decide) (Nat.le_of_ble_eq_true rfl) rfl ?_
    by_cases c3 : v1 ≤ x1
    · rw [if_pos c3] at h
      refine ax_icmp_ge_t (pc := 131) (tgt := 153) (ax_dd KX9_init 62 rfl) (by decide) c3 ?_
      refine ax_aload_n (pc := 153) (i := 0) (q := 0) (ax_dd KX9_init 71 rfl) rfl rfl ?_
      obtain ⟨v4, μ6, b5, h⟩ := ob_bind2 h
      refine ax_kV (pc := 154) (ci := 9) (k := 0) (As := []) (rest := []) (st1 := [.int v4]) (μ1 := μ6) (ax_dd KX9_init 72 rfl) (c_X9_readTape (fun _ _ h => h) b5) kV_X9_94 e_X9_readTape rfl cl_X9 (by decide) rfl rfl (by decide) (by decide) (Nat.le_of_ble_eq_true rfl) rfl ?_
      refine ax_pop (pc := 157) (ax_dd KX9_init 73 rfl) rfl ?_
      obtain rfl := Option.some.inj h
      exact ax_vret (pc := 158) (ax_dd KX9_init 74 rfl) rfl rfl
    · rw [if_neg c3] at h
      refine ax_icmp_ge_f (pc := 131) (tgt := 153) (ax_dd KX9_init 62 rfl) (by decide) c3 ?_
      refine ax_aload_n (pc := 134) (i := 0) (q := 0) (ax_dd KX9_init 63 rfl) rfl rfl ?_
      refine ax_getR (pc := 135) (k := 0) (q := 18) (ax_dd KX9_init 64 rfl) f_X9_19 rfl rfl ?_
      refine ax_ldcS (pc := 138) (i := 0) (ax_dd KX9_init 65 rfl) rfl rfl rfl ?_
      refine ax_iload_n (pc := 140) (i := 1) (q := 1) (ax_dd KX9_init 66 rfl) rfl rfl ?_
      obtain ⟨v7, b8, h⟩ := ob_bind h
      refine ax_kVS (pc := 141) (i := 0) (As := [.int x1]) (rest := [.ref (G.1 + 18)]) (st1 := [.int v7, .ref (G.1 + 18)]) (μ1 := μ) (ax_dd KX9_init 67 rfl) (c_J0_charAt_5068e (by decide) b8) (by decide) kV_X9_86 e_J0_charAt_5068e rfl rfl rfl (by decide) (by decide) (Nat.le_of_ble_eq_true rfl) rfl ?_
      obtain ⟨μ11, b10, h⟩ := ob_bind h
      refine ax_kV (pc := 144) (ci := 6) (k := 18) (As := [.int v7]) (rest := []) (st1 := []) (μ1 := μ11) (ax_dd KX9_init 68 rfl) (c_X6_add (fun _ _ h => h) b10) kV_X9_90 e_X6_add rfl cl_X6 (by decide) rfl rfl (by decide) (by decide) (Nat.le_of_ble_eq_true rfl) rfl ?_
      refine ax_iinc (pc := 147) (q := 1) (v := (x1 + 1)) (lv' := [(1, .int (x1 + 1)), (0, .ref (G.1 + 0))]) (ax_dd KX9_init 69 rfl) rfl rfl (by decide) rfl ?_
      refine ax_goto (pc := 150) (tgt := 125) (ax_dd KX9_init 70 rfl) (by decide) ?_
      refine ax_sub (lv' := [(0, .ref (G.1 + 0)), (1, .int (x1 + 1))]) [1, 0] rfl ?_
      exact ih _ _ _ h
def m_X9_init (μ : ax_M) : Option (ax_M) :=
  (m_X7_init (ax_z μ 1)).bind fun μ3 =>
  (m_X6_init (ax_z μ3 18)).bind fun μ6 =>
  (m_X3_init (ax_z μ6 22)).bind fun μ9 =>
  (m_X0_init (ax_z μ9 25)).bind fun μ12 =>
  (m_X5_init (ax_z μ12 34)).bind fun μ15 =>
  (m_X8_init (ax_z μ15 35)).bind fun μ18 =>
  (m_X2_init (ax_z μ18 38)).bind fun μ21 =>
  (m_X1_init (ax_z μ21 39)).bind fun μ24 =>
  (m_X4_init (ax_z μ24 43)).bind fun μ27 =>
  m_X9_init_125 fu 0 μ27
set_option maxRecDepth 100000 in
set_option maxHeartbeats 8000000 in
theorem c_X9_init {G : ax_G} {l : Launch} {μ : ax_M} {v : ax_M} (h : m_X9_init μ = some v) : ax_A G l yX9_init cX9_init 2 none 123 [.ref (G.1 + 0)] sh_1_72 μ (none, SHc, v) := by
  refine ax_A.of true (by decide +kernel) (fun _ => rfl) (Nat.le_of_ble_eq_true rfl) (?_ : ax_X G l RX9 cX9_init 2 none true 123 (none, SHc, v) 0 [(0, .ref (G.1 + 0))] [] sh_1_72 μ)
  unfold m_X9_init at h
  refine ax_aload_n (pc := 0) (i := 0) (q := 0) (ax_dd KX9_init 0 rfl) rfl rfl ?_
  refine ax_objInit (pc := 1) (ax_dd KX9_init 1 rfl) oi_X9_1 (by decide) (Nat.le_of_ble_eq_true rfl) ?_
  refine ax_aload_n (pc := 4) (i := 0) (q := 0) (ax_dd KX9_init 2 rfl) rfl rfl ?_
  refine ax_new (pc := 5) (ci := 7) (fs := [none, some none, some none, some none, some none]) (k := 1) (sh' := sh_2_57) (ax_dd KX9_init 3 rfl) rfl nw_X9_7 in_X7 tyX7_ok rfl rfl rfl rfl ?_
  refine ax_dup (pc := 8) (ax_dd KX9_init 4 rfl) rfl ?_
  obtain ⟨μ3, b2, h⟩ := ob_bind h
  refine ax_kIN (pc := 9) (i := 0) (As := []) (rest := [.ref (G.1 + 1), .ref (G.1 + 0)]) (st1 := [.ref (G.1 + 1), .ref (G.1 + 0)]) (μ1 := μ3) (ax_dd KX9_init 5 rfl) (c_X7_init b2) kJ_X9_9 rfl e_X7_init rfl rfl rfl (by decide) (by decide) (Nat.le_of_ble_eq_true rfl) rfl ?_
  refine ax_putR (pc := 12) (k := 0) (q := 1) (sh' := sh_18_64) (ax_dd KX9_init 6 rfl) f_X9_10 ft_X9 rfl rfl rfl (fun _ h9 => by cases h9; exact ⟨rfl, rfl⟩) rfl rfl rfl rfl ?_
  refine ax_aload_n (pc := 15) (i := 0) (q := 0) (ax_dd KX9_init 7 rfl) rfl rfl ?_
  refine ax_new (pc := 16) (ci := 6) (fs := [some none, none, some none, some none, none]) (k := 18) (sh' := sh_19_48) (ax_dd KX9_init 8 rfl) rfl nw_X9_16 in_X6 tyX6_ok rfl rfl rfl rfl ?_
  refine ax_dup (pc := 19) (ax_dd KX9_init 9 rfl) rfl ?_
  obtain ⟨μ6, b5, h⟩ := ob_bind h
  refine ax_kIN (pc := 20) (i := 1) (As := []) (rest := [.ref (G.1 + 18), .ref (G.1 + 0)]) (st1 := [.ref (G.1 + 18), .ref (G.1 + 0)]) (μ1 := μ6) (ax_dd KX9_init 10 rfl) (c_X6_init b5) kJ_X9_18 rfl e_X6_init rfl rfl rfl (by decide) (by decide) (Nat.le_of_ble_eq_true rfl) rfl ?_
  refine ax_putR (pc := 23) (k := 0) (q := 18) (sh' := sh_22_65) (ax_dd KX9_init 11 rfl) f_X9_19 ft_X9 rfl rfl rfl (fun _ h9 => by cases h9; exact ⟨rfl, rfl⟩) rfl rfl rfl rfl ?_
  refine ax_aload_n (pc := 26) (i := 0) (q := 0) (ax_dd KX9_init 12 rfl) rfl rfl ?_
  refine ax_new (pc := 27) (ci := 3) (fs := [some none, some none, some none, none, none, none]) (k := 22) (sh' := sh_23_32) (ax_dd KX9_init 13 rfl) rfl nw_X9_23 in_X3 tyX3_ok rfl rfl rfl rfl ?_
  refine ax_dup (pc := 30) (ax_dd KX9_init 14 rfl) rfl ?_
  refine ax_aload_n (pc := 31) (i := 0) (q := 0) (ax_dd KX9_init 15 rfl) rfl rfl ?_
  refine ax_getR (pc := 32) (k := 0) (q := 18) (ax_dd KX9_init 16 rfl) f_X9_19 rfl rfl ?_
  obtain ⟨μ9, b8, h⟩ := ob_bind h
  refine ax_kI (pc := 35) (As := [.ref (G.1 + 18)]) (rest := [.ref (G.1 + 22), .ref (G.1 + 0)]) (st1 := [.ref (G.1 + 22), .ref (G.1 + 0)]) (μ1 := μ9) (ax_dd KX9_init 17 rfl) (c_X3_init b8) kI_X9_25 e_X3_init rfl rfl rfl (by decide) (by decide) (Nat.le_of_ble_eq_true rfl) rfl ?_
  refine ax_putR (pc := 38) (k := 0) (q := 22) (sh' := sh_25_66) (ax_dd KX9_init 18 rfl) f_X9_28 ft_X9 rfl rfl rfl (fun _ h9 => by cases h9; exact ⟨rfl, rfl⟩) rfl rfl rfl rfl ?_
  refine ax_aload_n (pc := 41) (i := 0) (q := 0) (ax_dd KX9_init 19 rfl) rfl rfl ?_
  refine ax_new (pc := 42) (ci := 0) (fs := [some none, none, none, none, some none, some none, some none, some none, some none, some none, some none, some none]) (k := 25) (sh' := sh_26_17) (ax_dd KX9_init 20 rfl) rfl nw_X9_32 in_X0 tyX0_ok rfl rfl rfl rfl ?_
  refine ax_dup (pc := 45) (ax_dd KX9_init 21 rfl) rfl ?_
  refine ax_aload_n (pc := 46) (i := 0) (q := 0) (ax_dd KX9_init 22 rfl) rfl rfl ?_
  refine ax_getR (pc := 47) (k := 0) (q := 1) (ax_dd KX9_init 23 rfl) f_X9_10 rfl rfl ?_
  obtain ⟨μ12, b11, h⟩ := ob_bind h
  refine ax_kI (pc := 50) (As := [.ref (G.1 + 1)]) (rest := [.ref (G.1 + 25), .ref (G.1 + 0)]) (st1 := [.ref (G.1 + 25), .ref (G.1 + 0)]) (μ1 := μ12) (ax_dd KX9_init 24 rfl) (c_X0_init b11) kI_X9_34 e_X0_init rfl rfl rfl (by decide) (by decide) (Nat.le_of_ble_eq_true rfl) rfl ?_
  refine ax_putR (pc := 53) (k := 0) (q := 25) (sh' := sh_34_67) (ax_dd KX9_init 25 rfl) f_X9_37 ft_X9 rfl rfl rfl (fun _ h9 => by cases h9; exact ⟨rfl, rfl⟩) rfl rfl rfl rfl ?_
  refine ax_aload_n (pc := 56) (i := 0) (q := 0) (ax_dd KX9_init 26 rfl) rfl rfl ?_
  refine ax_new (pc := 57) (ci := 5) (fs := [some none, none, none, none, none]) (k := 34) (sh' := sh_35_41) (ax_dd KX9_init 27 rfl) rfl nw_X9_41 in_X5 tyX5_ok rfl rfl rfl rfl ?_
  refine ax_dup (pc := 60) (ax_dd KX9_init 28 rfl) rfl ?_
  refine ax_aload_n (pc := 61) (i := 0) (q := 0) (ax_dd KX9_init 29 rfl) rfl rfl ?_
  refine ax_getR (pc := 62) (k := 0) (q := 25) (ax_dd KX9_init 30 rfl) f_X9_37 rfl rfl ?_
  obtain ⟨μ15, b14, h⟩ := ob_bind h
  refine ax_kI (pc := 65) (As := [.ref (G.1 + 25)]) (rest := [.ref (G.1 + 34), .ref (G.1 + 0)]) (st1 := [.ref (G.1 + 34), .ref (G.1 + 0)]) (μ1 := μ15) (ax_dd KX9_init 31 rfl) (c_X5_init b14) kI_X9_43 e_X5_init rfl rfl rfl (by decide) (by decide) (Nat.le_of_ble_eq_true rfl) rfl ?_
  refine ax_putR (pc := 68) (k := 0) (q := 34) (sh' := sh_35_68) (ax_dd KX9_init 32 rfl) f_X9_46 ft_X9 rfl rfl rfl (fun _ h9 => by cases h9; exact ⟨rfl, rfl⟩) rfl rfl rfl rfl ?_
  refine ax_aload_n (pc := 71) (i := 0) (q := 0) (ax_dd KX9_init 33 rfl) rfl rfl ?_
  refine ax_new (pc := 72) (ci := 8) (fs := [some none, some none, some none]) (k := 35) (sh' := sh_36_63) (ax_dd KX9_init 34 rfl) rfl nw_X9_50 in_X8 tyX8_ok rfl rfl rfl rfl ?_
  refine ax_dup (pc := 75) (ax_dd KX9_init 35 rfl) rfl ?_
  refine ax_aload_n (pc := 76) (i := 0) (q := 0) (ax_dd KX9_init 36 rfl) rfl rfl ?_
  refine ax_getR (pc := 77) (k := 0) (q := 25) (ax_dd KX9_init 37 rfl) f_X9_37 rfl rfl ?_
  obtain ⟨μ18, b17, h⟩ := ob_bind h
  refine ax_kI (pc := 80) (As := [.ref (G.1 + 25)]) (rest := [.ref (G.1 + 35), .ref (G.1 + 0)]) (st1 := [.ref (G.1 + 35), .ref (G.1 + 0)]) (μ1 := μ18) (ax_dd KX9_init 38 rfl) (c_X8_init b17) kI_X9_52 e_X8_init rfl rfl rfl (by decide) (by decide) (Nat.le_of_ble_eq_true rfl) rfl ?_
  refine ax_putR (pc := 83) (k := 0) (q := 35) (sh' := sh_38_69) (ax_dd KX9_init 39 rfl) f_X9_53 ft_X9 rfl rfl rfl (fun _ h9 => by cases h9; exact ⟨rfl, rfl⟩) rfl rfl rfl rfl ?_
  refine ax_aload_n (pc := 86) (i := 0) (q := 0) (ax_dd KX9_init 40 rfl) rfl rfl ?_
  refine ax_new (pc := 87) (ci := 2) (fs := [some none, none, none, none]) (k := 38) (sh' := sh_39_26) (ax_dd KX9_init 41 rfl) rfl nw_X9_57 in_X2 tyX2_ok rfl rfl rfl rfl ?_
  refine ax_dup (pc := 90) (ax_dd KX9_init 42 rfl) rfl ?_
  refine ax_aload_n (pc := 91) (i := 0) (q := 0) (ax_dd KX9_init 43 rfl) rfl rfl ?_
  refine ax_getR (pc := 92) (k := 0) (q := 25) (ax_dd KX9_init 44 rfl) f_X9_37 rfl rfl ?_
  obtain ⟨μ21, b20, h⟩ := ob_bind h
  refine ax_kI (pc := 95) (As := [.ref (G.1 + 25)]) (rest := [.ref (G.1 + 38), .ref (G.1 + 0)]) (st1 := [.ref (G.1 + 38), .ref (G.1 + 0)]) (μ1 := μ21) (ax_dd KX9_init 45 rfl) (c_X2_init b20) kI_X9_59 e_X2_init rfl rfl rfl (by decide) (by decide) (Nat.le_of_ble_eq_true rfl) rfl ?_
  refine ax_putR (pc := 98) (k := 0) (q := 38) (sh' := sh_39_70) (ax_dd KX9_init 46 rfl) f_X9_60 ft_X9 rfl rfl rfl (fun _ h9 => by cases h9; exact ⟨rfl, rfl⟩) rfl rfl rfl rfl ?_
  refine ax_aload_n (pc := 101) (i := 0) (q := 0) (ax_dd KX9_init 47 rfl) rfl rfl ?_
  refine ax_new (pc := 102) (ci := 1) (fs := [none, none, none, none, some none, some none, some none]) (k := 39) (sh' := sh_40_24) (ax_dd KX9_init 48 rfl) rfl nw_X9_64 in_X1 tyX1_ok rfl rfl rfl rfl ?_
  refine ax_dup (pc := 105) (ax_dd KX9_init 49 rfl) rfl ?_
  obtain ⟨μ24, b23, h⟩ := ob_bind h
  refine ax_kIN (pc := 106) (i := 2) (As := []) (rest := [.ref (G.1 + 39), .ref (G.1 + 0)]) (st1 := [.ref (G.1 + 39), .ref (G.1 + 0)]) (μ1 := μ24) (ax_dd KX9_init 50 rfl) (c_X1_init b23) kJ_X9_66 rfl e_X1_init rfl rfl rfl (by decide) (by decide) (Nat.le_of_ble_eq_true rfl) rfl ?_
  refine ax_putR (pc := 109) (k := 0) (q := 39) (sh' := sh_43_71) (ax_dd KX9_init 51 rfl) f_X9_67 ft_X9 rfl rfl rfl (fun _ h9 => by cases h9; exact ⟨rfl, rfl⟩) rfl rfl rfl rfl ?_
  refine ax_aload_n (pc := 112) (i := 0) (q := 0) (ax_dd KX9_init 52 rfl) rfl rfl ?_
  refine ax_new (pc := 113) (ci := 4) (fs := [some none, some none, some none]) (k := 43) (sh' := sh_44_39) (ax_dd KX9_init 53 rfl) rfl nw_X9_71 in_X4 tyX4_ok rfl rfl rfl rfl ?_
  refine ax_dup (pc := 116) (ax_dd KX9_init 54 rfl) rfl ?_
  obtain ⟨μ27, b26, h⟩ := ob_bind h
  refine ax_kI (pc := 117) (As := []) (rest := [.ref (G.1 + 43), .ref (G.1 + 0)]) (st1 := [.ref (G.1 + 43), .ref (G.1 + 0)]) (μ1 := μ27) (ax_dd KX9_init 55 rfl) (c_X4_init b26) kI_X9_73 e_X4_init rfl rfl rfl (by decide) (by decide) (Nat.le_of_ble_eq_true rfl) rfl ?_
  refine ax_putR (pc := 120) (k := 0) (q := 43) (sh' := SHc) (ax_dd KX9_init 56 rfl) f_X9_74 ft_X9 rfl rfl rfl (fun _ h9 => by cases h9; exact ⟨rfl, rfl⟩) rfl rfl rfl rfl ?_
  refine ax_iconst (pc := 123) (v := 0) (ax_dd KX9_init 57 rfl) (by decide) ?_
  refine ax_istore_n (pc := 124) (i := 1) (lv' := [(1, .int 0), (0, .ref (G.1 + 0))]) (ax_dd KX9_init 58 rfl) rfl (by decide) rfl ?_
  refine ax_sub (lv' := [(0, .ref (G.1 + 0)), (1, .int 0)]) [1, 0] rfl ?_
  exact a_X9_init_125 fu _ _ _ h
