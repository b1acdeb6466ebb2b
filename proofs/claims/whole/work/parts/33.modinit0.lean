def m_X10_init_1088 : Nat → Int32 → ax_M → Option (ax_M)
  | 0, _, _ => none
  | n + 1, x1, μ =>
    if 57 ≤ x1 then
      bind2 (m_X10_text (ax_w μ 51 6 57)) fun v2 μ4 =>
      some μ4
    else
      (ix 57 x1).bind fun j5 =>
      (ix 160 x1).bind fun j7 =>
      m_X10_init_1088 n (x1 + 1) (ax_w μ 55 j7 (μ 63 j5))
set_option maxRecDepth 100000 in
set_option maxHeartbeats 8000000 in
theorem a_X10_init_1088 {G : ax_G} {l : Launch} : ∀ (n : Nat) (x1 : Int32) (μ : ax_M) (v : ax_M), m_X10_init_1088 n x1 μ = some v → ax_X G l RX10 cX10_init 2 none true 7 (none, SHF, v) 1088 [(0, .ref (G.1 + 51)), (1, .int x1)] [] SHF μ := by
  intro n
  induction n with
  | zero =>
    intro x1 μ v h
    rw [m_X10_init_1088] at h
    cases h
  | succ n ih =>
    intro x1 μ v h
    rw [m_X10_init_1088] at h
    refine ax_iload_n (pc := 1088) (i := 1) (q := 1) (ax_dd KX10_init_28 11 rfl) rfl rfl ?_
    refine ax_bipush (pc := 1089) (v := 57) (ax_dd KX10_init_28 12 rfl) (by decide) ?_
    by_cases c1 : 57 ≤ x1
    · rw [if_pos c1] at h
      refine ax_icmp_ge_t (pc := 1091) (tgt := 1112) (ax_dd KX10_init_28 13 rfl) (by decide) c1 ?_
      refine ax_aload_n (pc := 1112) (i := 0) (q := 0) (ax_dd KX10_init_28 24 rfl) rfl rfl ?_
      refine ax_bipush (pc := 1113) (v := 57) (ax_dd KX10_init_29 0 rfl) (by decide) ?_
      refine ax_putI (pc := 1115) (k := 51) (ax_dd KX10_init_29 1 rfl) f_X10_71 ft_X10 rfl rfl (fun _ h9 => by cases h9; rfl) rfl rfl ?_
      refine ax_aload_n (pc := 1118) (i := 0) (q := 0) (ax_dd KX10_init_29 2 rfl) rfl rfl ?_
      obtain ⟨v2, μ4, b3, h⟩ := ob_bind2 h
      refine ax_kV (pc := 1119) (ci := 10) (k := 51) (As := []) (rest := []) (st1 := [.int v2]) (μ1 := μ4) (ax_dd KX10_init_29 3 rfl) (c_X10_text (fun _ _ h => h) b3) kV_X10_74 e_X10_text rfl cl_X10 (by decide) rfl rfl (by decide) (by decide) (Nat.le_of_ble_eq_true rfl) rfl ?_
      refine ax_pop (pc := 1122) (ax_dd KX10_init_29 4 rfl) rfl ?_
      obtain rfl := Option.some.inj h
      exact ax_vret (pc := 1123) (ax_dd KX10_init_29 5 rfl) rfl rfl
    · rw [if_neg c1] at h
      refine ax_icmp_ge_f (pc := 1091) (tgt := 1112) (ax_dd KX10_init_28 13 rfl) (by decide) c1 ?_
      refine ax_aload_n (pc := 1094) (i := 0) (q := 0) (ax_dd KX10_init_28 14 rfl) rfl rfl ?_
      refine ax_getR (pc := 1095) (k := 51) (q := 55) (ax_dd KX10_init_28 15 rfl) f_X10_23 rfl rfl ?_
      refine ax_iload_n (pc := 1098) (i := 1) (q := 1) (ax_dd KX10_init_28 16 rfl) rfl rfl ?_
      refine ax_aload_n (pc := 1099) (i := 0) (q := 0) (ax_dd KX10_init_28 17 rfl) rfl rfl ?_
      refine ax_getR (pc := 1100) (k := 51) (q := 63) (ax_dd KX10_init_28 18 rfl) f_X10_47 rfl rfl ?_
      refine ax_iload_n (pc := 1103) (i := 1) (q := 1) (ax_dd KX10_init_28 19 rfl) rfl rfl ?_
      obtain ⟨j5, b6, h⟩ := ob_bind h
      refine ax_ild (pc := 1104) (k := 63) (N := 57) (j := j5) (ax_dd KX10_init_28 20 rfl) rfl b6 ?_
      obtain ⟨j7, b8, h⟩ := ob_bind h
      refine ax_ist (pc := 1105) (k := 55) (N := 160) (j := j7) (ax_dd KX10_init_28 21 rfl) rfl b8 ?_
      refine ax_iinc (pc := 1106) (q := 1) (v := (x1 + 1)) (lv' := [(1, .int (x1 + 1)), (0, .ref (G.1 + 51))]) (ax_dd KX10_init_28 22 rfl) rfl rfl (by decide) rfl ?_
      refine ax_goto (pc := 1109) (tgt := 1088) (ax_dd KX10_init_28 23 rfl) (by decide) ?_
      refine ax_sub (lv' := [(0, .ref (G.1 + 51)), (1, .int (x1 + 1))]) [1, 0] rfl ?_
      exact ih _ _ _ h
def m_X10_init_1012 (s3 : Int32) (μ : ax_M) : Option (ax_M) :=
  (ix 96 s3).bind fun j1 =>
  m_X10_init_1088 fu 0 (ax_z (ax_z (ax_z (ax_z (ax_z (ax_z (ax_w (ax_w (ax_w (ax_w μ 64 j1 32) 64 93 32) 64 94 32) 64 95 32) 65) 66) 67) 68) 69) 70)
set_option maxRecDepth 100000 in
set_option maxHeartbeats 8000000 in
theorem a_X10_init_1012 {G : ax_G} {l : Launch} {s3 : Int32} {μ : ax_M} {v : ax_M} (h : m_X10_init_1012 s3 μ = some v) : ax_X G l RX10 cX10_init 2 none true 7 (none, SHF, v) 1012 [(0, .ref (G.1 + 51))] [.int s3, .ref (G.1 + 64), .ref (G.1 + 64), .ref (G.1 + 51)] sh_65_73 μ := by
  unfold m_X10_init_1012 at h
  refine ax_bipush (pc := 1012) (v := 32) (ax_dd KX10_init_26 20 rfl) (by decide) ?_
  obtain ⟨j1, b2, h⟩ := ob_bind h
  refine ax_ist (pc := 1014) (k := 64) (N := 96) (j := j1) (ax_dd KX10_init_26 21 rfl) rfl b2 ?_
  refine ax_dup (pc := 1015) (ax_dd KX10_init_26 22 rfl) rfl ?_
  refine ax_bipush (pc := 1016) (v := 93) (ax_dd KX10_init_26 23 rfl) (by decide) ?_
  refine ax_bipush (pc := 1018) (v := 32) (ax_dd KX10_init_26 24 rfl) (by decide) ?_
  refine ax_iast (pc := 1020) (k := 64) (n := 96) (ax_dd KX10_init_27 0 rfl) rfl (ax_inC (by decide)) ?_
  show ax_X G l RX10 cX10_init 2 none true 7 _ 1021 [(0, .ref (G.1 + 51))] [.ref (G.1 + 64), .ref (G.1 + 51)] sh_65_73 (ax_w (ax_w μ 64 j1 32) 64 93 32)
  refine ax_dup (pc := 1021) (ax_dd KX10_init_27 1 rfl) rfl ?_
  refine ax_bipush (pc := 1022) (v := 94) (ax_dd KX10_init_27 2 rfl) (by decide) ?_
  refine ax_bipush (pc := 1024) (v := 32) (ax_dd KX10_init_27 3 rfl) (by decide) ?_
  refine ax_iast (pc := 1026) (k := 64) (n := 96) (ax_dd KX10_init_27 4 rfl) rfl (ax_inC (by decide)) ?_
  show ax_X G l RX10 cX10_init 2 none true 7 _ 1027 [(0, .ref (G.1 + 51))] [.ref (G.1 + 64), .ref (G.1 + 51)] sh_65_73 (ax_w (ax_w (ax_w μ 64 j1 32) 64 93 32) 64 94 32)
  refine ax_dup (pc := 1027) (ax_dd KX10_init_27 5 rfl) rfl ?_
  refine ax_bipush (pc := 1028) (v := 95) (ax_dd KX10_init_27 6 rfl) (by decide) ?_
  refine ax_bipush (pc := 1030) (v := 32) (ax_dd KX10_init_27 7 rfl) (by decide) ?_
  refine ax_iast (pc := 1032) (k := 64) (n := 96) (ax_dd KX10_init_27 8 rfl) rfl (ax_inC (by decide)) ?_
  show ax_X G l RX10 cX10_init 2 none true 7 _ 1033 [(0, .ref (G.1 + 51))] [.ref (G.1 + 64), .ref (G.1 + 51)] sh_65_73 (ax_w (ax_w (ax_w (ax_w μ 64 j1 32) 64 93 32) 64 94 32) 64 95 32)
  refine ax_putR (pc := 1033) (k := 51) (q := 64) (sh' := sh_65_74) (ax_dd KX10_init_27 9 rfl) f_X10_50 ft_X10 rfl rfl rfl (fun _ h9 => by cases h9; exact ⟨rfl, rfl⟩) rfl rfl rfl rfl ?_
  refine ax_aload_n (pc := 1036) (i := 0) (q := 0) (ax_dd KX10_init_27 10 rfl) rfl rfl ?_
  refine ax_sipush (pc := 1037) (v := 200) (ax_dd KX10_init_27 11 rfl) (by decide) ?_
  refine ax_newa (pc := 1040) (t := 0) (N := 200) (k := 65) (sh' := sh_66_75) (ax_dd KX10_init_27 12 rfl) (Or.inl ⟨rfl, rfl⟩) (by decide) rfl (by decide) na_0 rfl rfl ?_
  refine ax_putR (pc := 1042) (k := 51) (q := 65) (sh' := sh_66_76) (ax_dd KX10_init_27 13 rfl) f_X10_53 ft_X10 rfl rfl rfl (fun _ h9 => by cases h9; exact ⟨rfl, rfl⟩) rfl rfl rfl rfl ?_
  refine ax_aload_n (pc := 1045) (i := 0) (q := 0) (ax_dd KX10_init_27 14 rfl) rfl rfl ?_
  refine ax_sipush (pc := 1046) (v := 200) (ax_dd KX10_init_27 15 rfl) (by decide) ?_
  refine ax_newa (pc := 1049) (t := 0) (N := 200) (k := 66) (sh' := sh_67_77) (ax_dd KX10_init_27 16 rfl) (Or.inl ⟨rfl, rfl⟩) (by decide) rfl (by decide) na_0 rfl rfl ?_
  refine ax_putR (pc := 1051) (k := 51) (q := 66) (sh' := sh_67_78) (ax_dd KX10_init_27 17 rfl) f_X10_56 ft_X10 rfl rfl rfl (fun _ h9 => by cases h9; exact ⟨rfl, rfl⟩) rfl rfl rfl rfl ?_
  refine ax_aload_n (pc := 1054) (i := 0) (q := 0) (ax_dd KX10_init_27 18 rfl) rfl rfl ?_
  refine ax_bipush (pc := 1055) (v := 6) (ax_dd KX10_init_27 19 rfl) (by decide) ?_
  refine ax_newa (pc := 1057) (t := 0) (N := 6) (k := 67) (sh' := sh_68_79) (ax_dd KX10_init_27 20 rfl) (Or.inl ⟨rfl, rfl⟩) (by decide) rfl (by decide) na_0 rfl rfl ?_
  refine ax_putR (pc := 1059) (k := 51) (q := 67) (sh' := sh_68_80) (ax_dd KX10_init_27 21 rfl) f_X10_59 ft_X10 rfl rfl rfl (fun _ h9 => by cases h9; exact ⟨rfl, rfl⟩) rfl rfl rfl rfl ?_
  refine ax_aload_n (pc := 1062) (i := 0) (q := 0) (ax_dd KX10_init_27 22 rfl) rfl rfl ?_
  refine ax_bipush (pc := 1063) (v := 36) (ax_dd KX10_init_27 23 rfl) (by decide) ?_
  refine ax_newa (pc := 1065) (t := 0) (N := 36) (k := 68) (sh' := sh_69_81) (ax_dd KX10_init_27 24 rfl) (Or.inl ⟨rfl, rfl⟩) (by decide) rfl (by decide) na_0 rfl rfl ?_
  refine ax_putR (pc := 1067) (k := 51) (q := 68) (sh' := sh_69_82) (ax_dd KX10_init_28 0 rfl) f_X10_62 ft_X10 rfl rfl rfl (fun _ h9 => by cases h9; exact ⟨rfl, rfl⟩) rfl rfl rfl rfl ?_
  refine ax_aload_n (pc := 1070) (i := 0) (q := 0) (ax_dd KX10_init_28 1 rfl) rfl rfl ?_
  refine ax_bipush (pc := 1071) (v := 36) (ax_dd KX10_init_28 2 rfl) (by decide) ?_
  refine ax_newa (pc := 1073) (t := 0) (N := 36) (k := 69) (sh' := sh_70_83) (ax_dd KX10_init_28 3 rfl) (Or.inl ⟨rfl, rfl⟩) (by decide) rfl (by decide) na_0 rfl rfl ?_
  refine ax_putR (pc := 1075) (k := 51) (q := 69) (sh' := sh_70_84) (ax_dd KX10_init_28 4 rfl) f_X10_65 ft_X10 rfl rfl rfl (fun _ h9 => by cases h9; exact ⟨rfl, rfl⟩) rfl rfl rfl rfl ?_
  refine ax_aload_n (pc := 1078) (i := 0) (q := 0) (ax_dd KX10_init_28 5 rfl) rfl rfl ?_
  refine ax_bipush (pc := 1079) (v := 36) (ax_dd KX10_init_28 6 rfl) (by decide) ?_
  refine ax_newa (pc := 1081) (t := 0) (N := 36) (k := 70) (sh' := sh_71_85) (ax_dd KX10_init_28 7 rfl) (Or.inl ⟨rfl, rfl⟩) (by decide) rfl (by decide) na_0 rfl rfl ?_
  refine ax_putR (pc := 1083) (k := 51) (q := 70) (sh' := SHF) (ax_dd KX10_init_28 8 rfl) f_X10_68 ft_X10 rfl rfl rfl (fun _ h9 => by cases h9; exact ⟨rfl, rfl⟩) rfl rfl rfl rfl ?_
  refine ax_iconst (pc := 1086) (v := 0) (ax_dd KX10_init_28 9 rfl) (by decide) ?_
  refine ax_istore_n (pc := 1087) (i := 1) (lv' := [(1, .int 0), (0, .ref (G.1 + 51))]) (ax_dd KX10_init_28 10 rfl) rfl (by decide) rfl ?_
  refine ax_sub (lv' := [(0, .ref (G.1 + 51)), (1, .int 0)]) [1, 0] rfl ?_
  exact a_X10_init_1088 fu _ _ _ h
def m_X10_init_920 (μ : ax_M) : Option (ax_M) :=
  m_X10_init_1012 92 (ax_w (ax_w (ax_w (ax_w (ax_w (ax_w (ax_w (ax_w (ax_w (ax_w (ax_w (ax_w (ax_w (ax_w (ax_w μ 64 77 32) 64 78 32) 64 79 32) 64 80 97) 64 81 110) 64 82 100) 64 83 32) 64 84 32) 64 85 32) 64 86 32) 64 87 32) 64 88 110) 64 89 111) 64 90 116) 64 91 32)
set_option maxRecDepth 100000 in
set_option maxHeartbeats 8000000 in
theorem a_X10_init_920 {G : ax_G} {l : Launch} {μ : ax_M} {v : ax_M} (h : m_X10_init_920 μ = some v) : ax_X G l RX10 cX10_init 2 none true 7 (none, SHF, v) 920 [(0, .ref (G.1 + 51))] [.ref (G.1 + 64), .ref (G.1 + 64), .ref (G.1 + 51)] sh_65_73 μ := by
  unfold m_X10_init_920 at h
  refine ax_bipush (pc := 920) (v := 77) (ax_dd KX10_init_24 9 rfl) (by decide) ?_
  refine ax_bipush (pc := 922) (v := 32) (ax_dd KX10_init_24 10 rfl) (by decide) ?_
  refine ax_iast (pc := 924) (k := 64) (n := 96) (ax_dd KX10_init_24 11 rfl) rfl (ax_inC (by decide)) ?_
  show ax_X G l RX10 cX10_init 2 none true 7 _ 925 [(0, .ref (G.1 + 51))] [.ref (G.1 + 64), .ref (G.1 + 51)] sh_65_73 (ax_w μ 64 77 32)
  refine ax_dup (pc := 925) (ax_dd KX10_init_24 12 rfl) rfl ?_
  refine ax_bipush (pc := 926) (v := 78) (ax_dd KX10_init_24 13 rfl) (by decide) ?_
  refine ax_bipush (pc := 928) (v := 32) (ax_dd KX10_init_24 14 rfl) (by decide) ?_
  refine ax_iast (pc := 930) (k := 64) (n := 96) (ax_dd KX10_init_24 15 rfl) rfl (ax_inC (by decide)) ?_
  show ax_X G l RX10 cX10_init 2 none true 7 _ 931 [(0, .ref (G.1 + 51))] [.ref (G.1 + 64), .ref (G.1 + 51)] sh_65_73 (ax_w (ax_w μ 64 77 32) 64 78 32)
  refine ax_dup (pc := 931) (ax_dd KX10_init_24 16 rfl) rfl ?_
  refine ax_bipush (pc := 932) (v := 79) (ax_dd KX10_init_24 17 rfl) (by decide) ?_
  refine ax_bipush (pc := 934) (v := 32) (ax_dd KX10_init_24 18 rfl) (by decide) ?_
  refine ax_iast (pc := 936) (k := 64) (n := 96) (ax_dd KX10_init_24 19 rfl) rfl (ax_inC (by decide)) ?_
  show ax_X G l RX10 cX10_init 2 none true 7 _ 937 [(0, .ref (G.1 + 51))] [.ref (G.1 + 64), .ref (G.1 + 51)] sh_65_73 (ax_w (ax_w (ax_w μ 64 77 32) 64 78 32) 64 79 32)
  refine ax_dup (pc := 937) (ax_dd KX10_init_24 20 rfl) rfl ?_
  refine ax_bipush (pc := 938) (v := 80) (ax_dd KX10_init_24 21 rfl) (by decide) ?_
  refine ax_bipush (pc := 940) (v := 97) (ax_dd KX10_init_24 22 rfl) (by decide) ?_
  refine ax_iast (pc := 942) (k := 64) (n := 96) (ax_dd KX10_init_24 23 rfl) rfl (ax_inC (by decide)) ?_
  show ax_X G l RX10 cX10_init 2 none true 7 _ 943 [(0, .ref (G.1 + 51))] [.ref (G.1 + 64), .ref (G.1 + 51)] sh_65_73 (ax_w (ax_w (ax_w (ax_w μ 64 77 32) 64 78 32) 64 79 32) 64 80 97)
  refine ax_dup (pc := 943) (ax_dd KX10_init_24 24 rfl) rfl ?_
  refine ax_bipush (pc := 944) (v := 81) (ax_dd KX10_init_25 0 rfl) (by decide) ?_
  refine ax_bipush (pc := 946) (v := 110) (ax_dd KX10_init_25 1 rfl) (by decide) ?_
  refine ax_iast (pc := 948) (k := 64) (n := 96) (ax_dd KX10_init_25 2 rfl) rfl (ax_inC (by decide)) ?_
  show ax_X G l RX10 cX10_init 2 none true 7 _ 949 [(0, .ref (G.1 + 51))] [.ref (G.1 + 64), .ref (G.1 + 51)] sh_65_73 (ax_w (ax_w (ax_w (ax_w (ax_w μ 64 77 32) 64 78 32) 64 79 32) 64 80 97) 64 81 110)
  refine ax_dup (pc := 949) (ax_dd KX10_init_25 3 rfl) rfl ?_
  refine ax_bipush (pc := 950) (v := 82) (ax_dd KX10_init_25 4 rfl) (by decide) ?_
  refine ax_bipush (pc := 952) (v := 100) (ax_dd KX10_init_25 5 rfl) (by decide) ?_
  refine ax_iast (pc := 954) (k := 64) (n := 96) (ax_dd KX10_init_25 6 rfl) rfl (ax_inC (by decide)) ?_
  show ax_X G l RX10 cX10_init 2 none true 7 _ 955 [(0, .ref (G.1 + 51))] [.ref (G.1 + 64), .ref (G.1 + 51)] sh_65_73 (ax_w (ax_w (ax_w (ax_w (ax_w (ax_w μ 64 77 32) 64 78 32) 64 79 32) 64 80 97) 64 81 110) 64 82 100)
  refine ax_dup (pc := 955) (ax_dd KX10_init_25 7 rfl) rfl ?_
  refine ax_bipush (pc := 956) (v := 83) (ax_dd KX10_init_25 8 rfl) (by decide) ?_
  refine ax_bipush (pc := 958) (v := 32) (ax_dd KX10_init_25 9 rfl) (by decide) ?_
  refine ax_iast (pc := 960) (k := 64) (n := 96) (ax_dd KX10_init_25 10 rfl) rfl (ax_inC (by decide)) ?_
  show ax_X G l RX10 cX10_init 2 none true 7 _ 961 [(0, .ref (G.1 + 51))] [.ref (G.1 + 64), .ref (G.1 + 51)] sh_65_73 (ax_w (ax_w (ax_w (ax_w (ax_w (ax_w (ax_w μ 64 77 32) 64 78 32) 64 79 32) 64 80 97) 64 81 110) 64 82 100) 64 83 32)
  refine ax_dup (pc := 961) (ax_dd KX10_init_25 11 rfl) rfl ?_
  refine ax_bipush (pc := 962) (v := 84) (ax_dd KX10_init_25 12 rfl) (by decide) ?_
  refine ax_bipush (pc := 964) (v := 32) (ax_dd KX10_init_25 13 rfl) (by decide) ?_
  refine ax_iast (pc := 966) (k := 64) (n := 96) (ax_dd KX10_init_25 14 rfl) rfl (ax_inC (by decide)) ?_
  show ax_X G l RX10 cX10_init 2 none true 7 _ 967 [(0, .ref (G.1 + 51))] [.ref (G.1 + 64), .ref (G.1 + 51)] sh_65_73 (ax_w (ax_w (ax_w (ax_w (ax_w (ax_w (ax_w (ax_w μ 64 77 32) 64 78 32) 64 79 32) 64 80 97) 64 81 110) 64 82 100) 64 83 32) 64 84 32)
  refine ax_dup (pc := 967) (ax_dd KX10_init_25 15 rfl) rfl ?_
  refine ax_bipush (pc := 968) (v := 85) (ax_dd KX10_init_25 16 rfl) (by decide) ?_
  refine ax_bipush (pc := 970) (v := 32) (ax_dd KX10_init_25 17 rfl) (by decide) ?_
  refine ax_iast (pc := 972) (k := 64) (n := 96) (ax_dd KX10_init_25 18 rfl) rfl (ax_inC (by decide)) ?_
  show ax_X G l RX10 cX10_init 2 none true 7 _ 973 [(0, .ref (G.1 + 51))] [.ref (G.1 + 64), .ref (G.1 + 51)] sh_65_73 (ax_w (ax_w (ax_w (ax_w (ax_w (ax_w (ax_w (ax_w (ax_w μ 64 77 32) 64 78 32) 64 79 32) 64 80 97) 64 81 110) 64 82 100) 64 83 32) 64 84 32) 64 85 32)
  refine ax_dup (pc := 973) (ax_dd KX10_init_25 19 rfl) rfl ?_
  refine ax_bipush (pc := 974) (v := 86) (ax_dd KX10_init_25 20 rfl) (by decide) ?_
  refine ax_bipush (pc := 976) (v := 32) (ax_dd KX10_init_25 21 rfl) (by decide) ?_
  refine ax_iast (pc := 978) (k := 64) (n := 96) (ax_dd KX10_init_25 22 rfl) rfl (ax_inC (by decide)) ?_
  show ax_X G l RX10 cX10_init 2 none true 7 _ 979 [(0, .ref (G.1 + 51))] [.ref (G.1 + 64), .ref (G.1 + 51)] sh_65_73 (ax_w (ax_w (ax_w (ax_w (ax_w (ax_w (ax_w (ax_w (ax_w (ax_w μ 64 77 32) 64 78 32) 64 79 32) 64 80 97) 64 81 110) 64 82 100) 64 83 32) 64 84 32) 64 85 32) 64 86 32)
  refine ax_dup (pc := 979) (ax_dd KX10_init_25 23 rfl) rfl ?_
  refine ax_bipush (pc := 980) (v := 87) (ax_dd KX10_init_25 24 rfl) (by decide) ?_
  refine ax_bipush (pc := 982) (v := 32) (ax_dd KX10_init_26 0 rfl) (by decide) ?_
  refine ax_iast (pc := 984) (k := 64) (n := 96) (ax_dd KX10_init_26 1 rfl) rfl (ax_inC (by decide)) ?_
  show ax_X G l RX10 cX10_init 2 none true 7 _ 985 [(0, .ref (G.1 + 51))] [.ref (G.1 + 64), .ref (G.1 + 51)] sh_65_73 (ax_w (ax_w (ax_w (ax_w (ax_w (ax_w (ax_w (ax_w (ax_w (ax_w (ax_w μ 64 77 32) 64 78 32) 64 79 32) 64 80 97) 64 81 110) 64 82 100) 64 83 32) 64 84 32) 64 85 32) 64 86 32) 64 87 32)
  refine ax_dup (pc := 985) (ax_dd KX10_init_26 2 rfl) rfl ?_
  refine ax_bipush (pc := 986) (v := 88) (ax_dd KX10_init_26 3 rfl) (by decide) ?_
  refine ax_bipush (pc := 988) (v := 110) (ax_dd KX10_init_26 4 rfl) (by decide) ?_
  refine ax_iast (pc := 990) (k := 64) (n := 96) (ax_dd KX10_init_26 5 rfl) rfl (ax_inC (by decide)) ?_
  show ax_X G l RX10 cX10_init 2 none true 7 _ 991 [(0, .ref (G.1 + 51))] [.ref (G.1 + 64), .ref (G.1 + 51)] sh_65_73 (ax_w (ax_w (ax_w (ax_w (ax_w (ax_w (ax_w (ax_w (ax_w (ax_w (ax_w (ax_w μ 64 77 32) 64 78 32) 64 79 32) 64 80 97) 64 81 110) 64 82 100) 64 83 32) 64 84 32) 64 85 32) 64 86 32) 64 87 32) 64 88 110)
  refine ax_dup (pc := 991) (ax_dd KX10_init_26 6 rfl) rfl ?_
  refine ax_bipush (pc := 992) (v := 89) (ax_dd KX10_init_26 7 rfl) (by decide) ?_
  refine ax_bipush (pc := 994) (v := 111) (ax_dd KX10_init_26 8 rfl) (by decide) ?_
  refine ax_iast (pc := 996) (k := 64) (n := 96) (ax_dd KX10_init_26 9 rfl) rfl (ax_inC (by decide)) ?_
  show ax_X G l RX10 cX10_init 2 none true 7 _ 997 [(0, .ref (G.1 + 51))] [.ref (G.1 + 64), .ref (G.1 + 51)] sh_65_73 (ax_w (ax_w (ax_w (ax_w (ax_w (ax_w (ax_w (ax_w (ax_w (ax_w (ax_w (ax_w (ax_w μ 64 77 32) 64 78 32) 64 79 32) 64 80 97) 64 81 110) 64 82 100) 64 83 32) 64 84 32) 64 85 32) 64 86 32) 64 87 32) 64 88 110) 64 89 111)
  refine ax_dup (pc := 997) (ax_dd KX10_init_26 10 rfl) rfl ?_
  refine ax_bipush (pc := 998) (v := 90) (ax_dd KX10_init_26 11 rfl) (by decide) ?_
  refine ax_bipush (pc := 1000) (v := 116) (ax_dd KX10_init_26 12 rfl) (by decide) ?_
  refine ax_iast (pc := 1002) (k := 64) (n := 96) (ax_dd KX10_init_26 13 rfl) rfl (ax_inC (by decide)) ?_
  show ax_X G l RX10 cX10_init 2 none true 7 _ 1003 [(0, .ref (G.1 + 51))] [.ref (G.1 + 64), .ref (G.1 + 51)] sh_65_73 (ax_w (ax_w (ax_w (ax_w (ax_w (ax_w (ax_w (ax_w (ax_w (ax_w (ax_w (ax_w (ax_w (ax_w μ 64 77 32) 64 78 32) 64 79 32) 64 80 97) 64 81 110) 64 82 100) 64 83 32) 64 84 32) 64 85 32) 64 86 32) 64 87 32) 64 88 110) 64 89 111) 64 90 116)
  refine ax_dup (pc := 1003) (ax_dd KX10_init_26 14 rfl) rfl ?_
  refine ax_bipush (pc := 1004) (v := 91) (ax_dd KX10_init_26 15 rfl) (by decide) ?_
  refine ax_bipush (pc := 1006) (v := 32) (ax_dd KX10_init_26 16 rfl) (by decide) ?_
  refine ax_iast (pc := 1008) (k := 64) (n := 96) (ax_dd KX10_init_26 17 rfl) rfl (ax_inC (by decide)) ?_
  show ax_X G l RX10 cX10_init 2 none true 7 _ 1009 [(0, .ref (G.1 + 51))] [.ref (G.1 + 64), .ref (G.1 + 51)] sh_65_73 (ax_w (ax_w (ax_w (ax_w (ax_w (ax_w (ax_w (ax_w (ax_w (ax_w (ax_w (ax_w (ax_w (ax_w (ax_w μ 64 77 32) 64 78 32) 64 79 32) 64 80 97) 64 81 110) 64 82 100) 64 83 32) 64 84 32) 64 85 32) 64 86 32) 64 87 32) 64 88 110) 64 89 111) 64 90 116) 64 91 32)
  refine ax_dup (pc := 1009) (ax_dd KX10_init_26 18 rfl) rfl ?_
  refine ax_bipush (pc := 1010) (v := 92) (ax_dd KX10_init_26 19 rfl) (by decide) ?_
  exact a_X10_init_1012 h
def m_X10_init_829 (μ : ax_M) : Option (ax_M) :=
  m_X10_init_920 (ax_w (ax_w (ax_w (ax_w (ax_w (ax_w (ax_w (ax_w (ax_w (ax_w (ax_w (ax_w (ax_w (ax_w (ax_w μ 64 62 32) 64 63 32) 64 64 109) 64 65 111) 64 66 114) 64 67 101) 64 68 32) 64 69 32) 64 70 32) 64 71 32) 64 72 111) 64 73 114) 64 74 32) 64 75 32) 64 76 32)
set_option maxRecDepth 100000 in
set_option maxHeartbeats 8000000 in
theorem a_X10_init_829 {G : ax_G} {l : Launch} {μ : ax_M} {v : ax_M} (h : m_X10_init_829 μ = some v) : ax_X G l RX10 cX10_init 2 none true 7 (none, SHF, v) 829 [(0, .ref (G.1 + 51))] [.ref (G.1 + 64), .ref (G.1 + 51)] sh_65_73 μ := by
  unfold m_X10_init_829 at h
  refine ax_dup (pc := 829) (ax_dd KX10_init_21 23 rfl) rfl ?_
  refine ax_bipush (pc := 830) (v := 62) (ax_dd KX10_init_21 24 rfl) (by decide) ?_
  refine ax_bipush (pc := 832) (v := 32) (ax_dd KX10_init_22 0 rfl) (by decide) ?_
  refine ax_iast (pc := 834) (k := 64) (n := 96) (ax_dd KX10_init_22 1 rfl) rfl (ax_inC (by decide)) ?_
  show ax_X G l RX10 cX10_init 2 none true 7 _ 835 [(0, .ref (G.1 + 51))] [.ref (G.1 + 64), .ref (G.1 + 51)] sh_65_73 (ax_w μ 64 62 32)
  refine ax_dup (pc := 835) (ax_dd KX10_init_22 2 rfl) rfl ?_
  refine ax_bipush (pc := 836) (v := 63) (ax_dd KX10_init_22 3 rfl) (by decide) ?_
  refine ax_bipush (pc := 838) (v := 32) (ax_dd KX10_init_22 4 rfl) (by decide) ?_
  refine ax_iast (pc := 840) (k := 64) (n := 96) (ax_dd KX10_init_22 5 rfl) rfl (ax_inC (by decide)) ?_
  show ax_X G l RX10 cX10_init 2 none true 7 _ 841 [(0, .ref (G.1 + 51))] [.ref (G.1 + 64), .ref (G.1 + 51)] sh_65_73 (ax_w (ax_w μ 64 62 32) 64 63 32)
  refine ax_dup (pc := 841) (ax_dd KX10_init_22 6 rfl) rfl ?_
  refine ax_bipush (pc := 842) (v := 64) (ax_dd KX10_init_22 7 rfl) (by decide) ?_
  refine ax_bipush (pc := 844) (v := 109) (ax_dd KX10_init_22 8 rfl) (by decide) ?_
  refine ax_iast (pc := 846) (k := 64) (n := 96) (ax_dd KX10_init_22 9 rfl) rfl (ax_inC (by decide)) ?_
  show ax_X G l RX10 cX10_init 2 none true 7 _ 847 [(0, .ref (G.1 + 51))] [.ref (G.1 + 64), .ref (G.1 + 51)] sh_65_73 (ax_w (ax_w (ax_w μ 64 62 32) 64 63 32) 64 64 109)
  refine ax_dup (pc := 847) (ax_dd KX10_init_22 10 rfl) rfl ?_
  refine ax_bipush (pc := 848) (v := 65) (ax_dd KX10_init_22 11 rfl) (by decide) ?_
  refine ax_bipush (pc := 850) (v := 111) (ax_dd KX10_init_22 12 rfl) (by decide) ?_
  refine ax_iast (pc := 852) (k := 64) (n := 96) (ax_dd KX10_init_22 13 rfl) rfl (ax_inC (by decide)) ?_
  show ax_X G l RX10 cX10_init 2 none true 7 _ 853 [(0, .ref (G.1 + 51))] [.ref (G.1 + 64), .ref (G.1 + 51)] sh_65_73 (ax_w (ax_w (ax_w (ax_w μ 64 62 32) 64 63 32) 64 64 109) 64 65 111)
  refine ax_dup (pc := 853) (ax_dd KX10_init_22 14 rfl) rfl ?_
  refine ax_bipush (pc := 854) (v := 66) (ax_dd KX10_init_22 15 rfl) (by decide) ?_
  refine ax_bipush (pc := 856) (v := 114) (ax_dd KX10_init_22 16 rfl) (by decide) ?_
  refine ax_iast (pc := 858) (k := 64) (n := 96) (ax_dd KX10_init_22 17 rfl) rfl (ax_inC (by decide)) ?_
  show ax_X G l RX10 cX10_init 2 none true 7 _ 859 [(0, .ref (G.1 + 51))] [.ref (G.1 + 64), .ref (G.1 + 51)] sh_65_73 (ax_w (ax_w (ax_w (ax_w (ax_w μ 64 62 32) 64 63 32) 64 64 109) 64 65 111) 64 66 114)
  refine ax_dup (pc := 859) (ax_dd KX10_init_22 18 rfl) rfl ?_
  refine ax_bipush (pc := 860) (v := 67) (ax_dd KX10_init_22 19 rfl) (by decide) ?_
  refine ax_bipush (pc := 862) (v := 101) (ax_dd KX10_init_22 20 rfl) (by decide) ?_
  refine ax_iast (pc := 864) (k := 64) (n := 96) (ax_dd KX10_init_22 21 rfl) rfl (ax_inC (by decide)) ?_
  show ax_X G l RX10 cX10_init 2 none true 7 _ 865 [(0, .ref (G.1 + 51))] [.ref (G.1 + 64), .ref (G.1 + 51)] sh_65_73 (ax_w (ax_w (ax_w (ax_w (ax_w (ax_w μ 64 62 32) 64 63 32) 64 64 109) 64 65 111) 64 66 114) 64 67 101)
  refine ax_dup (pc := 865) (ax_dd KX10_init_22 22 rfl) rfl ?_
  refine ax_bipush (pc := 866) (v := 68) (ax_dd KX10_init_22 23 rfl) (by decide) ?_
  refine ax_bipush (pc := 868) (v := 32) (ax_dd KX10_init_22 24 rfl) (by decide) ?_
  refine ax_iast (pc := 870) (k := 64) (n := 96) (ax_dd KX10_init_23 0 rfl) rfl (ax_inC (by decide)) ?_
  show ax_X G l RX10 cX10_init 2 none true 7 _ 871 [(0, .ref (G.1 + 51))] [.ref (G.1 + 64), .ref (G.1 + 51)] sh_65_73 (ax_w (ax_w (ax_w (ax_w (ax_w (ax_w (ax_w μ 64 62 32) 64 63 32) 64 64 109) 64 65 111) 64 66 114) 64 67 101) 64 68 32)
  refine ax_dup (pc := 871) (ax_dd KX10_init_23 1 rfl) rfl ?_
  refine ax_bipush (pc := 872) (v := 69) (ax_dd KX10_init_23 2 rfl) (by decide) ?_
  refine ax_bipush (pc := 874) (v := 32) (ax_dd KX10_init_23 3 rfl) (by decide) ?_
  refine ax_iast (pc := 876) (k := 64) (n := 96) (ax_dd KX10_init_23 4 rfl) rfl (ax_inC (by decide)) ?_
  show ax_X G l RX10 cX10_init 2 none true 7 _ 877 [(0, .ref (G.1 + 51))] [.ref (G.1 + 64), .ref (G.1 + 51)] sh_65_73 (ax_w (ax_w (ax_w (ax_w (ax_w (ax_w (ax_w (ax_w μ 64 62 32) 64 63 32) 64 64 109) 64 65 111) 64 66 114) 64 67 101) 64 68 32) 64 69 32)
  refine ax_dup (pc := 877) (ax_dd KX10_init_23 5 rfl) rfl ?_
  refine ax_bipush (pc := 878) (v := 70) (ax_dd KX10_init_23 6 rfl) (by decide) ?_
  refine ax_bipush (pc := 880) (v := 32) (ax_dd KX10_init_23 7 rfl) (by decide) ?_
  refine ax_iast (pc := 882) (k := 64) (n := 96) (ax_dd KX10_init_23 8 rfl) rfl (ax_inC (by decide)) ?_
  show ax_X G l RX10 cX10_init 2 none true 7 _ 883 [(0, .ref (G.1 + 51))] [.ref (G.1 + 64), .ref (G.1 + 51)] sh_65_73 (ax_w (ax_w (ax_w (ax_w (ax_w (ax_w (ax_w (ax_w (ax_w μ 64 62 32) 64 63 32) 64 64 109) 64 65 111) 64 66 114) 64 67 101) 64 68 32) 64 69 32) 64 70 32)
  refine ax_dup (pc := 883) (ax_dd KX10_init_23 9 rfl) rfl ?_
  refine ax_bipush (pc := 884) (v := 71) (ax_dd KX10_init_23 10 rfl) (by decide) ?_
  refine ax_bipush (pc := 886) (v := 32) (ax_dd KX10_init_23 11 rfl) (by decide) ?_
  refine ax_iast (pc := 888) (k := 64) (n := 96) (ax_dd KX10_init_23 12 rfl) rfl (ax_inC (by decide)) ?_
  show ax_X G l RX10 cX10_init 2 none true 7 _ 889 [(0, .ref (G.1 + 51))] [.ref (G.1 + 64), .ref (G.1 + 51)] sh_65_73 (ax_w (ax_w (ax_w (ax_w (ax_w (ax_w (ax_w (ax_w (ax_w (ax_w μ 64 62 32) 64 63 32) 64 64 109) 64 65 111) 64 66 114) 64 67 101) 64 68 32) 64 69 32) 64 70 32) 64 71 32)
  refine ax_dup (pc := 889) (ax_dd KX10_init_23 13 rfl) rfl ?_
  refine ax_bipush (pc := 890) (v := 72) (ax_dd KX10_init_23 14 rfl) (by decide) ?_
  refine ax_bipush (pc := 892) (v := 111) (ax_dd KX10_init_23 15 rfl) (by decide) ?_
  refine ax_iast (pc := 894) (k := 64) (n := 96) (ax_dd KX10_init_23 16 rfl) rfl (ax_inC (by decide)) ?_
  show ax_X G l RX10 cX10_init 2 none true 7 _ 895 [(0, .ref (G.1 + 51))] [.ref (G.1 + 64), .ref (G.1 + 51)] sh_65_73 (ax_w (ax_w (ax_w (ax_w (ax_w (ax_w (ax_w (ax_w (ax_w (ax_w (ax_w μ 64 62 32) 64 63 32) 64 64 109) 64 65 111) 64 66 114) 64 67 101) 64 68 32) 64 69 32) 64 70 32) 64 71 32) 64 72 111)
  refine ax_dup (pc := 895) (ax_dd KX10_init_23 17 rfl) rfl ?_
  refine ax_bipush (pc := 896) (v := 73) (ax_dd KX10_init_23 18 rfl) (by decide) ?_
  refine ax_bipush (pc := 898) (v := 114) (ax_dd KX10_init_23 19 rfl) (by decide) ?_
  refine ax_iast (pc := 900) (k := 64) (n := 96) (ax_dd KX10_init_23 20 rfl) rfl (ax_inC (by decide)) ?_
  show ax_X G l RX10 cX10_init 2 none true 7 _ 901 [(0, .ref (G.1 + 51))] [.ref (G.1 + 64), .ref (G.1 + 51)] sh_65_73 (ax_w (ax_w (ax_w (ax_w (ax_w (ax_w (ax_w (ax_w (ax_w (ax_w (ax_w (ax_w μ 64 62 32) 64 63 32) 64 64 109) 64 65 111) 64 66 114) 64 67 101) 64 68 32) 64 69 32) 64 70 32) 64 71 32) 64 72 111) 64 73 114)
  refine ax_dup (pc := 901) (ax_dd KX10_init_23 21 rfl) rfl ?_
  refine ax_bipush (pc := 902) (v := 74) (ax_dd KX10_init_23 22 rfl) (by decide) ?_
  refine ax_bipush (pc := 904) (v := 32) (ax_dd KX10_init_23 23 rfl) (by decide) ?_
  refine ax_iast (pc := 906) (k := 64) (n := 96) (ax_dd KX10_init_23 24 rfl) rfl (ax_inC (by decide)) ?_
  show ax_X G l RX10 cX10_init 2 none true 7 _ 907 [(0, .ref (G.1 + 51))] [.ref (G.1 + 64), .ref (G.1 + 51)] sh_65_73 (ax_w (ax_w (ax_w (ax_w (ax_w (ax_w (ax_w (ax_w (ax_w (ax_w (ax_w (ax_w (ax_w μ 64 62 32) 64 63 32) 64 64 109) 64 65 111) 64 66 114) 64 67 101) 64 68 32) 64 69 32) 64 70 32) 64 71 32) 64 72 111) 64 73 114) 64 74 32)
  refine ax_dup (pc := 907) (ax_dd KX10_init_24 0 rfl) rfl ?_
  refine ax_bipush (pc := 908) (v := 75) (ax_dd KX10_init_24 1 rfl) (by decide) ?_
  refine ax_bipush (pc := 910) (v := 32) (ax_dd KX10_init_24 2 rfl) (by decide) ?_
  refine ax_iast (pc := 912) (k := 64) (n := 96) (ax_dd KX10_init_24 3 rfl) rfl (ax_inC (by decide)) ?_
  show ax_X G l RX10 cX10_init 2 none true 7 _ 913 [(0, .ref (G.1 + 51))] [.ref (G.1 + 64), .ref (G.1 + 51)] sh_65_73 (ax_w (ax_w (ax_w (ax_w (ax_w (ax_w (ax_w (ax_w (ax_w (ax_w (ax_w (ax_w (ax_w (ax_w μ 64 62 32) 64 63 32) 64 64 109) 64 65 111) 64 66 114) 64 67 101) 64 68 32) 64 69 32) 64 70 32) 64 71 32) 64 72 111) 64 73 114) 64 74 32) 64 75 32)
  refine ax_dup (pc := 913) (ax_dd KX10_init_24 4 rfl) rfl ?_
  refine ax_bipush (pc := 914) (v := 76) (ax_dd KX10_init_24 5 rfl) (by decide) ?_
  refine ax_bipush (pc := 916) (v := 32) (ax_dd KX10_init_24 6 rfl) (by decide) ?_
  refine ax_iast (pc := 918) (k := 64) (n := 96) (ax_dd KX10_init_24 7 rfl) rfl (ax_inC (by decide)) ?_
  show ax_X G l RX10 cX10_init 2 none true 7 _ 919 [(0, .ref (G.1 + 51))] [.ref (G.1 + 64), .ref (G.1 + 51)] sh_65_73 (ax_w (ax_w (ax_w (ax_w (ax_w (ax_w (ax_w (ax_w (ax_w (ax_w (ax_w (ax_w (ax_w (ax_w (ax_w μ 64 62 32) 64 63 32) 64 64 109) 64 65 111) 64 66 114) 64 67 101) 64 68 32) 64 69 32) 64 70 32) 64 71 32) 64 72 111) 64 73 114) 64 74 32) 64 75 32) 64 76 32)
  refine ax_dup (pc := 919) (ax_dd KX10_init_24 8 rfl) rfl ?_
  exact a_X10_init_920 h
def m_X10_init_738 (s3 : Int32) (s4 : Int32) (μ : ax_M) : Option (ax_M) :=
  (ix 96 s3).bind fun j1 =>
  m_X10_init_829 (ax_w (ax_w (ax_w (ax_w (ax_w (ax_w (ax_w (ax_w (ax_w (ax_w (ax_w (ax_w (ax_w (ax_w (ax_w (ax_w μ 64 j1 s4) 64 47 32) 64 48 103) 64 49 117) 64 50 101) 64 51 115) 64 52 116) 64 53 115) 64 54 32) 64 55 32) 64 56 115) 64 57 105) 64 58 122) 64 59 101) 64 60 32) 64 61 32)
set_option maxRecDepth 100000 in
set_option maxHeartbeats 8000000 in
theorem a_X10_init_738 {G : ax_G} {l : Launch} {s3 : Int32} {s4 : Int32} {μ : ax_M} {v : ax_M} (h : m_X10_init_738 s3 s4 μ = some v) : ax_X G l RX10 cX10_init 2 none true 7 (none, SHF, v) 738 [(0, .ref (G.1 + 51))] [.int s4, .int s3, .ref (G.1 + 64), .ref (G.1 + 64), .ref (G.1 + 51)] sh_65_73 μ := by
  unfold m_X10_init_738 at h
  obtain ⟨j1, b2, h⟩ := ob_bind h
  refine ax_ist (pc := 738) (k := 64) (N := 96) (j := j1) (ax_dd KX10_init_19 12 rfl) rfl b2 ?_
  refine ax_dup (pc := 739) (ax_dd KX10_init_19 13 rfl) rfl ?_
  refine ax_bipush (pc := 740) (v := 47) (ax_dd KX10_init_19 14 rfl) (by decide) ?_
  refine ax_bipush (pc := 742) (v := 32) (ax_dd KX10_init_19 15 rfl) (by decide) ?_
  refine ax_iast (pc := 744) (k := 64) (n := 96) (ax_dd KX10_init_19 16 rfl) rfl (ax_inC (by decide)) ?_
  show ax_X G l RX10 cX10_init 2 none true 7 _ 745 [(0, .ref (G.1 + 51))] [.ref (G.1 + 64), .ref (G.1 + 51)] sh_65_73 (ax_w (ax_w μ 64 j1 s4) 64 47 32)
  refine ax_dup (pc := 745) (ax_dd KX10_init_19 17 rfl) rfl ?_
  refine ax_bipush (pc := 746) (v := 48) (ax_dd KX10_init_19 18 rfl) (by decide) ?_
  refine ax_bipush (pc := 748) (v := 103) (ax_dd KX10_init_19 19 rfl) (by decide) ?_
  refine ax_iast (pc := 750) (k := 64) (n := 96) (ax_dd KX10_init_19 20 rfl) rfl (ax_inC (by decide)) ?_
  show ax_X G l RX10 cX10_init 2 none true 7 _ 751 [(0, .ref (G.1 + 51))] [.ref (G.1 + 64), .ref (G.1 + 51)] sh_65_73 (ax_w (ax_w (ax_w μ 64 j1 s4) 64 47 32) 64 48 103)
  refine ax_dup (pc := 751) (ax_dd KX10_init_19 21 rfl) rfl ?_
  refine ax_bipush (pc := 752) (v := 49) (ax_dd KX10_init_19 22 rfl) (by decide) ?_
  refine ax_bipush (pc := 754) (v := 117) (ax_dd KX10_init_19 23 rfl) (by decide) ?_
  refine ax_iast (pc := 756) (k := 64) (n := 96) (ax_dd KX10_init_19 24 rfl) rfl (ax_inC (by decide)) ?_
  show ax_X G l RX10 cX10_init 2 none true 7 _ 757 [(0, .ref (G.1 + 51))] [.ref (G.1 + 64), .ref (G.1 + 51)] sh_65_73 (ax_w (ax_w (ax_w (ax_w μ 64 j1 s4) 64 47 32) 64 48 103) 64 49 117)
  refine ax_dup (pc := 757) (ax_dd KX10_init_20 0 rfl) rfl ?_
  refine ax_bipush (pc := 758) (v := 50) (ax_dd KX10_init_20 1 rfl) (by decide) ?_
  refine ax_bipush (pc := 760) (v := 101) (ax_dd KX10_init_20 2 rfl) (by decide) ?_
  refine ax_iast (pc := 762) (k := 64) (n := 96) (ax_dd KX10_init_20 3 rfl) rfl (ax_inC (by decide)) ?_
  show ax_X G l RX10 cX10_init 2 none true 7 _ 763 [(0, .ref (G.1 + 51))] [.ref (G.1 + 64), .ref (G.1 + 51)] sh_65_73 (ax_w (ax_w (ax_w (ax_w (ax_w μ 64 j1 s4) 64 47 32) 64 48 103) 64 49 117) 64 50 101)
  refine ax_dup (pc := 763) (ax_dd KX10_init_20 4 rfl) rfl ?_
  refine ax_bipush (pc := 764) (v := 51) (ax_dd KX10_init_20 5 rfl) (by decide) ?_
  refine ax_bipush (pc := 766) (v := 115) (ax_dd KX10_init_20 6 rfl) (by decide) ?_
  refine ax_iast (pc := 768) (k := 64) (n := 96) (ax_dd KX10_init_20 7 rfl) rfl (ax_inC (by decide)) ?_
  show ax_X G l RX10 cX10_init 2 none true 7 _ 769 [(0, .ref (G.1 + 51))] [.ref (G.1 + 64), .ref (G.1 + 51)] sh_65_73 (ax_w (ax_w (ax_w (ax_w (ax_w (ax_w μ 64 j1 s4) 64 47 32) 64 48 103) 64 49 117) 64 50 101) 64 51 115)
  refine ax_dup (pc := 769) (ax_dd KX10_init_20 8 rfl) rfl ?_
  refine ax_bipush (pc := 770) (v := 52) (ax_dd KX10_init_20 9 rfl) (by decide) ?_
  refine ax_bipush (pc := 772) (v := 116) (ax_dd KX10_init_20 10 rfl) (by decide) ?_
  refine ax_iast (pc := 774) (k := 64) (n := 96) (ax_dd KX10_init_20 11 rfl) rfl (ax_inC (by decide)) ?_
  show ax_X G l RX10 cX10_init 2 none true 7 _ 775 [(0, .ref (G.1 + 51))] [.ref (G.1 + 64), .ref (G.1 + 51)] sh_65_73 (ax_w (ax_w (ax_w (ax_w (ax_w (ax_w (ax_w μ 64 j1 s4) 64 47 32) 64 48 103) 64 49 117) 64 50 101) 64 51 115) 64 52 116)
  refine ax_dup (pc := 775) (ax_dd KX10_init_20 12 rfl) rfl ?_
  refine ax_bipush (pc := 776) (v := 53) (ax_dd KX10_init_20 13 rfl) (by decide) ?_
  refine ax_bipush (pc := 778) (v := 115) (ax_dd KX10_init_20 14 rfl) (by decide) ?_
  refine ax_iast (pc := 780) (k := 64) (n := 96) (ax_dd KX10_init_20 15 rfl) rfl (ax_inC (by decide)) ?_
  show ax_X G l RX10 cX10_init 2 none true 7 _ 781 [(0, .ref (G.1 + 51))] [.ref (G.1 + 64), .ref (G.1 + 51)] sh_65_73 (ax_w (ax_w (ax_w (ax_w (ax_w (ax_w (ax_w (ax_w μ 64 j1 s4) 64 47 32) 64 48 103) 64 49 117) 64 50 101) 64 51 115) 64 52 116) 64 53 115)
  refine ax_dup (pc := 781) (ax_dd KX10_init_20 16 rfl) rfl ?_
  refine ax_bipush (pc := 782) (v := 54) (ax_dd KX10_init_20 17 rfl) (by decide) ?_
  refine ax_bipush (pc := 784) (v := 32) (ax_dd KX10_init_20 18 rfl) (by decide) ?_
  refine ax_iast (pc := 786) (k := 64) (n := 96) (ax_dd KX10_init_20 19 rfl) rfl (ax_inC (by decide)) ?_
  show ax_X G l RX10 cX10_init 2 none true 7 _ 787 [(0, .ref (G.1 + 51))] [.ref (G.1 + 64), .ref (G.1 + 51)] sh_65_73 (ax_w (ax_w (ax_w (ax_w (ax_w (ax_w (ax_w (ax_w (ax_w μ 64 j1 s4) 64 47 32) 64 48 103) 64 49 117) 64 50 101) 64 51 115) 64 52 116) 64 53 115) 64 54 32)
  refine ax_dup (pc := 787) (ax_dd KX10_init_20 20 rfl) rfl ?_
  refine ax_bipush (pc := 788) (v := 55) (ax_dd KX10_init_20 21 rfl) (by decide) ?_
  refine ax_bipush (pc := 790) (v := 32) (ax_dd KX10_init_20 22 rfl) (by decide) ?_
  refine ax_iast (pc := 792) (k := 64) (n := 96) (ax_dd KX10_init_20 23 rfl) rfl (ax_inC (by decide)) ?_
  show ax_X G l RX10 cX10_init 2 none true 7 _ 793 [(0, .ref (G.1 + 51))] [.ref (G.1 + 64), .ref (G.1 + 51)] sh_65_73 (ax_w (ax_w (ax_w (ax_w (ax_w (ax_w (ax_w (ax_w (ax_w (ax_w μ 64 j1 s4) 64 47 32) 64 48 103) 64 49 117) 64 50 101) 64 51 115) 64 52 116) 64 53 115) 64 54 32) 64 55 32)
  refine ax_dup (pc := 793) (ax_dd KX10_init_20 24 rfl) rfl ?_
  refine ax_bipush (pc := 794) (v := 56) (ax_dd KX10_init_21 0 rfl) (by decide) ?_
  refine ax_bipush (pc := 796) (v := 115) (ax_dd KX10_init_21 1 rfl) (by decide) ?_
  refine ax_iast (pc := 798) (k := 64) (n := 96) (ax_dd KX10_init_21 2 rfl) rfl (ax_inC (by decide)) ?_
  show ax_X G l RX10 cX10_init 2 none true 7 _ 799 [(0, .ref (G.1 + 51))] [.ref (G.1 + 64), .ref (G.1 + 51)] sh_65_73 (ax_w (ax_w (ax_w (ax_w (ax_w (ax_w (ax_w (ax_w (ax_w (ax_w (ax_w μ 64 j1 s4) 64 47 32) 64 48 103) 64 49 117) 64 50 101) 64 51 115) 64 52 116) 64 53 115) 64 54 32) 64 55 32) 64 56 115)
  refine ax_dup (pc := 799) (ax_dd KX10_init_21 3 rfl) rfl ?_
  refine ax_bipush (pc := 800) (v := 57) (ax_dd KX10_init_21 4 rfl) (by decide) ?_
  refine ax_bipush (pc := 802) (v := 105) (ax_dd KX10_init_21 5 rfl) (by decide) ?_
  refine ax_iast (pc := 804) (k := 64) (n := 96) (ax_dd KX10_init_21 6 rfl) rfl (ax_inC (by decide)) ?_
  show ax_X G l RX10 cX10_init 2 none true 7 _ 805 [(0, .ref (G.1 + 51))] [.ref (G.1 + 64), .ref (G.1 + 51)] sh_65_73 (ax_w (ax_w (ax_w (ax_w (ax_w (ax_w (ax_w (ax_w (ax_w (ax_w (ax_w (ax_w μ 64 j1 s4) 64 47 32) 64 48 103) 64 49 117) 64 50 101) 64 51 115) 64 52 116) 64 53 115) 64 54 32) 64 55 32) 64 56 115) 64 57 105)
  refine ax_dup (pc := 805) (ax_dd KX10_init_21 7 rfl) rfl ?_
  refine ax_bipush (pc := 806) (v := 58) (ax_dd KX10_init_21 8 rfl) (by decide) ?_
  refine ax_bipush (pc := 808) (v := 122) (ax_dd KX10_init_21 9 rfl) (by decide) ?_
  refine ax_iast (pc := 810) (k := 64) (n := 96) (ax_dd KX10_init_21 10 rfl) rfl (ax_inC (by decide)) ?_
  show ax_X G l RX10 cX10_init 2 none true 7 _ 811 [(0, .ref (G.1 + 51))] [.ref (G.1 + 64), .ref (G.1 + 51)] sh_65_73 (ax_w (ax_w (ax_w (ax_w (ax_w (ax_w (ax_w (ax_w (ax_w (ax_w (ax_w (ax_w (ax_w μ 64 j1 s4) 64 47 32) 64 48 103) 64 49 117) 64 50 101) 64 51 115) 64 52 116) 64 53 115) 64 54 32) 64 55 32) 64 56 115) 64 57 105) 64 58 122)
  refine ax_dup (pc := 811) (ax_dd KX10_init_21 11 rfl) rfl ?_
  refine ax_bipush (pc := 812) (v := 59) (ax_dd KX10_init_21 12 rfl) (by decide) ?_
  refine ax_bipush (pc := 814) (v := 101) (ax_dd KX10_init_21 13 rfl) (by decide) ?_
  refine ax_iast (pc := 816) (k := 64) (n := 96) (ax_dd KX10_init_21 14 rfl) rfl (ax_inC (by decide)) ?_
  show ax_X G l RX10 cX10_init 2 none true 7 _ 817 [(0, .ref (G.1 + 51))] [.ref (G.1 + 64), .ref (G.1 + 51)] sh_65_73 (ax_w (ax_w (ax_w (ax_w (ax_w (ax_w (ax_w (ax_w (ax_w (ax_w (ax_w (ax_w (ax_w (ax_w μ 64 j1 s4) 64 47 32) 64 48 103) 64 49 117) 64 50 101) 64 51 115) 64 52 116) 64 53 115) 64 54 32) 64 55 32) 64 56 115) 64 57 105) 64 58 122) 64 59 101)
  refine ax_dup (pc := 817) (ax_dd KX10_init_21 15 rfl) rfl ?_
  refine ax_bipush (pc := 818) (v := 60) (ax_dd KX10_init_21 16 rfl) (by decide) ?_
  refine ax_bipush (pc := 820) (v := 32) (ax_dd KX10_init_21 17 rfl) (by decide) ?_
  refine ax_iast (pc := 822) (k := 64) (n := 96) (ax_dd KX10_init_21 18 rfl) rfl (ax_inC (by decide)) ?_
  show ax_X G l RX10 cX10_init 2 none true 7 _ 823 [(0, .ref (G.1 + 51))] [.ref (G.1 + 64), .ref (G.1 + 51)] sh_65_73 (ax_w (ax_w (ax_w (ax_w (ax_w (ax_w (ax_w (ax_w (ax_w (ax_w (ax_w (ax_w (ax_w (ax_w (ax_w μ 64 j1 s4) 64 47 32) 64 48 103) 64 49 117) 64 50 101) 64 51 115) 64 52 116) 64 53 115) 64 54 32) 64 55 32) 64 56 115) 64 57 105) 64 58 122) 64 59 101) 64 60 32)
  refine ax_dup (pc := 823) (ax_dd KX10_init_21 19 rfl) rfl ?_
  refine ax_bipush (pc := 824) (v := 61) (ax_dd KX10_init_21 20 rfl) (by decide) ?_
  refine ax_bipush (pc := 826) (v := 32) (ax_dd KX10_init_21 21 rfl) (by decide) ?_
  refine ax_iast (pc := 828) (k := 64) (n := 96) (ax_dd KX10_init_21 22 rfl) rfl (ax_inC (by decide)) ?_
  show ax_X G l RX10 cX10_init 2 none true 7 _ 829 [(0, .ref (G.1 + 51))] [.ref (G.1 + 64), .ref (G.1 + 51)] sh_65_73 (ax_w (ax_w (ax_w (ax_w (ax_w (ax_w (ax_w (ax_w (ax_w (ax_w (ax_w (ax_w (ax_w (ax_w (ax_w (ax_w μ 64 j1 s4) 64 47 32) 64 48 103) 64 49 117) 64 50 101) 64 51 115) 64 52 116) 64 53 115) 64 54 32) 64 55 32) 64 56 115) 64 57 105) 64 58 122) 64 59 101) 64 60 32) 64 61 32)
  exact a_X10_init_829 h
def m_X10_init_646 (s3 : Int32) (μ : ax_M) : Option (ax_M) :=
  (ix 96 s3).bind fun j1 =>
  m_X10_init_738 46 32 (ax_w (ax_w (ax_w (ax_w (ax_w (ax_w (ax_w (ax_w (ax_w (ax_w (ax_w (ax_w (ax_w (ax_w (ax_w μ 64 j1 32) 64 32 114) 64 33 111) 64 34 119) 64 35 32) 64 36 32) 64 37 32) 64 38 32) 64 39 32) 64 40 104) 64 41 111) 64 42 117) 64 43 114) 64 44 32) 64 45 32)
set_option maxRecDepth 100000 in
set_option maxHeartbeats 8000000 in
theorem a_X10_init_646 {G : ax_G} {l : Launch} {s3 : Int32} {μ : ax_M} {v : ax_M} (h : m_X10_init_646 s3 μ = some v) : ax_X G l RX10 cX10_init 2 none true 7 (none, SHF, v) 646 [(0, .ref (G.1 + 51))] [.int s3, .ref (G.1 + 64), .ref (G.1 + 64), .ref (G.1 + 51)] sh_65_73 μ := by
  unfold m_X10_init_646 at h
  refine ax_bipush (pc := 646) (v := 32) (ax_dd KX10_init_17 1 rfl) (by decide) ?_
  obtain ⟨j1, b2, h⟩ := ob_bind h
  refine ax_ist (pc := 648) (k := 64) (N := 96) (j := j1) (ax_dd KX10_init_17 2 rfl) rfl b2 ?_
  refine ax_dup (pc := 649) (ax_dd KX10_init_17 3 rfl) rfl ?_
  refine ax_bipush (pc := 650) (v := 32) (ax_dd KX10_init_17 4 rfl) (by decide) ?_
  refine ax_bipush (pc := 652) (v := 114) (ax_dd KX10_init_17 5 rfl) (by decide) ?_
  refine ax_iast (pc := 654) (k := 64) (n := 96) (ax_dd KX10_init_17 6 rfl) rfl (ax_inC (by decide)) ?_
  show ax_X G l RX10 cX10_init 2 none true 7 _ 655 [(0, .ref (G.1 + 51))] [.ref (G.1 + 64), .ref (G.1 + 51)] sh_65_73 (ax_w (ax_w μ 64 j1 32) 64 32 114)
  refine ax_dup (pc := 655) (ax_dd KX10_init_17 7 rfl) rfl ?_
  refine ax_bipush (pc := 656) (v := 33) (ax_dd KX10_init_17 8 rfl) (by decide) ?_
  refine ax_bipush (pc := 658) (v := 111) (ax_dd KX10_init_17 9 rfl) (by decide) ?_
  refine ax_iast (pc := 660) (k := 64) (n := 96) (ax_dd KX10_init_17 10 rfl) rfl (ax_inC (by decide)) ?_
  show ax_X G l RX10 cX10_init 2 none true 7 _ 661 [(0, .ref (G.1 + 51))] [.ref (G.1 + 64), .ref (G.1 + 51)] sh_65_73 (ax_w (ax_w (ax_w μ 64 j1 32) 64 32 114) 64 33 111)
  refine ax_dup (pc := 661) (ax_dd KX10_init_17 11 rfl) rfl ?_
  refine ax_bipush (pc := 662) (v := 34) (ax_dd KX10_init_17 12 rfl) (by decide) ?_
  refine ax_bipush (pc := 664) (v := 119) (ax_dd KX10_init_17 13 rfl) (by decide) ?_
  refine ax_iast (pc := 666) (k := 64) (n := 96) (ax_dd KX10_init_17 14 rfl) rfl (ax_inC (by decide)) ?_
  show ax_X G l RX10 cX10_init 2 none true 7 _ 667 [(0, .ref (G.1 + 51))] [.ref (G.1 + 64), .ref (G.1 + 51)] sh_65_73 (ax_w (ax_w (ax_w (ax_w μ 64 j1 32) 64 32 114) 64 33 111) 64 34 119)
  refine ax_dup (pc := 667) (ax_dd KX10_init_17 15 rfl) rfl ?_
  refine ax_bipush (pc := 668) (v := 35) (ax_dd KX10_init_17 16 rfl) (by decide) ?_
  refine ax_bipush (pc := 670) (v := 32) (ax_dd KX10_init_17 17 rfl) (by decide) ?_
  refine ax_iast (pc := 672) (k := 64) (n := 96) (ax_dd KX10_init_17 18 rfl) rfl (ax_inC (by decide)) ?_
  show ax_X G l RX10 cX10_init 2 none true 7 _ 673 [(0, .ref (G.1 + 51))] [.ref (G.1 + 64), .ref (G.1 + 51)] sh_65_73 (ax_w (ax_w (ax_w (ax_w (ax_w μ 64 j1 32) 64 32 114) 64 33 111) 64 34 119) 64 35 32)
  refine ax_dup (pc := 673) (ax_dd KX10_init_17 19 rfl) rfl ?_
  refine ax_bipush (pc := 674) (v := 36) (ax_dd KX10_init_17 20 rfl) (by decide) ?_
  refine ax_bipush (pc := 676) (v := 32) (ax_dd KX10_init_17 21 rfl) (by decide) ?_
  refine ax_iast (pc := 678) (k := 64) (n := 96) (ax_dd KX10_init_17 22 rfl) rfl (ax_inC (by decide)) ?_
  show ax_X G l RX10 cX10_init 2 none true 7 _ 679 [(0, .ref (G.1 + 51))] [.ref (G.1 + 64), .ref (G.1 + 51)] sh_65_73 (ax_w (ax_w (ax_w (ax_w (ax_w (ax_w μ 64 j1 32) 64 32 114) 64 33 111) 64 34 119) 64 35 32) 64 36 32)
  refine ax_dup (pc := 679) (ax_dd KX10_init_17 23 rfl) rfl ?_
  refine ax_bipush (pc := 680) (v := 37) (ax_dd KX10_init_17 24 rfl) (by decide) ?_
  refine ax_bipush (pc := 682) (v := 32) (ax_dd KX10_init_18 0 rfl) (by decide) ?_
  refine ax_iast (pc := 684) (k := 64) (n := 96) (ax_dd KX10_init_18 1 rfl) rfl (ax_inC (by decide)) ?_
  show ax_X G l RX10 cX10_init 2 none true 7 _ 685 [(0, .ref (G.1 + 51))] [.ref (G.1 + 64), .ref (G.1 + 51)] sh_65_73 (ax_w (ax_w (ax_w (ax_w (ax_w (ax_w (ax_w μ 64 j1 32) 64 32 114) 64 33 111) 64 34 119) 64 35 32) 64 36 32) 64 37 32)
  refine ax_dup (pc := 685) (ax_dd KX10_init_18 2 rfl) rfl ?_
  refine ax_bipush (pc := 686) (v := 38) (ax_dd KX10_init_18 3 rfl) (by decide) ?_
  refine ax_bipush (pc := 688) (v := 32) (ax_dd KX10_init_18 4 rfl) (by decide) ?_
  refine ax_iast (pc := 690) (k := 64) (n := 96) (ax_dd KX10_init_18 5 rfl) rfl (ax_inC (by decide)) ?_
  show ax_X G l RX10 cX10_init 2 none true 7 _ 691 [(0, .ref (G.1 + 51))] [.ref (G.1 + 64), .ref (G.1 + 51)] sh_65_73 (ax_w (ax_w (ax_w (ax_w (ax_w (ax_w (ax_w (ax_w μ 64 j1 32) 64 32 114) 64 33 111) 64 34 119) 64 35 32) 64 36 32) 64 37 32) 64 38 32)
  refine ax_dup (pc := 691) (ax_dd KX10_init_18 6 rfl) rfl ?_
  refine ax_bipush (pc := 692) (v := 39) (ax_dd KX10_init_18 7 rfl) (by decide) ?_
  refine ax_bipush (pc := 694) (v := 32) (ax_dd KX10_init_18 8 rfl) (by decide) ?_
  refine ax_iast (pc := 696) (k := 64) (n := 96) (ax_dd KX10_init_18 9 rfl) rfl (ax_inC (by decide)) ?_
  show ax_X G l RX10 cX10_init 2 none true 7 _ 697 [(0, .ref (G.1 + 51))] [.ref (G.1 + 64), .ref (G.1 + 51)] sh_65_73 (ax_w (ax_w (ax_w (ax_w (ax_w (ax_w (ax_w (ax_w (ax_w μ 64 j1 32) 64 32 114) 64 33 111) 64 34 119) 64 35 32) 64 36 32) 64 37 32) 64 38 32) 64 39 32)
  refine ax_dup (pc := 697) (ax_dd KX10_init_18 10 rfl) rfl ?_
  refine ax_bipush (pc := 698) (v := 40) (ax_dd KX10_init_18 11 rfl) (by decide) ?_
  refine ax_bipush (pc := 700) (v := 104) (ax_dd KX10_init_18 12 rfl) (by decide) ?_
  refine ax_iast (pc := 702) (k := 64) (n := 96) (ax_dd KX10_init_18 13 rfl) rfl (ax_inC (by decide)) ?_
  show ax_X G l RX10 cX10_init 2 none true 7 _ 703 [(0, .ref (G.1 + 51))] [.ref (G.1 + 64), .ref (G.1 + 51)] sh_65_73 (ax_w (ax_w (ax_w (ax_w (ax_w (ax_w (ax_w (ax_w (ax_w (ax_w μ 64 j1 32) 64 32 114) 64 33 111) 64 34 119) 64 35 32) 64 36 32) 64 37 32) 64 38 32) 64 39 32) 64 40 104)
  refine ax_dup (pc := 703) (ax_dd KX10_init_18 14 rfl) rfl ?_
  refine ax_bipush (pc := 704) (v := 41) (ax_dd KX10_init_18 15 rfl) (by decide) ?_
  refine ax_bipush (pc := 706) (v := 111) (ax_dd KX10_init_18 16 rfl) (by decide) ?_
  refine ax_iast (pc := 708) (k := 64) (n := 96) (ax_dd KX10_init_18 17 rfl) rfl (ax_inC (by decide)) ?_
  show ax_X G l RX10 cX10_init 2 none true 7 _ 709 [(0, .ref (G.1 + 51))] [.ref (G.1 + 64), .ref (G.1 + 51)] sh_65_73 (ax_w (ax_w (ax_w (ax_w (ax_w (ax_w (ax_w (ax_w (ax_w (ax_w (ax_w μ 64 j1 32) 64 32 114) 64 33 111) 64 34 119) 64 35 32) 64 36 32) 64 37 32) 64 38 32) 64 39 32) 64 40 104) 64 41 111)
  refine ax_dup (pc := 709) (ax_dd KX10_init_18 18 rfl) rfl ?_
  refine ax_bipush (pc := 710) (v := 42) (ax_dd KX10_init_18 19 rfl) (by decide) ?_
  refine ax_bipush (pc := 712) (v := 117) (ax_dd KX10_init_18 20 rfl) (by decide) ?_
  refine ax_iast (pc := 714) (k := 64) (n := 96) (ax_dd KX10_init_18 21 rfl) rfl (ax_inC (by decide)) ?_
  show ax_X G l RX10 cX10_init 2 none true 7 _ 715 [(0, .ref (G.1 + 51))] [.ref (G.1 + 64), .ref (G.1 + 51)] sh_65_73 (ax_w (ax_w (ax_w (ax_w (ax_w (ax_w (ax_w (ax_w (ax_w (ax_w (ax_w (ax_w μ 64 j1 32) 64 32 114) 64 33 111) 64 34 119) 64 35 32) 64 36 32) 64 37 32) 64 38 32) 64 39 32) 64 40 104) 64 41 111) 64 42 117)
  refine ax_dup (pc := 715) (ax_dd KX10_init_18 22 rfl) rfl ?_
  refine ax_bipush (pc := 716) (v := 43) (ax_dd KX10_init_18 23 rfl) (by decide) ?_
  refine ax_bipush (pc := 718) (v := 114) (ax_dd KX10_init_18 24 rfl) (by decide) ?_
  refine ax_iast (pc := 720) (k := 64) (n := 96) (ax_dd KX10_init_19 0 rfl) rfl (ax_inC (by decide)) ?_
  show ax_X G l RX10 cX10_init 2 none true 7 _ 721 [(0, .ref (G.1 + 51))] [.ref (G.1 + 64), .ref (G.1 + 51)] sh_65_73 (ax_w (ax_w (ax_w (ax_w (ax_w (ax_w (ax_w (ax_w (ax_w (ax_w (ax_w (ax_w (ax_w μ 64 j1 32) 64 32 114) 64 33 111) 64 34 119) 64 35 32) 64 36 32) 64 37 32) 64 38 32) 64 39 32) 64 40 104) 64 41 111) 64 42 117) 64 43 114)
  refine ax_dup (pc := 721) (ax_dd KX10_init_19 1 rfl) rfl ?_
  refine ax_bipush (pc := 722) (v := 44) (ax_dd KX10_init_19 2 rfl) (by decide) ?_
  refine ax_bipush (pc := 724) (v := 32) (ax_dd KX10_init_19 3 rfl) (by decide) ?_
  refine ax_iast (pc := 726) (k := 64) (n := 96) (ax_dd KX10_init_19 4 rfl) rfl (ax_inC (by decide)) ?_
  show ax_X G l RX10 cX10_init 2 none true 7 _ 727 [(0, .ref (G.1 + 51))] [.ref (G.1 + 64), .ref (G.1 + 51)] sh_65_73 (ax_w (ax_w (ax_w (ax_w (ax_w (ax_w (ax_w (ax_w (ax_w (ax_w (ax_w (ax_w (ax_w (ax_w μ 64 j1 32) 64 32 114) 64 33 111) 64 34 119) 64 35 32) 64 36 32) 64 37 32) 64 38 32) 64 39 32) 64 40 104) 64 41 111) 64 42 117) 64 43 114) 64 44 32)
  refine ax_dup (pc := 727) (ax_dd KX10_init_19 5 rfl) rfl ?_
  refine ax_bipush (pc := 728) (v := 45) (ax_dd KX10_init_19 6 rfl) (by decide) ?_
  refine ax_bipush (pc := 730) (v := 32) (ax_dd KX10_init_19 7 rfl) (by decide) ?_
  refine ax_iast (pc := 732) (k := 64) (n := 96) (ax_dd KX10_init_19 8 rfl) rfl (ax_inC (by decide)) ?_
  show ax_X G l RX10 cX10_init 2 none true 7 _ 733 [(0, .ref (G.1 + 51))] [.ref (G.1 + 64), .ref (G.1 + 51)] sh_65_73 (ax_w (ax_w (ax_w (ax_w (ax_w (ax_w (ax_w (ax_w (ax_w (ax_w (ax_w (ax_w (ax_w (ax_w (ax_w μ 64 j1 32) 64 32 114) 64 33 111) 64 34 119) 64 35 32) 64 36 32) 64 37 32) 64 38 32) 64 39 32) 64 40 104) 64 41 111) 64 42 117) 64 43 114) 64 44 32) 64 45 32)
  refine ax_dup (pc := 733) (ax_dd KX10_init_19 9 rfl) rfl ?_
  refine ax_bipush (pc := 734) (v := 46) (ax_dd KX10_init_19 10 rfl) (by decide) ?_
  refine ax_bipush (pc := 736) (v := 32) (ax_dd KX10_init_19 11 rfl) (by decide) ?_
  exact a_X10_init_738 h
def m_X10_init_554 (μ : ax_M) : Option (ax_M) :=
  m_X10_init_646 31 (ax_w (ax_w (ax_w (ax_w (ax_w (ax_w (ax_w (ax_w (ax_w (ax_w (ax_w (ax_w (ax_w (ax_w (ax_w μ 64 16 115) 64 17 108) 64 18 101) 64 19 101) 64 20 112) 64 21 115) 64 22 32) 64 23 32) 64 24 99) 64 25 111) 64 26 108) 64 27 117) 64 28 109) 64 29 110) 64 30 32)
set_option maxRecDepth 100000 in
set_option maxHeartbeats 8000000 in
theorem a_X10_init_554 {G : ax_G} {l : Launch} {μ : ax_M} {v : ax_M} (h : m_X10_init_554 μ = some v) : ax_X G l RX10 cX10_init 2 none true 7 (none, SHF, v) 554 [(0, .ref (G.1 + 51))] [.ref (G.1 + 64), .ref (G.1 + 64), .ref (G.1 + 51)] sh_65_73 μ := by
  unfold m_X10_init_554 at h
  refine ax_bipush (pc := 554) (v := 16) (ax_dd KX10_init_14 15 rfl) (by decide) ?_
  refine ax_bipush (pc := 556) (v := 115) (ax_dd KX10_init_14 16 rfl) (by decide) ?_
  refine ax_iast (pc := 558) (k := 64) (n := 96) (ax_dd KX10_init_14 17 rfl) rfl (ax_inC (by decide)) ?_
  show ax_X G l RX10 cX10_init 2 none true 7 _ 559 [(0, .ref (G.1 + 51))] [.ref (G.1 + 64), .ref (G.1 + 51)] sh_65_73 (ax_w μ 64 16 115)
  refine ax_dup (pc := 559) (ax_dd KX10_init_14 18 rfl) rfl ?_
  refine ax_bipush (pc := 560) (v := 17) (ax_dd KX10_init_14 19 rfl) (by decide) ?_
  refine ax_bipush (pc := 562) (v := 108) (ax_dd KX10_init_14 20 rfl) (by decide) ?_
  refine ax_iast (pc := 564) (k := 64) (n := 96) (ax_dd KX10_init_14 21 rfl) rfl (ax_inC (by decide)) ?_
  show ax_X G l RX10 cX10_init 2 none true 7 _ 565 [(0, .ref (G.1 + 51))] [.ref (G.1 + 64), .ref (G.1 + 51)] sh_65_73 (ax_w (ax_w μ 64 16 115) 64 17 108)
  refine ax_dup (pc := 565) (ax_dd KX10_init_14 22 rfl) rfl ?_
  refine ax_bipush (pc := 566) (v := 18) (ax_dd KX10_init_14 23 rfl) (by decide) ?_
  refine ax_bipush (pc := 568) (v := 101) (ax_dd KX10_init_14 24 rfl) (by decide) ?_
  refine ax_iast (pc := 570) (k := 64) (n := 96) (ax_dd KX10_init_15 0 rfl) rfl (ax_inC (by decide)) ?_
  show ax_X G l RX10 cX10_init 2 none true 7 _ 571 [(0, .ref (G.1 + 51))] [.ref (G.1 + 64), .ref (G.1 + 51)] sh_65_73 (ax_w (ax_w (ax_w μ 64 16 115) 64 17 108) 64 18 101)
  refine ax_dup (pc := 571) (ax_dd KX10_init_15 1 rfl) rfl ?_
  refine ax_bipush (pc := 572) (v := 19) (ax_dd KX10_init_15 2 rfl) (by decide) ?_
  refine ax_bipush (pc := 574) (v := 101) (ax_dd KX10_init_15 3 rfl) (by decide) ?_
  refine ax_iast (pc := 576) (k := 64) (n := 96) (ax_dd KX10_init_15 4 rfl) rfl (ax_inC (by decide)) ?_
  show ax_X G l RX10 cX10_init 2 none true 7 _ 577 [(0, .ref (G.1 + 51))] [.ref (G.1 + 64), .ref (G.1 + 51)] sh_65_73 (ax_w (ax_w (ax_w (ax_w μ 64 16 115) 64 17 108) 64 18 101) 64 19 101)
  refine ax_dup (pc := 577) (ax_dd KX10_init_15 5 rfl) rfl ?_
  refine ax_bipush (pc := 578) (v := 20) (ax_dd KX10_init_15 6 rfl) (by decide) ?_
  refine ax_bipush (pc := 580) (v := 112) (ax_dd KX10_init_15 7 rfl) (by decide) ?_
  refine ax_iast (pc := 582) (k := 64) (n := 96) (ax_dd KX10_init_15 8 rfl) rfl (ax_inC (by decide)) ?_
  show ax_X G l RX10 cX10_init 2 none true 7 _ 583 [(0, .ref (G.1 + 51))] [.ref (G.1 + 64), .ref (G.1 + 51)] sh_65_73 (ax_w (ax_w (ax_w (ax_w (ax_w μ 64 16 115) 64 17 108) 64 18 101) 64 19 101) 64 20 112)
  refine ax_dup (pc := 583) (ax_dd KX10_init_15 9 rfl) rfl ?_
  refine ax_bipush (pc := 584) (v := 21) (ax_dd KX10_init_15 10 rfl) (by decide) ?_
  refine ax_bipush (pc := 586) (v := 115) (ax_dd KX10_init_15 11 rfl) (by decide) ?_
  refine ax_iast (pc := 588) (k := 64) (n := 96) (ax_dd KX10_init_15 12 rfl) rfl (ax_inC (by decide)) ?_
  show ax_X G l RX10 cX10_init 2 none true 7 _ 589 [(0, .ref (G.1 + 51))] [.ref (G.1 + 64), .ref (G.1 + 51)] sh_65_73 (ax_w (ax_w (ax_w (ax_w (ax_w (ax_w μ 64 16 115) 64 17 108) 64 18 101) 64 19 101) 64 20 112) 64 21 115)
  refine ax_dup (pc := 589) (ax_dd KX10_init_15 13 rfl) rfl ?_
  refine ax_bipush (pc := 590) (v := 22) (ax_dd KX10_init_15 14 rfl) (by decide) ?_
  refine ax_bipush (pc := 592) (v := 32) (ax_dd KX10_init_15 15 rfl) (by decide) ?_
  refine ax_iast (pc := 594) (k := 64) (n := 96) (ax_dd KX10_init_15 16 rfl) rfl (ax_inC (by decide)) ?_
  show ax_X G l RX10 cX10_init 2 none true 7 _ 595 [(0, .ref (G.1 + 51))] [.ref (G.1 + 64), .ref (G.1 + 51)] sh_65_73 (ax_w (ax_w (ax_w (ax_w (ax_w (ax_w (ax_w μ 64 16 115) 64 17 108) 64 18 101) 64 19 101) 64 20 112) 64 21 115) 64 22 32)
  refine ax_dup (pc := 595) (ax_dd KX10_init_15 17 rfl) rfl ?_
  refine ax_bipush (pc := 596) (v := 23) (ax_dd KX10_init_15 18 rfl) (by decide) ?_
  refine ax_bipush (pc := 598) (v := 32) (ax_dd KX10_init_15 19 rfl) (by decide) ?_
  refine ax_iast (pc := 600) (k := 64) (n := 96) (ax_dd KX10_init_15 20 rfl) rfl (ax_inC (by decide)) ?_
  show ax_X G l RX10 cX10_init 2 none true 7 _ 601 [(0, .ref (G.1 + 51))] [.ref (G.1 + 64), .ref (G.1 + 51)] sh_65_73 (ax_w (ax_w (ax_w (ax_w (ax_w (ax_w (ax_w (ax_w μ 64 16 115) 64 17 108) 64 18 101) 64 19 101) 64 20 112) 64 21 115) 64 22 32) 64 23 32)
  refine ax_dup (pc := 601) (ax_dd KX10_init_15 21 rfl) rfl ?_
  refine ax_bipush (pc := 602) (v := 24) (ax_dd KX10_init_15 22 rfl) (by decide) ?_
  refine ax_bipush (pc := 604) (v := 99) (ax_dd KX10_init_15 23 rfl) (by decide) ?_
  refine ax_iast (pc := 606) (k := 64) (n := 96) (ax_dd KX10_init_15 24 rfl) rfl (ax_inC (by decide)) ?_
  show ax_X G l RX10 cX10_init 2 none true 7 _ 607 [(0, .ref (G.1 + 51))] [.ref (G.1 + 64), .ref (G.1 + 51)] sh_65_73 (ax_w (ax_w (ax_w (ax_w (ax_w (ax_w (ax_w (ax_w (ax_w μ 64 16 115) 64 17 108) 64 18 101) 64 19 101) 64 20 112) 64 21 115) 64 22 32) 64 23 32) 64 24 99)
  refine ax_dup (pc := 607) (ax_dd KX10_init_16 0 rfl) rfl ?_
  refine ax_bipush (pc := 608) (v := 25) (ax_dd KX10_init_16 1 rfl) (by decide) ?_
  refine ax_bipush (pc := 610) (v := 111) (ax_dd KX10_init_16 2 rfl) (by decide) ?_
  refine ax_iast (pc := 612) (k := 64) (n := 96) (ax_dd KX10_init_16 3 rfl) rfl (ax_inC (by decide)) ?_
  show ax_X G l RX10 cX10_init 2 none true 7 _ 613 [(0, .ref (G.1 + 51))] [.ref (G.1 + 64), .ref (G.1 + 51)] sh_65_73 (ax_w (ax_w (ax_w (ax_w (ax_w (ax_w (ax_w (ax_w (ax_w (ax_w μ 64 16 115) 64 17 108) 64 18 101) 64 19 101) 64 20 112) 64 21 115) 64 22 32) 64 23 32) 64 24 99) 64 25 111)
  refine ax_dup (pc := 613) (ax_dd KX10_init_16 4 rfl) rfl ?_
  refine ax_bipush (pc := 614) (v := 26) (ax_dd KX10_init_16 5 rfl) (by decide) ?_
  refine ax_bipush (pc := 616) (v := 108) (ax_dd KX10_init_16 6 rfl) (by decide) ?_
  refine ax_iast (pc := 618) (k := 64) (n := 96) (ax_dd KX10_init_16 7 rfl) rfl (ax_inC (by decide)) ?_
  show ax_X G l RX10 cX10_init 2 none true 7 _ 619 [(0, .ref (G.1 + 51))] [.ref (G.1 + 64), .ref (G.1 + 51)] sh_65_73 (ax_w (ax_w (ax_w (ax_w (ax_w (ax_w (ax_w (ax_w (ax_w (ax_w (ax_w μ 64 16 115) 64 17 108) 64 18 101) 64 19 101) 64 20 112) 64 21 115) 64 22 32) 64 23 32) 64 24 99) 64 25 111) 64 26 108)
  refine ax_dup (pc := 619) (ax_dd KX10_init_16 8 rfl) rfl ?_
  refine ax_bipush (pc := 620) (v := 27) (ax_dd KX10_init_16 9 rfl) (by decide) ?_
  refine ax_bipush (pc := 622) (v := 117) (ax_dd KX10_init_16 10 rfl) (by decide) ?_
  refine ax_iast (pc := 624) (k := 64) (n := 96) (ax_dd KX10_init_16 11 rfl) rfl (ax_inC (by decide)) ?_
  show ax_X G l RX10 cX10_init 2 none true 7 _ 625 [(0, .ref (G.1 + 51))] [.ref (G.1 + 64), .ref (G.1 + 51)] sh_65_73 (ax_w (ax_w (ax_w (ax_w (ax_w (ax_w (ax_w (ax_w (ax_w (ax_w (ax_w (ax_w μ 64 16 115) 64 17 108) 64 18 101) 64 19 101) 64 20 112) 64 21 115) 64 22 32) 64 23 32) 64 24 99) 64 25 111) 64 26 108) 64 27 117)
  refine ax_dup (pc := 625) (ax_dd KX10_init_16 12 rfl) rfl ?_
  refine ax_bipush (pc := 626) (v := 28) (ax_dd KX10_init_16 13 rfl) (by decide) ?_
  refine ax_bipush (pc := 628) (v := 109) (ax_dd KX10_init_16 14 rfl) (by decide) ?_
  refine ax_iast (pc := 630) (k := 64) (n := 96) (ax_dd KX10_init_16 15 rfl) rfl (ax_inC (by decide)) ?_
  show ax_X G l RX10 cX10_init 2 none true 7 _ 631 [(0, .ref (G.1 + 51))] [.ref (G.1 + 64), .ref (G.1 + 51)] sh_65_73 (ax_w (ax_w (ax_w (ax_w (ax_w (ax_w (ax_w (ax_w (ax_w (ax_w (ax_w (ax_w (ax_w μ 64 16 115) 64 17 108) 64 18 101) 64 19 101) 64 20 112) 64 21 115) 64 22 32) 64 23 32) 64 24 99) 64 25 111) 64 26 108) 64 27 117) 64 28 109)
  refine ax_dup (pc := 631) (ax_dd KX10_init_16 16 rfl) rfl ?_
  refine ax_bipush (pc := 632) (v := 29) (ax_dd KX10_init_16 17 rfl) (by decide) ?_
  refine ax_bipush (pc := 634) (v := 110) (ax_dd KX10_init_16 18 rfl) (by decide) ?_
  refine ax_iast (pc := 636) (k := 64) (n := 96) (ax_dd KX10_init_16 19 rfl) rfl (ax_inC (by decide)) ?_
  show ax_X G l RX10 cX10_init 2 none true 7 _ 637 [(0, .ref (G.1 + 51))] [.ref (G.1 + 64), .ref (G.1 + 51)] sh_65_73 (ax_w (ax_w (ax_w (ax_w (ax_w (ax_w (ax_w (ax_w (ax_w (ax_w (ax_w (ax_w (ax_w (ax_w μ 64 16 115) 64 17 108) 64 18 101) 64 19 101) 64 20 112) 64 21 115) 64 22 32) 64 23 32) 64 24 99) 64 25 111) 64 26 108) 64 27 117) 64 28 109) 64 29 110)
  refine ax_dup (pc := 637) (ax_dd KX10_init_16 20 rfl) rfl ?_
  refine ax_bipush (pc := 638) (v := 30) (ax_dd KX10_init_16 21 rfl) (by decide) ?_
  refine ax_bipush (pc := 640) (v := 32) (ax_dd KX10_init_16 22 rfl) (by decide) ?_
  refine ax_iast (pc := 642) (k := 64) (n := 96) (ax_dd KX10_init_16 23 rfl) rfl (ax_inC (by decide)) ?_
  show ax_X G l RX10 cX10_init 2 none true 7 _ 643 [(0, .ref (G.1 + 51))] [.ref (G.1 + 64), .ref (G.1 + 51)] sh_65_73 (ax_w (ax_w (ax_w (ax_w (ax_w (ax_w (ax_w (ax_w (ax_w (ax_w (ax_w (ax_w (ax_w (ax_w (ax_w μ 64 16 115) 64 17 108) 64 18 101) 64 19 101) 64 20 112) 64 21 115) 64 22 32) 64 23 32) 64 24 99) 64 25 111) 64 26 108) 64 27 117) 64 28 109) 64 29 110) 64 30 32)
  refine ax_dup (pc := 643) (ax_dd KX10_init_16 24 rfl) rfl ?_
  refine ax_bipush (pc := 644) (v := 31) (ax_dd KX10_init_17 0 rfl) (by decide) ?_
  exact a_X10_init_646 h
def m_X10_init_468 (μ : ax_M) : Option (ax_M) :=
  m_X10_init_554 (ax_w (ax_w (ax_w (ax_w (ax_w (ax_w (ax_w (ax_w (ax_w (ax_w (ax_w (ax_w (ax_w (ax_w (ax_w μ 64 1 105) 64 2 110) 64 3 101) 64 4 115) 64 5 32) 64 6 32) 64 7 32) 64 8 97) 64 9 100) 64 10 109) 64 11 105) 64 12 116) 64 13 115) 64 14 32) 64 15 32)
set_option maxRecDepth 100000 in
set_option maxHeartbeats 8000000 in
theorem a_X10_init_468 {G : ax_G} {l : Launch} {μ : ax_M} {v : ax_M} (h : m_X10_init_468 μ = some v) : ax_X G l RX10 cX10_init 2 none true 7 (none, SHF, v) 468 [(0, .ref (G.1 + 51))] [.ref (G.1 + 64), .ref (G.1 + 51)] sh_65_73 μ := by
  unfold m_X10_init_468 at h
  refine ax_dup (pc := 468) (ax_dd KX10_init_12 4 rfl) rfl ?_
  refine ax_iconst (pc := 469) (v := 1) (ax_dd KX10_init_12 5 rfl) (by decide) ?_
  refine ax_bipush (pc := 470) (v := 105) (ax_dd KX10_init_12 6 rfl) (by decide) ?_
  refine ax_iast (pc := 472) (k := 64) (n := 96) (ax_dd KX10_init_12 7 rfl) rfl (ax_inC (by decide)) ?_
  show ax_X G l RX10 cX10_init 2 none true 7 _ 473 [(0, .ref (G.1 + 51))] [.ref (G.1 + 64), .ref (G.1 + 51)] sh_65_73 (ax_w μ 64 1 105)
  refine ax_dup (pc := 473) (ax_dd KX10_init_12 8 rfl) rfl ?_
  refine ax_iconst (pc := 474) (v := 2) (ax_dd KX10_init_12 9 rfl) (by decide) ?_
  refine ax_bipush (pc := 475) (v := 110) (ax_dd KX10_init_12 10 rfl) (by decide) ?_
  refine ax_iast (pc := 477) (k := 64) (n := 96) (ax_dd KX10_init_12 11 rfl) rfl (ax_inC (by decide)) ?_
  show ax_X G l RX10 cX10_init 2 none true 7 _ 478 [(0, .ref (G.1 + 51))] [.ref (G.1 + 64), .ref (G.1 + 51)] sh_65_73 (ax_w (ax_w μ 64 1 105) 64 2 110)
  refine ax_dup (pc := 478) (ax_dd KX10_init_12 12 rfl) rfl ?_
  refine ax_iconst (pc := 479) (v := 3) (ax_dd KX10_init_12 13 rfl) (by decide) ?_
  refine ax_bipush (pc := 480) (v := 101) (ax_dd KX10_init_12 14 rfl) (by decide) ?_
  refine ax_iast (pc := 482) (k := 64) (n := 96) (ax_dd KX10_init_12 15 rfl) rfl (ax_inC (by decide)) ?_
  show ax_X G l RX10 cX10_init 2 none true 7 _ 483 [(0, .ref (G.1 + 51))] [.ref (G.1 + 64), .ref (G.1 + 51)] sh_65_73 (ax_w (ax_w (ax_w μ 64 1 105) 64 2 110) 64 3 101)
  refine ax_dup (pc := 483) (ax_dd KX10_init_12 16 rfl) rfl ?_
  refine ax_iconst (pc := 484) (v := 4) (ax_dd KX10_init_12 17 rfl) (by decide) ?_
  refine ax_bipush (pc := 485) (v := 115) (ax_dd KX10_init_12 18 rfl) (by decide) ?_
  refine ax_iast (pc := 487) (k := 64) (n := 96) (ax_dd KX10_init_12 19 rfl) rfl (ax_inC (by decide)) ?_
  show ax_X G l RX10 cX10_init 2 none true 7 _ 488 [(0, .ref (G.1 + 51))] [.ref (G.1 + 64), .ref (G.1 + 51)] sh_65_73 (ax_w (ax_w (ax_w (ax_w μ 64 1 105) 64 2 110) 64 3 101) 64 4 115)
  refine ax_dup (pc := 488) (ax_dd KX10_init_12 20 rfl) rfl ?_
  refine ax_iconst (pc := 489) (v := 5) (ax_dd KX10_init_12 21 rfl) (by decide) ?_
  refine ax_bipush (pc := 490) (v := 32) (ax_dd KX10_init_12 22 rfl) (by decide) ?_
  refine ax_iast (pc := 492) (k := 64) (n := 96) (ax_dd KX10_init_12 23 rfl) rfl (ax_inC (by decide)) ?_
  show ax_X G l RX10 cX10_init 2 none true 7 _ 493 [(0, .ref (G.1 + 51))] [.ref (G.1 + 64), .ref (G.1 + 51)] sh_65_73 (ax_w (ax_w (ax_w (ax_w (ax_w μ 64 1 105) 64 2 110) 64 3 101) 64 4 115) 64 5 32)
  refine ax_dup (pc := 493) (ax_dd KX10_init_12 24 rfl) rfl ?_
  refine ax_bipush (pc := 494) (v := 6) (ax_dd KX10_init_13 0 rfl) (by decide) ?_
  refine ax_bipush (pc := 496) (v := 32) (ax_dd KX10_init_13 1 rfl) (by decide) ?_
  refine ax_iast (pc := 498) (k := 64) (n := 96) (ax_dd KX10_init_13 2 rfl) rfl (ax_inC (by decide)) ?_
  show ax_X G l RX10 cX10_init 2 none true 7 _ 499 [(0, .ref (G.1 + 51))] [.ref (G.1 + 64), .ref (G.1 + 51)] sh_65_73 (ax_w (ax_w (ax_w (ax_w (ax_w (ax_w μ 64 1 105) 64 2 110) 64 3 101) 64 4 115) 64 5 32) 64 6 32)
  refine ax_dup (pc := 499) (ax_dd KX10_init_13 3 rfl) rfl ?_
  refine ax_bipush (pc := 500) (v := 7) (ax_dd KX10_init_13 4 rfl) (by decide) ?_
  refine ax_bipush (pc := 502) (v := 32) (ax_dd KX10_init_13 5 rfl) (by decide) ?_
  refine ax_iast (pc := 504) (k := 64) (n := 96) (ax_dd KX10_init_13 6 rfl) rfl (ax_inC (by decide)) ?_
  show ax_X G l RX10 cX10_init 2 none true 7 _ 505 [(0, .ref (G.1 + 51))] [.ref (G.1 + 64), .ref (G.1 + 51)] sh_65_73 (ax_w (ax_w (ax_w (ax_w (ax_w (ax_w (ax_w μ 64 1 105) 64 2 110) 64 3 101) 64 4 115) 64 5 32) 64 6 32) 64 7 32)
  refine ax_dup (pc := 505) (ax_dd KX10_init_13 7 rfl) rfl ?_
  refine ax_bipush (pc := 506) (v := 8) (ax_dd KX10_init_13 8 rfl) (by decide) ?_
  refine ax_bipush (pc := 508) (v := 97) (ax_dd KX10_init_13 9 rfl) (by decide) ?_
  refine ax_iast (pc := 510) (k := 64) (n := 96) (ax_dd KX10_init_13 10 rfl) rfl (ax_inC (by decide)) ?_
  show ax_X G l RX10 cX10_init 2 none true 7 _ 511 [(0, .ref (G.1 + 51))] [.ref (G.1 + 64), .ref (G.1 + 51)] sh_65_73 (ax_w (ax_w (ax_w (ax_w (ax_w (ax_w (ax_w (ax_w μ 64 1 105) 64 2 110) 64 3 101) 64 4 115) 64 5 32) 64 6 32) 64 7 32) 64 8 97)
  refine ax_dup (pc := 511) (ax_dd KX10_init_13 11 rfl) rfl ?_
  refine ax_bipush (pc := 512) (v := 9) (ax_dd KX10_init_13 12 rfl) (by decide) ?_
  refine ax_bipush (pc := 514) (v := 100) (ax_dd KX10_init_13 13 rfl) (by decide) ?_
  refine ax_iast (pc := 516) (k := 64) (n := 96) (ax_dd KX10_init_13 14 rfl) rfl (ax_inC (by decide)) ?_
  show ax_X G l RX10 cX10_init 2 none true 7 _ 517 [(0, .ref (G.1 + 51))] [.ref (G.1 + 64), .ref (G.1 + 51)] sh_65_73 (ax_w (ax_w (ax_w (ax_w (ax_w (ax_w (ax_w (ax_w (ax_w μ 64 1 105) 64 2 110) 64 3 101) 64 4 115) 64 5 32) 64 6 32) 64 7 32) 64 8 97) 64 9 100)
  refine ax_dup (pc := 517) (ax_dd KX10_init_13 15 rfl) rfl ?_
  refine ax_bipush (pc := 518) (v := 10) (ax_dd KX10_init_13 16 rfl) (by decide) ?_
  refine ax_bipush (pc := 520) (v := 109) (ax_dd KX10_init_13 17 rfl) (by decide) ?_
  refine ax_iast (pc := 522) (k := 64) (n := 96) (ax_dd KX10_init_13 18 rfl) rfl (ax_inC (by decide)) ?_
  show ax_X G l RX10 cX10_init 2 none true 7 _ 523 [(0, .ref (G.1 + 51))] [.ref (G.1 + 64), .ref (G.1 + 51)] sh_65_73 (ax_w (ax_w (ax_w (ax_w (ax_w (ax_w (ax_w (ax_w (ax_w (ax_w μ 64 1 105) 64 2 110) 64 3 101) 64 4 115) 64 5 32) 64 6 32) 64 7 32) 64 8 97) 64 9 100) 64 10 109)
  refine ax_dup (pc := 523) (ax_dd KX10_init_13 19 rfl) rfl ?_
  refine ax_bipush (pc := 524) (v := 11) (ax_dd KX10_init_13 20 rfl) (by decide) ?_
  refine ax_bipush (pc := 526) (v := 105) (ax_dd KX10_init_13 21 rfl) (by decide) ?_
  refine ax_iast (pc := 528) (k := 64) (n := 96) (ax_dd KX10_init_13 22 rfl) rfl (ax_inC (by decide)) ?_
  show ax_X G l RX10 cX10_init 2 none true 7 _ 529 [(0, .ref (G.1 + 51))] [.ref (G.1 + 64), .ref (G.1 + 51)] sh_65_73 (ax_w (ax_w (ax_w (ax_w (ax_w (ax_w (ax_w (ax_w (ax_w (ax_w (ax_w μ 64 1 105) 64 2 110) 64 3 101) 64 4 115) 64 5 32) 64 6 32) 64 7 32) 64 8 97) 64 9 100) 64 10 109) 64 11 105)
  refine ax_dup (pc := 529) (ax_dd KX10_init_13 23 rfl) rfl ?_
  refine ax_bipush (pc := 530) (v := 12) (ax_dd KX10_init_13 24 rfl) (by decide) ?_
  refine ax_bipush (pc := 532) (v := 116) (ax_dd KX10_init_14 0 rfl) (by decide) ?_
  refine ax_iast (pc := 534) (k := 64) (n := 96) (ax_dd KX10_init_14 1 rfl) rfl (ax_inC (by decide)) ?_
  show ax_X G l RX10 cX10_init 2 none true 7 _ 535 [(0, .ref (G.1 + 51))] [.ref (G.1 + 64), .ref (G.1 + 51)] sh_65_73 (ax_w (ax_w (ax_w (ax_w (ax_w (ax_w (ax_w (ax_w (ax_w (ax_w (ax_w (ax_w μ 64 1 105) 64 2 110) 64 3 101) 64 4 115) 64 5 32) 64 6 32) 64 7 32) 64 8 97) 64 9 100) 64 10 109) 64 11 105) 64 12 116)
  refine ax_dup (pc := 535) (ax_dd KX10_init_14 2 rfl) rfl ?_
  refine ax_bipush (pc := 536) (v := 13) (ax_dd KX10_init_14 3 rfl) (by decide) ?_
  refine ax_bipush (pc := 538) (v := 115) (ax_dd KX10_init_14 4 rfl) (by decide) ?_
  refine ax_iast (pc := 540) (k := 64) (n := 96) (ax_dd KX10_init_14 5 rfl) rfl (ax_inC (by decide)) ?_
  show ax_X G l RX10 cX10_init 2 none true 7 _ 541 [(0, .ref (G.1 + 51))] [.ref (G.1 + 64), .ref (G.1 + 51)] sh_65_73 (ax_w (ax_w (ax_w (ax_w (ax_w (ax_w (ax_w (ax_w (ax_w (ax_w (ax_w (ax_w (ax_w μ 64 1 105) 64 2 110) 64 3 101) 64 4 115) 64 5 32) 64 6 32) 64 7 32) 64 8 97) 64 9 100) 64 10 109) 64 11 105) 64 12 116) 64 13 115)
  refine ax_dup (pc := 541) (ax_dd KX10_init_14 6 rfl) rfl ?_
  refine ax_bipush (pc := 542) (v := 14) (ax_dd KX10_init_14 7 rfl) (by decide) ?_
  refine ax_bipush (pc := 544) (v := 32) (ax_dd KX10_init_14 8 rfl) (by decide) ?_
  refine ax_iast (pc := 546) (k := 64) (n := 96) (ax_dd KX10_init_14 9 rfl) rfl (ax_inC (by decide)) ?_
  show ax_X G l RX10 cX10_init 2 none true 7 _ 547 [(0, .ref (G.1 + 51))] [.ref (G.1 + 64), .ref (G.1 + 51)] sh_65_73 (ax_w (ax_w (ax_w (ax_w (ax_w (ax_w (ax_w (ax_w (ax_w (ax_w (ax_w (ax_w (ax_w (ax_w μ 64 1 105) 64 2 110) 64 3 101) 64 4 115) 64 5 32) 64 6 32) 64 7 32) 64 8 97) 64 9 100) 64 10 109) 64 11 105) 64 12 116) 64 13 115) 64 14 32)
  refine ax_dup (pc := 547) (ax_dd KX10_init_14 10 rfl) rfl ?_
  refine ax_bipush (pc := 548) (v := 15) (ax_dd KX10_init_14 11 rfl) (by decide) ?_
  refine ax_bipush (pc := 550) (v := 32) (ax_dd KX10_init_14 12 rfl) (by decide) ?_
  refine ax_iast (pc := 552) (k := 64) (n := 96) (ax_dd KX10_init_14 13 rfl) rfl (ax_inC (by decide)) ?_
  show ax_X G l RX10 cX10_init 2 none true 7 _ 553 [(0, .ref (G.1 + 51))] [.ref (G.1 + 64), .ref (G.1 + 51)] sh_65_73 (ax_w (ax_w (ax_w (ax_w (ax_w (ax_w (ax_w (ax_w (ax_w (ax_w (ax_w (ax_w (ax_w (ax_w (ax_w μ 64 1 105) 64 2 110) 64 3 101) 64 4 115) 64 5 32) 64 6 32) 64 7 32) 64 8 97) 64 9 100) 64 10 109) 64 11 105) 64 12 116) 64 13 115) 64 14 32) 64 15 32)
  refine ax_dup (pc := 553) (ax_dd KX10_init_14 14 rfl) rfl ?_
  exact a_X10_init_554 h
def m_X10_init_376 (s3 : Int32) (s4 : Int32) (μ : ax_M) : Option (ax_M) :=
  (ix 57 s3).bind fun j1 =>
  m_X10_init_468 (ax_w (ax_z (ax_w (ax_w (ax_w (ax_w (ax_w (ax_w (ax_w (ax_w (ax_w (ax_w (ax_w (ax_w (ax_w (ax_w μ 63 j1 s4) 63 44 112) 63 45 115) 63 46 32) 63 47 104) 63 48 111) 63 49 117) 63 50 114) 63 51 32) 63 52 60) 63 53 32) 63 54 54) 63 55 32) 63 56 59) 64) 64 0 102)
set_option maxRecDepth 100000 in
set_option maxHeartbeats 8000000 in
theorem a_X10_init_376 {G : ax_G} {l : Launch} {s3 : Int32} {s4 : Int32} {μ : ax_M} {v : ax_M} (h : m_X10_init_376 s3 s4 μ = some v) : ax_X G l RX10 cX10_init 2 none true 7 (none, SHF, v) 376 [(0, .ref (G.1 + 51))] [.int s4, .int s3, .ref (G.1 + 63), .ref (G.1 + 63), .ref (G.1 + 51)] sh_64_86 μ := by
  unfold m_X10_init_376 at h
  obtain ⟨j1, b2, h⟩ := ob_bind h
  refine ax_ist (pc := 376) (k := 63) (N := 57) (j := j1) (ax_dd KX10_init_9 18 rfl) rfl b2 ?_
  refine ax_dup (pc := 377) (ax_dd KX10_init_9 19 rfl) rfl ?_
  refine ax_bipush (pc := 378) (v := 44) (ax_dd KX10_init_9 20 rfl) (by decide) ?_
  refine ax_bipush (pc := 380) (v := 112) (ax_dd KX10_init_9 21 rfl) (by decide) ?_
  refine ax_iast (pc := 382) (k := 63) (n := 57) (ax_dd KX10_init_9 22 rfl) rfl (ax_inC (by decide)) ?_
  show ax_X G l RX10 cX10_init 2 none true 7 _ 383 [(0, .ref (G.1 + 51))] [.ref (G.1 + 63), .ref (G.1 + 51)] sh_64_86 (ax_w (ax_w μ 63 j1 s4) 63 44 112)
  refine ax_dup (pc := 383) (ax_dd KX10_init_9 23 rfl) rfl ?_
  refine ax_bipush (pc := 384) (v := 45) (ax_dd KX10_init_9 24 rfl) (by decide) ?_
  refine ax_bipush (pc := 386) (v := 115) (ax_dd KX10_init_10 0 rfl) (by decide) ?_
  refine ax_iast (pc := 388) (k := 63) (n := 57) (ax_dd KX10_init_10 1 rfl) rfl (ax_inC (by decide)) ?_
  show ax_X G l RX10 cX10_init 2 none true 7 _ 389 [(0, .ref (G.1 + 51))] [.ref (G.1 + 63), .ref (G.1 + 51)] sh_64_86 (ax_w (ax_w (ax_w μ 63 j1 s4) 63 44 112) 63 45 115)
  refine ax_dup (pc := 389) (ax_dd KX10_init_10 2 rfl) rfl ?_
  refine ax_bipush (pc := 390) (v := 46) (ax_dd KX10_init_10 3 rfl) (by decide) ?_
  refine ax_bipush (pc := 392) (v := 32) (ax_dd KX10_init_10 4 rfl) (by decide) ?_
  refine ax_iast (pc := 394) (k := 63) (n := 57) (ax_dd KX10_init_10 5 rfl) rfl (ax_inC (by decide)) ?_
  show ax_X G l RX10 cX10_init 2 none true 7 _ 395 [(0, .ref (G.1 + 51))] [.ref (G.1 + 63), .ref (G.1 + 51)] sh_64_86 (ax_w (ax_w (ax_w (ax_w μ 63 j1 s4) 63 44 112) 63 45 115) 63 46 32)
  refine ax_dup (pc := 395) (ax_dd KX10_init_10 6 rfl) rfl ?_
  refine ax_bipush (pc := 396) (v := 47) (ax_dd KX10_init_10 7 rfl) (by decide) ?_
  refine ax_bipush (pc := 398) (v := 104) (ax_dd KX10_init_10 8 rfl) (by decide) ?_
  refine ax_iast (pc := 400) (k := 63) (n := 57) (ax_dd KX10_init_10 9 rfl) rfl (ax_inC (by decide)) ?_
  show ax_X G l RX10 cX10_init 2 none true 7 _ 401 [(0, .ref (G.1 + 51))] [.ref (G.1 + 63), .ref (G.1 + 51)] sh_64_86 (ax_w (ax_w (ax_w (ax_w (ax_w μ 63 j1 s4) 63 44 112) 63 45 115) 63 46 32) 63 47 104)
  refine ax_dup (pc := 401) (ax_dd KX10_init_10 10 rfl) rfl ?_
  refine ax_bipush (pc := 402) (v := 48) (ax_dd KX10_init_10 11 rfl) (by decide) ?_
  refine ax_bipush (pc := 404) (v := 111) (ax_dd KX10_init_10 12 rfl) (by decide) ?_
  refine ax_iast (pc := 406) (k := 63) (n := 57) (ax_dd KX10_init_10 13 rfl) rfl (ax_inC (by decide)) ?_
  show ax_X G l RX10 cX10_init 2 none true 7 _ 407 [(0, .ref (G.1 + 51))] [.ref (G.1 + 63), .ref (G.1 + 51)] sh_64_86 (ax_w (ax_w (ax_w (ax_w (ax_w (ax_w μ 63 j1 s4) 63 44 112) 63 45 115) 63 46 32) 63 47 104) 63 48 111)
  refine ax_dup (pc := 407) (ax_dd KX10_init_10 14 rfl) rfl ?_
  refine ax_bipush (pc := 408) (v := 49) (ax_dd KX10_init_10 15 rfl) (by decide) ?_
  refine ax_bipush (pc := 410) (v := 117) (ax_dd KX10_init_10 16 rfl) (by decide) ?_
  refine ax_iast (pc := 412) (k := 63) (n := 57) (ax_dd KX10_init_10 17 rfl) rfl (ax_inC (by decide)) ?_
  show ax_X G l RX10 cX10_init 2 none true 7 _ 413 [(0, .ref (G.1 + 51))] [.ref (G.1 + 63), .ref (G.1 + 51)] sh_64_86 (ax_w (ax_w (ax_w (ax_w (ax_w (ax_w (ax_w μ 63 j1 s4) 63 44 112) 63 45 115) 63 46 32) 63 47 104) 63 48 111) 63 49 117)
  refine ax_dup (pc := 413) (ax_dd KX10_init_10 18 rfl) rfl ?_
  refine ax_bipush (pc := 414) (v := 50) (ax_dd KX10_init_10 19 rfl) (by decide) ?_
  refine ax_bipush (pc := 416) (v := 114) (ax_dd KX10_init_10 20 rfl) (by decide) ?_
  refine ax_iast (pc := 418) (k := 63) (n := 57) (ax_dd KX10_init_10 21 rfl) rfl (ax_inC (by decide)) ?_
  show ax_X G l RX10 cX10_init 2 none true 7 _ 419 [(0, .ref (G.1 + 51))] [.ref (G.1 + 63), .ref (G.1 + 51)] sh_64_86 (ax_w (ax_w (ax_w (ax_w (ax_w (ax_w (ax_w (ax_w μ 63 j1 s4) 63 44 112) 63 45 115) 63 46 32) 63 47 104) 63 48 111) 63 49 117) 63 50 114)
  refine ax_dup (pc := 419) (ax_dd KX10_init_10 22 rfl) rfl ?_
  refine ax_bipush (pc := 420) (v := 51) (ax_dd KX10_init_10 23 rfl) (by decide) ?_
  refine ax_bipush (pc := 422) (v := 32) (ax_dd KX10_init_10 24 rfl) (by decide) ?_
  refine ax_iast (pc := 424) (k := 63) (n := 57) (ax_dd KX10_init_11 0 rfl) rfl (ax_inC (by decide)) ?_
  show ax_X G l RX10 cX10_init 2 none true 7 _ 425 [(0, .ref (G.1 + 51))] [.ref (G.1 + 63), .ref (G.1 + 51)] sh_64_86 (ax_w (ax_w (ax_w (ax_w (ax_w (ax_w (ax_w (ax_w (ax_w μ 63 j1 s4) 63 44 112) 63 45 115) 63 46 32) 63 47 104) 63 48 111) 63 49 117) 63 50 114) 63 51 32)
  refine ax_dup (pc := 425) (ax_dd KX10_init_11 1 rfl) rfl ?_
  refine ax_bipush (pc := 426) (v := 52) (ax_dd KX10_init_11 2 rfl) (by decide) ?_
  refine ax_bipush (pc := 428) (v := 60) (ax_dd KX10_init_11 3 rfl) (by decide) ?_
  refine ax_iast (pc := 430) (k := 63) (n := 57) (ax_dd KX10_init_11 4 rfl) rfl (ax_inC (by decide)) ?_
  show ax_X G l RX10 cX10_init 2 none true 7 _ 431 [(0, .ref (G.1 + 51))] [.ref (G.1 + 63), .ref (G.1 + 51)] sh_64_86 (ax_w (ax_w (ax_w (ax_w (ax_w (ax_w (ax_w (ax_w (ax_w (ax_w μ 63 j1 s4) 63 44 112) 63 45 115) 63 46 32) 63 47 104) 63 48 111) 63 49 117) 63 50 114) 63 51 32) 63 52 60)
  refine ax_dup (pc := 431) (ax_dd KX10_init_11 5 rfl) rfl ?_
  refine ax_bipush (pc := 432) (v := 53) (ax_dd KX10_init_11 6 rfl) (by decide) ?_
  refine ax_bipush (pc := 434) (v := 32) (ax_dd KX10_init_11 7 rfl) (by decide) ?_
  refine ax_iast (pc := 436) (k := 63) (n := 57) (ax_dd KX10_init_11 8 rfl) rfl (ax_inC (by decide)) ?_
  show ax_X G l RX10 cX10_init 2 none true 7 _ 437 [(0, .ref (G.1 + 51))] [.ref (G.1 + 63), .ref (G.1 + 51)] sh_64_86 (ax_w (ax_w (ax_w (ax_w (ax_w (ax_w (ax_w (ax_w (ax_w (ax_w (ax_w μ 63 j1 s4) 63 44 112) 63 45 115) 63 46 32) 63 47 104) 63 48 111) 63 49 117) 63 50 114) 63 51 32) 63 52 60) 63 53 32)
  refine ax_dup (pc := 437) (ax_dd KX10_init_11 9 rfl) rfl ?_
  refine ax_bipush (pc := 438) (v := 54) (ax_dd KX10_init_11 10 rfl) (by decide) ?_
  refine ax_bipush (pc := 440) (v := 54) (ax_dd KX10_init_11 11 rfl) (by decide) ?_
  refine ax_iast (pc := 442) (k := 63) (n := 57) (ax_dd KX10_init_11 12 rfl) rfl (ax_inC (by decide)) ?_
  show ax_X G l RX10 cX10_init 2 none true 7 _ 443 [(0, .ref (G.1 + 51))] [.ref (G.1 + 63), .ref (G.1 + 51)] sh_64_86 (ax_w (ax_w (ax_w (ax_w (ax_w (ax_w (ax_w (ax_w (ax_w (ax_w (ax_w (ax_w μ 63 j1 s4) 63 44 112) 63 45 115) 63 46 32) 63 47 104) 63 48 111) 63 49 117) 63 50 114) 63 51 32) 63 52 60) 63 53 32) 63 54 54)
  refine ax_dup (pc := 443) (ax_dd KX10_init_11 13 rfl) rfl ?_
  refine ax_bipush (pc := 444) (v := 55) (ax_dd KX10_init_11 14 rfl) (by decide) ?_
  refine ax_bipush (pc := 446) (v := 32) (ax_dd KX10_init_11 15 rfl) (by decide) ?_
  refine ax_iast (pc := 448) (k := 63) (n := 57) (ax_dd KX10_init_11 16 rfl) rfl (ax_inC (by decide)) ?_
  show ax_X G l RX10 cX10_init 2 none true 7 _ 449 [(0, .ref (G.1 + 51))] [.ref (G.1 + 63), .ref (G.1 + 51)] sh_64_86 (ax_w (ax_w (ax_w (ax_w (ax_w (ax_w (ax_w (ax_w (ax_w (ax_w (ax_w (ax_w (ax_w μ 63 j1 s4) 63 44 112) 63 45 115) 63 46 32) 63 47 104) 63 48 111) 63 49 117) 63 50 114) 63 51 32) 63 52 60) 63 53 32) 63 54 54) 63 55 32)
  refine ax_dup (pc := 449) (ax_dd KX10_init_11 17 rfl) rfl ?_
  refine ax_bipush (pc := 450) (v := 56) (ax_dd KX10_init_11 18 rfl) (by decide) ?_
  refine ax_bipush (pc := 452) (v := 59) (ax_dd KX10_init_11 19 rfl) (by decide) ?_
  refine ax_iast (pc := 454) (k := 63) (n := 57) (ax_dd KX10_init_11 20 rfl) rfl (ax_inC (by decide)) ?_
  show ax_X G l RX10 cX10_init 2 none true 7 _ 455 [(0, .ref (G.1 + 51))] [.ref (G.1 + 63), .ref (G.1 + 51)] sh_64_86 (ax_w (ax_w (ax_w (ax_w (ax_w (ax_w (ax_w (ax_w (ax_w (ax_w (ax_w (ax_w (ax_w (ax_w μ 63 j1 s4) 63 44 112) 63 45 115) 63 46 32) 63 47 104) 63 48 111) 63 49 117) 63 50 114) 63 51 32) 63 52 60) 63 53 32) 63 54 54) 63 55 32) 63 56 59)
  refine ax_putR (pc := 455) (k := 51) (q := 63) (sh' := sh_64_87) (ax_dd KX10_init_11 21 rfl) f_X10_47 ft_X10 rfl rfl rfl (fun _ h9 => by cases h9; exact ⟨rfl, rfl⟩) rfl rfl rfl rfl ?_
  refine ax_aload_n (pc := 458) (i := 0) (q := 0) (ax_dd KX10_init_11 22 rfl) rfl rfl ?_
  refine ax_bipush (pc := 459) (v := 96) (ax_dd KX10_init_11 23 rfl) (by decide) ?_
  refine ax_newa (pc := 461) (t := 0) (N := 96) (k := 64) (sh' := sh_65_73) (ax_dd KX10_init_11 24 rfl) (Or.inl ⟨rfl, rfl⟩) (by decide) rfl (by decide) na_0 rfl rfl ?_
  refine ax_dup (pc := 463) (ax_dd KX10_init_12 0 rfl) rfl ?_
  refine ax_iconst (pc := 464) (v := 0) (ax_dd KX10_init_12 1 rfl) (by decide) ?_
  refine ax_bipush (pc := 465) (v := 102) (ax_dd KX10_init_12 2 rfl) (by decide) ?_
  refine ax_iast (pc := 467) (k := 64) (n := 96) (ax_dd KX10_init_12 3 rfl) rfl (ax_inC (by decide)) ?_
  show ax_X G l RX10 cX10_init 2 none true 7 _ 468 [(0, .ref (G.1 + 51))] [.ref (G.1 + 64), .ref (G.1 + 51)] sh_65_73 (ax_w (ax_z (ax_w (ax_w (ax_w (ax_w (ax_w (ax_w (ax_w (ax_w (ax_w (ax_w (ax_w (ax_w (ax_w (ax_w μ 63 j1 s4) 63 44 112) 63 45 115) 63 46 32) 63 47 104) 63 48 111) 63 49 117) 63 50 114) 63 51 32) 63 52 60) 63 53 32) 63 54 54) 63 55 32) 63 56 59) 64) 64 0 102)
  exact a_X10_init_468 h
def m_X10_init_284 (s3 : Int32) (μ : ax_M) : Option (ax_M) :=
  (ix 57 s3).bind fun j1 =>
  m_X10_init_376 43 101 (ax_w (ax_w (ax_w (ax_w (ax_w (ax_w (ax_w (ax_w (ax_w (ax_w (ax_w (ax_w (ax_w (ax_w (ax_w μ 63 j1 101) 63 29 115) 63 30 116) 63 31 115) 63 32 32) 63 33 60) 63 34 32) 63 35 50) 63 36 48) 63 37 32) 63 38 59) 63 39 32) 63 40 115) 63 41 108) 63 42 101)
set_option maxRecDepth 100000 in
set_option maxHeartbeats 8000000 in
theorem a_X10_init_284 {G : ax_G} {l : Launch} {s3 : Int32} {μ : ax_M} {v : ax_M} (h : m_X10_init_284 s3 μ = some v) : ax_X G l RX10 cX10_init 2 none true 7 (none, SHF, v) 284 [(0, .ref (G.1 + 51))] [.int s3, .ref (G.1 + 63), .ref (G.1 + 63), .ref (G.1 + 51)] sh_64_86 μ := by
  unfold m_X10_init_284 at h
  refine ax_bipush (pc := 284) (v := 101) (ax_dd KX10_init_7 7 rfl) (by decide) ?_
  obtain ⟨j1, b2, h⟩ := ob_bind h
  refine ax_ist (pc := 286) (k := 63) (N := 57) (j := j1) (ax_dd KX10_init_7 8 rfl) rfl b2 ?_
  refine ax_dup (pc := 287) (ax_dd KX10_init_7 9 rfl) rfl ?_
  refine ax_bipush (pc := 288) (v := 29) (ax_dd KX10_init_7 10 rfl) (by decide) ?_
  refine ax_bipush (pc := 290) (v := 115) (ax_dd KX10_init_7 11 rfl) (by decide) ?_
  refine ax_iast (pc := 292) (k := 63) (n := 57) (ax_dd KX10_init_7 12 rfl) rfl (ax_inC (by decide)) ?_
  show ax_X G l RX10 cX10_init 2 none true 7 _ 293 [(0, .ref (G.1 + 51))] [.ref (G.1 + 63), .ref (G.1 + 51)] sh_64_86 (ax_w (ax_w μ 63 j1 101) 63 29 115)
  refine ax_dup (pc := 293) (ax_dd KX10_init_7 13 rfl) rfl ?_
  refine ax_bipush (pc := 294) (v := 30) (ax_dd KX10_init_7 14 rfl) (by decide) ?_
  refine ax_bipush (pc := 296) (v := 116) (ax_dd KX10_init_7 15 rfl) (by decide) ?_
  refine ax_iast (pc := 298) (k := 63) (n := 57) (ax_dd KX10_init_7 16 rfl) rfl (ax_inC (by decide)) ?_
  show ax_X G l RX10 cX10_init 2 none true 7 _ 299 [(0, .ref (G.1 + 51))] [.ref (G.1 + 63), .ref (G.1 + 51)] sh_64_86 (ax_w (ax_w (ax_w μ 63 j1 101) 63 29 115) 63 30 116)
  refine ax_dup (pc := 299) (ax_dd KX10_init_7 17 rfl) rfl ?_
  refine ax_bipush (pc := 300) (v := 31) (ax_dd KX10_init_7 18 rfl) (by decide) ?_
  refine ax_bipush (pc := 302) (v := 115) (ax_dd KX10_init_7 19 rfl) (by decide) ?_
  refine ax_iast (pc := 304) (k := 63) (n := 57) (ax_dd KX10_init_7 20 rfl) rfl (ax_inC (by decide)) ?_
  show ax_X G l RX10 cX10_init 2 none true 7 _ 305 [(0, .ref (G.1 + 51))] [.ref (G.1 + 63), .ref (G.1 + 51)] sh_64_86 (ax_w (ax_w (ax_w (ax_w μ 63 j1 101) 63 29 115) 63 30 116) 63 31 115)
  refine ax_dup (pc := 305) (ax_dd KX10_init_7 21 rfl) rfl ?_
  refine ax_bipush (pc := 306) (v := 32) (ax_dd KX10_init_7 22 rfl) (by decide) ?_
  refine ax_bipush (pc := 308) (v := 32) (ax_dd KX10_init_7 23 rfl) (by decide) ?_
  refine ax_iast (pc := 310) (k := 63) (n := 57) (ax_dd KX10_init_7 24 rfl) rfl (ax_inC (by decide)) ?_
  show ax_X G l RX10 cX10_init 2 none true 7 _ 311 [(0, .ref (G.1 + 51))] [.ref (G.1 + 63), .ref (G.1 + 51)] sh_64_86 (ax_w (ax_w (ax_w (ax_w (ax_w μ 63 j1 101) 63 29 115) 63 30 116) 63 31 115) 63 32 32)
  refine ax_dup (pc := 311) (ax_dd KX10_init_8 0 rfl) rfl ?_
  refine ax_bipush (pc := 312) (v := 33) (ax_dd KX10_init_8 1 rfl) (by decide) ?_
  refine ax_bipush (pc := 314) (v := 60) (ax_dd KX10_init_8 2 rfl) (by decide) ?_
  refine ax_iast (pc := 316) (k := 63) (n := 57) (ax_dd KX10_init_8 3 rfl) rfl (ax_inC (by decide)) ?_
  show ax_X G l RX10 cX10_init 2 none true 7 _ 317 [(0, .ref (G.1 + 51))] [.ref (G.1 + 63), .ref (G.1 + 51)] sh_64_86 (ax_w (ax_w (ax_w (ax_w (ax_w (ax_w μ 63 j1 101) 63 29 115) 63 30 116) 63 31 115) 63 32 32) 63 33 60)
  refine ax_dup (pc := 317) (ax_dd KX10_init_8 4 rfl) rfl ?_
  refine ax_bipush (pc := 318) (v := 34) (ax_dd KX10_init_8 5 rfl) (by decide) ?_
  refine ax_bipush (pc := 320) (v := 32) (ax_dd KX10_init_8 6 rfl) (by decide) ?_
  refine ax_iast (pc := 322) (k := 63) (n := 57) (ax_dd KX10_init_8 7 rfl) rfl (ax_inC (by decide)) ?_
  show ax_X G l RX10 cX10_init 2 none true 7 _ 323 [(0, .ref (G.1 + 51))] [.ref (G.1 + 63), .ref (G.1 + 51)] sh_64_86 (ax_w (ax_w (ax_w (ax_w (ax_w (ax_w (ax_w μ 63 j1 101) 63 29 115) 63 30 116) 63 31 115) 63 32 32) 63 33 60) 63 34 32)
  refine ax_dup (pc := 323) (ax_dd KX10_init_8 8 rfl) rfl ?_
  refine ax_bipush (pc := 324) (v := 35) (ax_dd KX10_init_8 9 rfl) (by decide) ?_
  refine ax_bipush (pc := 326) (v := 50) (ax_dd KX10_init_8 10 rfl) (by decide) ?_
  refine ax_iast (pc := 328) (k := 63) (n := 57) (ax_dd KX10_init_8 11 rfl) rfl (ax_inC (by decide)) ?_
  show ax_X G l RX10 cX10_init 2 none true 7 _ 329 [(0, .ref (G.1 + 51))] [.ref (G.1 + 63), .ref (G.1 + 51)] sh_64_86 (ax_w (ax_w (ax_w (ax_w (ax_w (ax_w (ax_w (ax_w μ 63 j1 101) 63 29 115) 63 30 116) 63 31 115) 63 32 32) 63 33 60) 63 34 32) 63 35 50)
  refine ax_dup (pc := 329) (ax_dd KX10_init_8 12 rfl) rfl ?_
  refine ax_bipush (pc := 330) (v := 36) (ax_dd KX10_init_8 13 rfl) (by decide) ?_
  refine ax_bipush (pc := 332) (v := 48) (ax_dd KX10_init_8 14 rfl) (by decide) ?_
  refine ax_iast (pc := 334) (k := 63) (n := 57) (ax_dd KX10_init_8 15 rfl) rfl (ax_inC (by decide)) ?_
  show ax_X G l RX10 cX10_init 2 none true 7 _ 335 [(0, .ref (G.1 + 51))] [.ref (G.1 + 63), .ref (G.1 + 51)] sh_64_86 (ax_w (ax_w (ax_w (ax_w (ax_w (ax_w (ax_w (ax_w (ax_w μ 63 j1 101) 63 29 115) 63 30 116) 63 31 115) 63 32 32) 63 33 60) 63 34 32) 63 35 50) 63 36 48)
  refine ax_dup (pc := 335) (ax_dd KX10_init_8 16 rfl) rfl ?_
  refine ax_bipush (pc := 336) (v := 37) (ax_dd KX10_init_8 17 rfl) (by decide) ?_
  refine ax_bipush (pc := 338) (v := 32) (ax_dd KX10_init_8 18 rfl) (by decide) ?_
  refine ax_iast (pc := 340) (k := 63) (n := 57) (ax_dd KX10_init_8 19 rfl) rfl (ax_inC (by decide)) ?_
  show ax_X G l RX10 cX10_init 2 none true 7 _ 341 [(0, .ref (G.1 + 51))] [.ref (G.1 + 63), .ref (G.1 + 51)] sh_64_86 (ax_w (ax_w (ax_w (ax_w (ax_w (ax_w (ax_w (ax_w (ax_w (ax_w μ 63 j1 101) 63 29 115) 63 30 116) 63 31 115) 63 32 32) 63 33 60) 63 34 32) 63 35 50) 63 36 48) 63 37 32)
  refine ax_dup (pc := 341) (ax_dd KX10_init_8 20 rfl) rfl ?_
  refine ax_bipush (pc := 342) (v := 38) (ax_dd KX10_init_8 21 rfl) (by decide) ?_
  refine ax_bipush (pc := 344) (v := 59) (ax_dd KX10_init_8 22 rfl) (by decide) ?_
  refine ax_iast (pc := 346) (k := 63) (n := 57) (ax_dd KX10_init_8 23 rfl) rfl (ax_inC (by decide)) ?_
  show ax_X G l RX10 cX10_init 2 none true 7 _ 347 [(0, .ref (G.1 + 51))] [.ref (G.1 + 63), .ref (G.1 + 51)] sh_64_86 (ax_w (ax_w (ax_w (ax_w (ax_w (ax_w (ax_w (ax_w (ax_w (ax_w (ax_w μ 63 j1 101) 63 29 115) 63 30 116) 63 31 115) 63 32 32) 63 33 60) 63 34 32) 63 35 50) 63 36 48) 63 37 32) 63 38 59)
  refine ax_dup (pc := 347) (ax_dd KX10_init_8 24 rfl) rfl ?_
  refine ax_bipush (pc := 348) (v := 39) (ax_dd KX10_init_9 0 rfl) (by decide) ?_
  refine ax_bipush (pc := 350) (v := 32) (ax_dd KX10_init_9 1 rfl) (by decide) ?_
  refine ax_iast (pc := 352) (k := 63) (n := 57) (ax_dd KX10_init_9 2 rfl) rfl (ax_inC (by decide)) ?_
  show ax_X G l RX10 cX10_init 2 none true 7 _ 353 [(0, .ref (G.1 + 51))] [.ref (G.1 + 63), .ref (G.1 + 51)] sh_64_86 (ax_w (ax_w (ax_w (ax_w (ax_w (ax_w (ax_w (ax_w (ax_w (ax_w (ax_w (ax_w μ 63 j1 101) 63 29 115) 63 30 116) 63 31 115) 63 32 32) 63 33 60) 63 34 32) 63 35 50) 63 36 48) 63 37 32) 63 38 59) 63 39 32)
  refine ax_dup (pc := 353) (ax_dd KX10_init_9 3 rfl) rfl ?_
  refine ax_bipush (pc := 354) (v := 40) (ax_dd KX10_init_9 4 rfl) (by decide) ?_
  refine ax_bipush (pc := 356) (v := 115) (ax_dd KX10_init_9 5 rfl) (by decide) ?_
  refine ax_iast (pc := 358) (k := 63) (n := 57) (ax_dd KX10_init_9 6 rfl) rfl (ax_inC (by decide)) ?_
  show ax_X G l RX10 cX10_init 2 none true 7 _ 359 [(0, .ref (G.1 + 51))] [.ref (G.1 + 63), .ref (G.1 + 51)] sh_64_86 (ax_w (ax_w (ax_w (ax_w (ax_w (ax_w (ax_w (ax_w (ax_w (ax_w (ax_w (ax_w (ax_w μ 63 j1 101) 63 29 115) 63 30 116) 63 31 115) 63 32 32) 63 33 60) 63 34 32) 63 35 50) 63 36 48) 63 37 32) 63 38 59) 63 39 32) 63 40 115)
  refine ax_dup (pc := 359) (ax_dd KX10_init_9 7 rfl) rfl ?_
  refine ax_bipush (pc := 360) (v := 41) (ax_dd KX10_init_9 8 rfl) (by decide) ?_
  refine ax_bipush (pc := 362) (v := 108) (ax_dd KX10_init_9 9 rfl) (by decide) ?_
  refine ax_iast (pc := 364) (k := 63) (n := 57) (ax_dd KX10_init_9 10 rfl) rfl (ax_inC (by decide)) ?_
  show ax_X G l RX10 cX10_init 2 none true 7 _ 365 [(0, .ref (G.1 + 51))] [.ref (G.1 + 63), .ref (G.1 + 51)] sh_64_86 (ax_w (ax_w (ax_w (ax_w (ax_w (ax_w (ax_w (ax_w (ax_w (ax_w (ax_w (ax_w (ax_w (ax_w μ 63 j1 101) 63 29 115) 63 30 116) 63 31 115) 63 32 32) 63 33 60) 63 34 32) 63 35 50) 63 36 48) 63 37 32) 63 38 59) 63 39 32) 63 40 115) 63 41 108)
  refine ax_dup (pc := 365) (ax_dd KX10_init_9 11 rfl) rfl ?_
  refine ax_bipush (pc := 366) (v := 42) (ax_dd KX10_init_9 12 rfl) (by decide) ?_
  refine ax_bipush (pc := 368) (v := 101) (ax_dd KX10_init_9 13 rfl) (by decide) ?_
  refine ax_iast (pc := 370) (k := 63) (n := 57) (ax_dd KX10_init_9 14 rfl) rfl (ax_inC (by decide)) ?_
  show ax_X G l RX10 cX10_init 2 none true 7 _ 371 [(0, .ref (G.1 + 51))] [.ref (G.1 + 63), .ref (G.1 + 51)] sh_64_86 (ax_w (ax_w (ax_w (ax_w (ax_w (ax_w (ax_w (ax_w (ax_w (ax_w (ax_w (ax_w (ax_w (ax_w (ax_w μ 63 j1 101) 63 29 115) 63 30 116) 63 31 115) 63 32 32) 63 33 60) 63 34 32) 63 35 50) 63 36 48) 63 37 32) 63 38 59) 63 39 32) 63 40 115) 63 41 108) 63 42 101)
  refine ax_dup (pc := 371) (ax_dd KX10_init_9 15 rfl) rfl ?_
  refine ax_bipush (pc := 372) (v := 43) (ax_dd KX10_init_9 16 rfl) (by decide) ?_
  refine ax_bipush (pc := 374) (v := 101) (ax_dd KX10_init_9 17 rfl) (by decide) ?_
  exact a_X10_init_376 h
def m_X10_init_192 (μ : ax_M) : Option (ax_M) :=
  m_X10_init_284 28 (ax_w (ax_w (ax_w (ax_w (ax_w (ax_w (ax_w (ax_w (ax_w (ax_w (ax_w (ax_w (ax_w (ax_w (ax_w μ 63 13 115) 63 14 116) 63 15 115) 63 16 32) 63 17 59) 63 18 32) 63 19 97) 63 20 100) 63 21 109) 63 22 105) 63 23 116) 63 24 115) 63 25 32) 63 26 103) 63 27 117)
set_option maxRecDepth 100000 in
set_option maxHeartbeats 8000000 in
theorem a_X10_init_192 {G : ax_G} {l : Launch} {μ : ax_M} {v : ax_M} (h : m_X10_init_192 μ = some v) : ax_X G l RX10 cX10_init 2 none true 7 (none, SHF, v) 192 [(0, .ref (G.1 + 51))] [.ref (G.1 + 63), .ref (G.1 + 63), .ref (G.1 + 51)] sh_64_86 μ := by
  unfold m_X10_init_192 at h
  refine ax_bipush (pc := 192) (v := 13) (ax_dd KX10_init_4 21 rfl) (by decide) ?_
  refine ax_bipush (pc := 194) (v := 115) (ax_dd KX10_init_4 22 rfl) (by decide) ?_
  refine ax_iast (pc := 196) (k := 63) (n := 57) (ax_dd KX10_init_4 23 rfl) rfl (ax_inC (by decide)) ?_
  show ax_X G l RX10 cX10_init 2 none true 7 _ 197 [(0, .ref (G.1 + 51))] [.ref (G.1 + 63), .ref (G.1 + 51)] sh_64_86 (ax_w μ 63 13 115)
  refine ax_dup (pc := 197) (ax_dd KX10_init_4 24 rfl) rfl ?_
  refine ax_bipush (pc := 198) (v := 14) (ax_dd KX10_init_5 0 rfl) (by decide) ?_
  refine ax_bipush (pc := 200) (v := 116) (ax_dd KX10_init_5 1 rfl) (by decide) ?_
  refine ax_iast (pc := 202) (k := 63) (n := 57) (ax_dd KX10_init_5 2 rfl) rfl (ax_inC (by decide)) ?_
  show ax_X G l RX10 cX10_init 2 none true 7 _ 203 [(0, .ref (G.1 + 51))] [.ref (G.1 + 63), .ref (G.1 + 51)] sh_64_86 (ax_w (ax_w μ 63 13 115) 63 14 116)
  refine ax_dup (pc := 203) (ax_dd KX10_init_5 3 rfl) rfl ?_
  refine ax_bipush (pc := 204) (v := 15) (ax_dd KX10_init_5 4 rfl) (by decide) ?_
  refine ax_bipush (pc := 206) (v := 115) (ax_dd KX10_init_5 5 rfl) (by decide) ?_
  refine ax_iast (pc := 208) (k := 63) (n := 57) (ax_dd KX10_init_5 6 rfl) rfl (ax_inC (by decide)) ?_
  show ax_X G l RX10 cX10_init 2 none true 7 _ 209 [(0, .ref (G.1 + 51))] [.ref (G.1 + 63), .ref (G.1 + 51)] sh_64_86 (ax_w (ax_w (ax_w μ 63 13 115) 63 14 116) 63 15 115)
  refine ax_dup (pc := 209) (ax_dd KX10_init_5 7 rfl) rfl ?_
  refine ax_bipush (pc := 210) (v := 16) (ax_dd KX10_init_5 8 rfl) (by decide) ?_
  refine ax_bipush (pc := 212) (v := 32) (ax_dd KX10_init_5 9 rfl) (by decide) ?_
  refine ax_iast (pc := 214) (k := 63) (n := 57) (ax_dd KX10_init_5 10 rfl) rfl (ax_inC (by decide)) ?_
  show ax_X G l RX10 cX10_init 2 none true 7 _ 215 [(0, .ref (G.1 + 51))] [.ref (G.1 + 63), .ref (G.1 + 51)] sh_64_86 (ax_w (ax_w (ax_w (ax_w μ 63 13 115) 63 14 116) 63 15 115) 63 16 32)
  refine ax_dup (pc := 215) (ax_dd KX10_init_5 11 rfl) rfl ?_
  refine ax_bipush (pc := 216) (v := 17) (ax_dd KX10_init_5 12 rfl) (by decide) ?_
  refine ax_bipush (pc := 218) (v := 59) (ax_dd KX10_init_5 13 rfl) (by decide) ?_
  refine ax_iast (pc := 220) (k := 63) (n := 57) (ax_dd KX10_init_5 14 rfl) rfl (ax_inC (by decide)) ?_
  show ax_X G l RX10 cX10_init 2 none true 7 _ 221 [(0, .ref (G.1 + 51))] [.ref (G.1 + 63), .ref (G.1 + 51)] sh_64_86 (ax_w (ax_w (ax_w (ax_w (ax_w μ 63 13 115) 63 14 116) 63 15 115) 63 16 32) 63 17 59)
  refine ax_dup (pc := 221) (ax_dd KX10_init_5 15 rfl) rfl ?_
  refine ax_bipush (pc := 222) (v := 18) (ax_dd KX10_init_5 16 rfl) (by decide) ?_
  refine ax_bipush (pc := 224) (v := 32) (ax_dd KX10_init_5 17 rfl) (by decide) ?_
  refine ax_iast (pc := 226) (k := 63) (n := 57) (ax_dd KX10_init_5 18 rfl) rfl (ax_inC (by decide)) ?_
  show ax_X G l RX10 cX10_init 2 none true 7 _ 227 [(0, .ref (G.1 + 51))] [.ref (G.1 + 63), .ref (G.1 + 51)] sh_64_86 (ax_w (ax_w (ax_w (ax_w (ax_w (ax_w μ 63 13 115) 63 14 116) 63 15 115) 63 16 32) 63 17 59) 63 18 32)
  refine ax_dup (pc := 227) (ax_dd KX10_init_5 19 rfl) rfl ?_
  refine ax_bipush (pc := 228) (v := 19) (ax_dd KX10_init_5 20 rfl) (by decide) ?_
  refine ax_bipush (pc := 230) (v := 97) (ax_dd KX10_init_5 21 rfl) (by decide) ?_
  refine ax_iast (pc := 232) (k := 63) (n := 57) (ax_dd KX10_init_5 22 rfl) rfl (ax_inC (by decide)) ?_
  show ax_X G l RX10 cX10_init 2 none true 7 _ 233 [(0, .ref (G.1 + 51))] [.ref (G.1 + 63), .ref (G.1 + 51)] sh_64_86 (ax_w (ax_w (ax_w (ax_w (ax_w (ax_w (ax_w μ 63 13 115) 63 14 116) 63 15 115) 63 16 32) 63 17 59) 63 18 32) 63 19 97)
  refine ax_dup (pc := 233) (ax_dd KX10_init_5 23 rfl) rfl ?_
  refine ax_bipush (pc := 234) (v := 20) (ax_dd KX10_init_5 24 rfl) (by decide) ?_
  refine ax_bipush (pc := 236) (v := 100) (ax_dd KX10_init_6 0 rfl) (by decide) ?_
  refine ax_iast (pc := 238) (k := 63) (n := 57) (ax_dd KX10_init_6 1 rfl) rfl (ax_inC (by decide)) ?_
  show ax_X G l RX10 cX10_init 2 none true 7 _ 239 [(0, .ref (G.1 + 51))] [.ref (G.1 + 63), .ref (G.1 + 51)] sh_64_86 (ax_w (ax_w (ax_w (ax_w (ax_w (ax_w (ax_w (ax_w μ 63 13 115) 63 14 116) 63 15 115) 63 16 32) 63 17 59) 63 18 32) 63 19 97) 63 20 100)
  refine ax_dup (pc := 239) (ax_dd KX10_init_6 2 rfl) rfl ?_
  refine ax_bipush (pc := 240) (v := 21) (ax_dd KX10_init_6 3 rfl) (by decide) ?_
  refine ax_bipush (pc := 242) (v := 109) (ax_dd KX10_init_6 4 rfl) (by decide) ?_
  refine ax_iast (pc := 244) (k := 63) (n := 57) (ax_dd KX10_init_6 5 rfl) rfl (ax_inC (by decide)) ?_
  show ax_X G l RX10 cX10_init 2 none true 7 _ 245 [(0, .ref (G.1 + 51))] [.ref (G.1 + 63), .ref (G.1 + 51)] sh_64_86 (ax_w (ax_w (ax_w (ax_w (ax_w (ax_w (ax_w (ax_w (ax_w μ 63 13 115) 63 14 116) 63 15 115) 63 16 32) 63 17 59) 63 18 32) 63 19 97) 63 20 100) 63 21 109)
  refine ax_dup (pc := 245) (ax_dd KX10_init_6 6 rfl) rfl ?_
  refine ax_bipush (pc := 246) (v := 22) (ax_dd KX10_init_6 7 rfl) (by decide) ?_
  refine ax_bipush (pc := 248) (v := 105) (ax_dd KX10_init_6 8 rfl) (by decide) ?_
  refine ax_iast (pc := 250) (k := 63) (n := 57) (ax_dd KX10_init_6 9 rfl) rfl (ax_inC (by decide)) ?_
  show ax_X G l RX10 cX10_init 2 none true 7 _ 251 [(0, .ref (G.1 + 51))] [.ref (G.1 + 63), .ref (G.1 + 51)] sh_64_86 (ax_w (ax_w (ax_w (ax_w (ax_w (ax_w (ax_w (ax_w (ax_w (ax_w μ 63 13 115) 63 14 116) 63 15 115) 63 16 32) 63 17 59) 63 18 32) 63 19 97) 63 20 100) 63 21 109) 63 22 105)
  refine ax_dup (pc := 251) (ax_dd KX10_init_6 10 rfl) rfl ?_
  refine ax_bipush (pc := 252) (v := 23) (ax_dd KX10_init_6 11 rfl) (by decide) ?_
  refine ax_bipush (pc := 254) (v := 116) (ax_dd KX10_init_6 12 rfl) (by decide) ?_
  refine ax_iast (pc := 256) (k := 63) (n := 57) (ax_dd KX10_init_6 13 rfl) rfl (ax_inC (by decide)) ?_
  show ax_X G l RX10 cX10_init 2 none true 7 _ 257 [(0, .ref (G.1 + 51))] [.ref (G.1 + 63), .ref (G.1 + 51)] sh_64_86 (ax_w (ax_w (ax_w (ax_w (ax_w (ax_w (ax_w (ax_w (ax_w (ax_w (ax_w μ 63 13 115) 63 14 116) 63 15 115) 63 16 32) 63 17 59) 63 18 32) 63 19 97) 63 20 100) 63 21 109) 63 22 105) 63 23 116)
  refine ax_dup (pc := 257) (ax_dd KX10_init_6 14 rfl) rfl ?_
  refine ax_bipush (pc := 258) (v := 24) (ax_dd KX10_init_6 15 rfl) (by decide) ?_
  refine ax_bipush (pc := 260) (v := 115) (ax_dd KX10_init_6 16 rfl) (by decide) ?_
  refine ax_iast (pc := 262) (k := 63) (n := 57) (ax_dd KX10_init_6 17 rfl) rfl (ax_inC (by decide)) ?_
  show ax_X G l RX10 cX10_init 2 none true 7 _ 263 [(0, .ref (G.1 + 51))] [.ref (G.1 + 63), .ref (G.1 + 51)] sh_64_86 (ax_w (ax_w (ax_w (ax_w (ax_w (ax_w (ax_w (ax_w (ax_w (ax_w (ax_w (ax_w μ 63 13 115) 63 14 116) 63 15 115) 63 16 32) 63 17 59) 63 18 32) 63 19 97) 63 20 100) 63 21 109) 63 22 105) 63 23 116) 63 24 115)
  refine ax_dup (pc := 263) (ax_dd KX10_init_6 18 rfl) rfl ?_
  refine ax_bipush (pc := 264) (v := 25) (ax_dd KX10_init_6 19 rfl) (by decide) ?_
  refine ax_bipush (pc := 266) (v := 32) (ax_dd KX10_init_6 20 rfl) (by decide) ?_
  refine ax_iast (pc := 268) (k := 63) (n := 57) (ax_dd KX10_init_6 21 rfl) rfl (ax_inC (by decide)) ?_
  show ax_X G l RX10 cX10_init 2 none true 7 _ 269 [(0, .ref (G.1 + 51))] [.ref (G.1 + 63), .ref (G.1 + 51)] sh_64_86 (ax_w (ax_w (ax_w (ax_w (ax_w (ax_w (ax_w (ax_w (ax_w (ax_w (ax_w (ax_w (ax_w μ 63 13 115) 63 14 116) 63 15 115) 63 16 32) 63 17 59) 63 18 32) 63 19 97) 63 20 100) 63 21 109) 63 22 105) 63 23 116) 63 24 115) 63 25 32)
  refine ax_dup (pc := 269) (ax_dd KX10_init_6 22 rfl) rfl ?_
  refine ax_bipush (pc := 270) (v := 26) (ax_dd KX10_init_6 23 rfl) (by decide) ?_
  refine ax_bipush (pc := 272) (v := 103) (ax_dd KX10_init_6 24 rfl) (by decide) ?_
  refine ax_iast (pc := 274) (k := 63) (n := 57) (ax_dd KX10_init_7 0 rfl) rfl (ax_inC (by decide)) ?_
  show ax_X G l RX10 cX10_init 2 none true 7 _ 275 [(0, .ref (G.1 + 51))] [.ref (G.1 + 63), .ref (G.1 + 51)] sh_64_86 (ax_w (ax_w (ax_w (ax_w (ax_w (ax_w (ax_w (ax_w (ax_w (ax_w (ax_w (ax_w (ax_w (ax_w μ 63 13 115) 63 14 116) 63 15 115) 63 16 32) 63 17 59) 63 18 32) 63 19 97) 63 20 100) 63 21 109) 63 22 105) 63 23 116) 63 24 115) 63 25 32) 63 26 103)
  refine ax_dup (pc := 275) (ax_dd KX10_init_7 1 rfl) rfl ?_
  refine ax_bipush (pc := 276) (v := 27) (ax_dd KX10_init_7 2 rfl) (by decide) ?_
  refine ax_bipush (pc := 278) (v := 117) (ax_dd KX10_init_7 3 rfl) (by decide) ?_
  refine ax_iast (pc := 280) (k := 63) (n := 57) (ax_dd KX10_init_7 4 rfl) rfl (ax_inC (by decide)) ?_
  show ax_X G l RX10 cX10_init 2 none true 7 _ 281 [(0, .ref (G.1 + 51))] [.ref (G.1 + 63), .ref (G.1 + 51)] sh_64_86 (ax_w (ax_w (ax_w (ax_w (ax_w (ax_w (ax_w (ax_w (ax_w (ax_w (ax_w (ax_w (ax_w (ax_w (ax_w μ 63 13 115) 63 14 116) 63 15 115) 63 16 32) 63 17 59) 63 18 32) 63 19 97) 63 20 100) 63 21 109) 63 22 105) 63 23 116) 63 24 115) 63 25 32) 63 26 103) 63 27 117)
  refine ax_dup (pc := 281) (ax_dd KX10_init_7 5 rfl) rfl ?_
  refine ax_bipush (pc := 282) (v := 28) (ax_dd KX10_init_7 6 rfl) (by decide) ?_
  exact a_X10_init_284 h
def m_X10_init_102 (μ : ax_M) : Option (ax_M) :=
  m_X10_init_192 (ax_w (ax_w (ax_w (ax_w (ax_w (ax_w (ax_w (ax_w (ax_w (ax_w (ax_w (ax_w (ax_w (ax_z (ax_z μ 62) 63) 63 0 102) 63 1 105) 63 2 110) 63 3 101) 63 4 115) 63 5 32) 63 6 49) 63 7 32) 63 8 43) 63 9 32) 63 10 103) 63 11 117) 63 12 101)
set_option maxRecDepth 100000 in
set_option maxHeartbeats 8000000 in
theorem a_X10_init_102 {G : ax_G} {l : Launch} {μ : ax_M} {v : ax_M} (h : m_X10_init_102 μ = some v) : ax_X G l RX10 cX10_init 2 none true 7 (none, SHF, v) 102 [(0, .ref (G.1 + 51))] [.ref (G.1 + 61), .ref (G.1 + 51)] sh_62_91 μ := by
  unfold m_X10_init_102 at h
  refine ax_putR (pc := 102) (k := 51) (q := 61) (sh' := sh_62_88) (ax_dd KX10_init_2 10 rfl) f_X10_41 ft_X10 rfl rfl rfl (fun _ h9 => by cases h9; exact ⟨rfl, rfl⟩) rfl rfl rfl rfl ?_
  refine ax_aload_n (pc := 105) (i := 0) (q := 0) (ax_dd KX10_init_2 11 rfl) rfl rfl ?_
  refine ax_sipush (pc := 106) (v := 160) (ax_dd KX10_init_2 12 rfl) (by decide) ?_
  refine ax_newa (pc := 109) (t := 0) (N := 160) (k := 62) (sh' := sh_63_89) (ax_dd KX10_init_2 13 rfl) (Or.inl ⟨rfl, rfl⟩) (by decide) rfl (by decide) na_0 rfl rfl ?_
  refine ax_putR (pc := 111) (k := 51) (q := 62) (sh' := sh_63_90) (ax_dd KX10_init_2 14 rfl) f_X10_44 ft_X10 rfl rfl rfl (fun _ h9 => by cases h9; exact ⟨rfl, rfl⟩) rfl rfl rfl rfl ?_
  refine ax_aload_n (pc := 114) (i := 0) (q := 0) (ax_dd KX10_init_2 15 rfl) rfl rfl ?_
  refine ax_bipush (pc := 115) (v := 57) (ax_dd KX10_init_2 16 rfl) (by decide) ?_
  refine ax_newa (pc := 117) (t := 0) (N := 57) (k := 63) (sh' := sh_64_86) (ax_dd KX10_init_2 17 rfl) (Or.inl ⟨rfl, rfl⟩) (by decide) rfl (by decide) na_0 rfl rfl ?_
  refine ax_dup (pc := 119) (ax_dd KX10_init_2 18 rfl) rfl ?_
  refine ax_iconst (pc := 120) (v := 0) (ax_dd KX10_init_2 19 rfl) (by decide) ?_
  refine ax_bipush (pc := 121) (v := 102) (ax_dd KX10_init_2 20 rfl) (by decide) ?_
  refine ax_iast (pc := 123) (k := 63) (n := 57) (ax_dd KX10_init_2 21 rfl) rfl (ax_inC (by decide)) ?_
  show ax_X G l RX10 cX10_init 2 none true 7 _ 124 [(0, .ref (G.1 + 51))] [.ref (G.1 + 63), .ref (G.1 + 51)] sh_64_86 (ax_w (ax_z (ax_z μ 62) 63) 63 0 102)
  refine ax_dup (pc := 124) (ax_dd KX10_init_2 22 rfl) rfl ?_
  refine ax_iconst (pc := 125) (v := 1) (ax_dd KX10_init_2 23 rfl) (by decide) ?_
  refine ax_bipush (pc := 126) (v := 105) (ax_dd KX10_init_2 24 rfl) (by decide) ?_
  refine ax_iast (pc := 128) (k := 63) (n := 57) (ax_dd KX10_init_3 0 rfl) rfl (ax_inC (by decide)) ?_
  show ax_X G l RX10 cX10_init 2 none true 7 _ 129 [(0, .ref (G.1 + 51))] [.ref (G.1 + 63), .ref (G.1 + 51)] sh_64_86 (ax_w (ax_w (ax_z (ax_z μ 62) 63) 63 0 102) 63 1 105)
  refine ax_dup (pc := 129) (ax_dd KX10_init_3 1 rfl) rfl ?_
  refine ax_iconst (pc := 130) (v := 2) (ax_dd KX10_init_3 2 rfl) (by decide) ?_
  refine ax_bipush (pc := 131) (v := 110) (ax_dd KX10_init_3 3 rfl) (by decide) ?_
  refine ax_iast (pc := 133) (k := 63) (n := 57) (ax_dd KX10_init_3 4 rfl) rfl (ax_inC (by decide)) ?_
  show ax_X G l RX10 cX10_init 2 none true 7 _ 134 [(0, .ref (G.1 + 51))] [.ref (G.1 + 63), .ref (G.1 + 51)] sh_64_86 (ax_w (ax_w (ax_w (ax_z (ax_z μ 62) 63) 63 0 102) 63 1 105) 63 2 110)
  refine ax_dup (pc := 134) (ax_dd KX10_init_3 5 rfl) rfl ?_
  refine ax_iconst (pc := 135) (v := 3) (ax_dd KX10_init_3 6 rfl) (by decide) ?_
  refine ax_bipush (pc := 136) (v := 101) (ax_dd KX10_init_3 7 rfl) (by decide) ?_
  refine ax_iast (pc := 138) (k := 63) (n := 57) (ax_dd KX10_init_3 8 rfl) rfl (ax_inC (by decide)) ?_
  show ax_X G l RX10 cX10_init 2 none true 7 _ 139 [(0, .ref (G.1 + 51))] [.ref (G.1 + 63), .ref (G.1 + 51)] sh_64_86 (ax_w (ax_w (ax_w (ax_w (ax_z (ax_z μ 62) 63) 63 0 102) 63 1 105) 63 2 110) 63 3 101)
  refine ax_dup (pc := 139) (ax_dd KX10_init_3 9 rfl) rfl ?_
  refine ax_iconst (pc := 140) (v := 4) (ax_dd KX10_init_3 10 rfl) (by decide) ?_
  refine ax_bipush (pc := 141) (v := 115) (ax_dd KX10_init_3 11 rfl) (by decide) ?_
  refine ax_iast (pc := 143) (k := 63) (n := 57) (ax_dd KX10_init_3 12 rfl) rfl (ax_inC (by decide)) ?_
  show ax_X G l RX10 cX10_init 2 none true 7 _ 144 [(0, .ref (G.1 + 51))] [.ref (G.1 + 63), .ref (G.1 + 51)] sh_64_86 (ax_w (ax_w (ax_w (ax_w (ax_w (ax_z (ax_z μ 62) 63) 63 0 102) 63 1 105) 63 2 110) 63 3 101) 63 4 115)
  refine ax_dup (pc := 144) (ax_dd KX10_init_3 13 rfl) rfl ?_
  refine ax_iconst (pc := 145) (v := 5) (ax_dd KX10_init_3 14 rfl) (by decide) ?_
  refine ax_bipush (pc := 146) (v := 32) (ax_dd KX10_init_3 15 rfl) (by decide) ?_
  refine ax_iast (pc := 148) (k := 63) (n := 57) (ax_dd KX10_init_3 16 rfl) rfl (ax_inC (by decide)) ?_
  show ax_X G l RX10 cX10_init 2 none true 7 _ 149 [(0, .ref (G.1 + 51))] [.ref (G.1 + 63), .ref (G.1 + 51)] sh_64_86 (ax_w (ax_w (ax_w (ax_w (ax_w (ax_w (ax_z (ax_z μ 62) 63) 63 0 102) 63 1 105) 63 2 110) 63 3 101) 63 4 115) 63 5 32)
  refine ax_dup (pc := 149) (ax_dd KX10_init_3 17 rfl) rfl ?_
  refine ax_bipush (pc := 150) (v := 6) (ax_dd KX10_init_3 18 rfl) (by decide) ?_
  refine ax_bipush (pc := 152) (v := 49) (ax_dd KX10_init_3 19 rfl) (by decide) ?_
  refine ax_iast (pc := 154) (k := 63) (n := 57) (ax_dd KX10_init_3 20 rfl) rfl (ax_inC (by decide)) ?_
  show ax_X G l RX10 cX10_init 2 none true 7 _ 155 [(0, .ref (G.1 + 51))] [.ref (G.1 + 63), .ref (G.1 + 51)] sh_64_86 (ax_w (ax_w (ax_w (ax_w (ax_w (ax_w (ax_w (ax_z (ax_z μ 62) 63) 63 0 102) 63 1 105) 63 2 110) 63 3 101) 63 4 115) 63 5 32) 63 6 49)
  refine ax_dup (pc := 155) (ax_dd KX10_init_3 21 rfl) rfl ?_
  refine ax_bipush (pc := 156) (v := 7) (ax_dd KX10_init_3 22 rfl) (by decide) ?_
  refine ax_bipush (pc := 158) (v := 32) (ax_dd KX10_init_3 23 rfl) (by decide) ?_
  refine ax_iast (pc := 160) (k := 63) (n := 57) (ax_dd KX10_init_3 24 rfl) rfl (ax_inC (by decide)) ?_
  show ax_X G l RX10 cX10_init 2 none true 7 _ 161 [(0, .ref (G.1 + 51))] [.ref (G.1 + 63), .ref (G.1 + 51)] sh_64_86 (ax_w (ax_w (ax_w (ax_w (ax_w (ax_w (ax_w (ax_w (ax_z (ax_z μ 62) 63) 63 0 102) 63 1 105) 63 2 110) 63 3 101) 63 4 115) 63 5 32) 63 6 49) 63 7 32)
  refine ax_dup (pc := 161) (ax_dd KX10_init_4 0 rfl) rfl ?_
  refine ax_bipush (pc := 162) (v := 8) (ax_dd KX10_init_4 1 rfl) (by decide) ?_
  refine ax_bipush (pc := 164) (v := 43) (ax_dd KX10_init_4 2 rfl) (by decide) ?_
  refine ax_iast (pc := 166) (k := 63) (n := 57) (ax_dd KX10_init_4 3 rfl) rfl (ax_inC (by decide)) ?_
  show ax_X G l RX10 cX10_init 2 none true 7 _ 167 [(0, .ref (G.1 + 51))] [.ref (G.1 + 63), .ref (G.1 + 51)] sh_64_86 (ax_w (ax_w (ax_w (ax_w (ax_w (ax_w (ax_w (ax_w (ax_w (ax_z (ax_z μ 62) 63) 63 0 102) 63 1 105) 63 2 110) 63 3 101) 63 4 115) 63 5 32) 63 6 49) 63 7 32) 63 8 43)
  refine ax_dup (pc := 167) (ax_dd KX10_init_4 4 rfl) rfl ?_
  refine ax_bipush (pc := 168) (v := 9) (ax_dd KX10_init_4 5 rfl) (by decide) ?_
  refine ax_bipush (pc := 170) (v := 32) (ax_dd KX10_init_4 6 rfl) (by decide) ?_
  refine ax_iast (pc := 172) (k := 63) (n := 57) (ax_dd KX10_init_4 7 rfl) rfl (ax_inC (by decide)) ?_
  show ax_X G l RX10 cX10_init 2 none true 7 _ 173 [(0, .ref (G.1 + 51))] [.ref (G.1 + 63), .ref (G.1 + 51)] sh_64_86 (ax_w (ax_w (ax_w (ax_w (ax_w (ax_w (ax_w (ax_w (ax_w (ax_w (ax_z (ax_z μ 62) 63) 63 0 102) 63 1 105) 63 2 110) 63 3 101) 63 4 115) 63 5 32) 63 6 49) 63 7 32) 63 8 43) 63 9 32)
  refine ax_dup (pc := 173) (ax_dd KX10_init_4 8 rfl) rfl ?_
  refine ax_bipush (pc := 174) (v := 10) (ax_dd KX10_init_4 9 rfl) (by decide) ?_
  refine ax_bipush (pc := 176) (v := 103) (ax_dd KX10_init_4 10 rfl) (by decide) ?_
  refine ax_iast (pc := 178) (k := 63) (n := 57) (ax_dd KX10_init_4 11 rfl) rfl (ax_inC (by decide)) ?_
  show ax_X G l RX10 cX10_init 2 none true 7 _ 179 [(0, .ref (G.1 + 51))] [.ref (G.1 + 63), .ref (G.1 + 51)] sh_64_86 (ax_w (ax_w (ax_w (ax_w (ax_w (ax_w (ax_w (ax_w (ax_w (ax_w (ax_w (ax_z (ax_z μ 62) 63) 63 0 102) 63 1 105) 63 2 110) 63 3 101) 63 4 115) 63 5 32) 63 6 49) 63 7 32) 63 8 43) 63 9 32) 63 10 103)
  refine ax_dup (pc := 179) (ax_dd KX10_init_4 12 rfl) rfl ?_
  refine ax_bipush (pc := 180) (v := 11) (ax_dd KX10_init_4 13 rfl) (by decide) ?_
  refine ax_bipush (pc := 182) (v := 117) (ax_dd KX10_init_4 14 rfl) (by decide) ?_
  refine ax_iast (pc := 184) (k := 63) (n := 57) (ax_dd KX10_init_4 15 rfl) rfl (ax_inC (by decide)) ?_
  show ax_X G l RX10 cX10_init 2 none true 7 _ 185 [(0, .ref (G.1 + 51))] [.ref (G.1 + 63), .ref (G.1 + 51)] sh_64_86 (ax_w (ax_w (ax_w (ax_w (ax_w (ax_w (ax_w (ax_w (ax_w (ax_w (ax_w (ax_w (ax_z (ax_z μ 62) 63) 63 0 102) 63 1 105) 63 2 110) 63 3 101) 63 4 115) 63 5 32) 63 6 49) 63 7 32) 63 8 43) 63 9 32) 63 10 103) 63 11 117)
  refine ax_dup (pc := 185) (ax_dd KX10_init_4 16 rfl) rfl ?_
  refine ax_bipush (pc := 186) (v := 12) (ax_dd KX10_init_4 17 rfl) (by decide) ?_
  refine ax_bipush (pc := 188) (v := 101) (ax_dd KX10_init_4 18 rfl) (by decide) ?_
  refine ax_iast (pc := 190) (k := 63) (n := 57) (ax_dd KX10_init_4 19 rfl) rfl (ax_inC (by decide)) ?_
  show ax_X G l RX10 cX10_init 2 none true 7 _ 191 [(0, .ref (G.1 + 51))] [.ref (G.1 + 63), .ref (G.1 + 51)] sh_64_86 (ax_w (ax_w (ax_w (ax_w (ax_w (ax_w (ax_w (ax_w (ax_w (ax_w (ax_w (ax_w (ax_w (ax_z (ax_z μ 62) 63) 63 0 102) 63 1 105) 63 2 110) 63 3 101) 63 4 115) 63 5 32) 63 6 49) 63 7 32) 63 8 43) 63 9 32) 63 10 103) 63 11 117) 63 12 101)
  refine ax_dup (pc := 191) (ax_dd KX10_init_4 20 rfl) rfl ?_
  exact a_X10_init_192 h
def m_X10_init (μ : ax_M) : Option (ax_M) :=
  m_X10_init_102 (ax_z (ax_w (ax_w (ax_w (ax_w (ax_z (ax_z (ax_z (ax_z (ax_z (ax_z (ax_w (ax_z (ax_z (ax_z μ 52) 53) 54) 51 4 12) 55) 56) 57) 58) 59) 60) 60 0 (-1)) 60 1 (-1)) 60 2 (-1)) 60 3 (-1)) 61)
set_option maxRecDepth 100000 in
set_option maxHeartbeats 8000000 in
theorem c_X10_init {G : ax_G} {l : Launch} {μ : ax_M} {v : ax_M} (h : m_X10_init μ = some v) : ax_A G l yX10_init cX10_init 2 none 7 [.ref (G.1 + 51)] sh_52_110 μ (none, SHF, v) := by
  refine ax_A.of true (by decide +kernel) (fun _ => rfl) (Nat.le_of_ble_eq_true rfl) (?_ : ax_X G l RX10 cX10_init 2 none true 7 (none, SHF, v) 0 [(0, .ref (G.1 + 51))] [] sh_52_110 μ)
  unfold m_X10_init at h
  refine ax_aload_n (pc := 0) (i := 0) (q := 0) (ax_dd KX10_init_0 0 rfl) rfl rfl ?_
  refine ax_objInit (pc := 1) (ax_dd KX10_init_0 1 rfl) oi_X10_1 (by decide) (Nat.le_of_ble_eq_true rfl) ?_
  refine ax_aload_n (pc := 4) (i := 0) (q := 0) (ax_dd KX10_init_0 2 rfl) rfl rfl ?_
  refine ax_bipush (pc := 5) (v := 6) (ax_dd KX10_init_0 3 rfl) (by decide) ?_
  refine ax_newa (pc := 7) (t := 0) (N := 6) (k := 52) (sh' := sh_53_92) (ax_dd KX10_init_0 4 rfl) (Or.inl ⟨rfl, rfl⟩) (by decide) rfl (by decide) na_0 rfl rfl ?_
  refine ax_putR (pc := 9) (k := 51) (q := 52) (sh' := sh_53_93) (ax_dd KX10_init_0 5 rfl) f_X10_7 ft_X10 rfl rfl rfl (fun _ h9 => by cases h9; exact ⟨rfl, rfl⟩) rfl rfl rfl rfl ?_
  refine ax_aload_n (pc := 12) (i := 0) (q := 0) (ax_dd KX10_init_0 6 rfl) rfl rfl ?_
  refine ax_bipush (pc := 13) (v := 6) (ax_dd KX10_init_0 7 rfl) (by decide) ?_
  refine ax_newa (pc := 15) (t := 0) (N := 6) (k := 53) (sh' := sh_54_94) (ax_dd KX10_init_0 8 rfl) (Or.inl ⟨rfl, rfl⟩) (by decide) rfl (by decide) na_0 rfl rfl ?_
  refine ax_putR (pc := 17) (k := 51) (q := 53) (sh' := sh_54_95) (ax_dd KX10_init_0 9 rfl) f_X10_13 ft_X10 rfl rfl rfl (fun _ h9 => by cases h9; exact ⟨rfl, rfl⟩) rfl rfl rfl rfl ?_
  refine ax_aload_n (pc := 20) (i := 0) (q := 0) (ax_dd KX10_init_0 10 rfl) rfl rfl ?_
  refine ax_bipush (pc := 21) (v := 18) (ax_dd KX10_init_0 11 rfl) (by decide) ?_
  refine ax_newa (pc := 23) (t := 0) (N := 18) (k := 54) (sh' := sh_55_96) (ax_dd KX10_init_0 12 rfl) (Or.inl ⟨rfl, rfl⟩) (by decide) rfl (by decide) na_0 rfl rfl ?_
  refine ax_putR (pc := 25) (k := 51) (q := 54) (sh' := sh_55_97) (ax_dd KX10_init_0 13 rfl) f_X10_16 ft_X10 rfl rfl rfl (fun _ h9 => by cases h9; exact ⟨rfl, rfl⟩) rfl rfl rfl rfl ?_
  refine ax_aload_n (pc := 28) (i := 0) (q := 0) (ax_dd KX10_init_0 14 rfl) rfl rfl ?_
  refine ax_bipush (pc := 29) (v := 12) (ax_dd KX10_init_0 15 rfl) (by decide) ?_
  refine ax_putI (pc := 31) (k := 51) (ax_dd KX10_init_0 16 rfl) f_X10_19 ft_X10 rfl rfl (fun _ h9 => by cases h9; rfl) rfl rfl ?_
  refine ax_aload_n (pc := 34) (i := 0) (q := 0) (ax_dd KX10_init_0 17 rfl) rfl rfl ?_
  refine ax_sipush (pc := 35) (v := 160) (ax_dd KX10_init_0 18 rfl) (by decide) ?_
  refine ax_newa (pc := 38) (t := 0) (N := 160) (k := 55) (sh' := sh_56_98) (ax_dd KX10_init_0 19 rfl) (Or.inl ⟨rfl, rfl⟩) (by decide) rfl (by decide) na_0 rfl rfl ?_
  refine ax_putR (pc := 40) (k := 51) (q := 55) (sh' := sh_56_99) (ax_dd KX10_init_0 20 rfl) f_X10_23 ft_X10 rfl rfl rfl (fun _ h9 => by cases h9; exact ⟨rfl, rfl⟩) rfl rfl rfl rfl ?_
  refine ax_aload_n (pc := 43) (i := 0) (q := 0) (ax_dd KX10_init_0 21 rfl) rfl rfl ?_
  refine ax_sipush (pc := 44) (v := 1200) (ax_dd KX10_init_0 22 rfl) (by decide) ?_
  refine ax_newa (pc := 47) (t := 0) (N := 1200) (k := 56) (sh' := sh_57_100) (ax_dd KX10_init_0 23 rfl) (Or.inl ⟨rfl, rfl⟩) (by decide) rfl (by decide) na_0 rfl rfl ?_
  refine ax_putR (pc := 49) (k := 51) (q := 56) (sh' := sh_57_101) (ax_dd KX10_init_0 24 rfl) f_X10_26 ft_X10 rfl rfl rfl (fun _ h9 => by cases h9; exact ⟨rfl, rfl⟩) rfl rfl rfl rfl ?_
  refine ax_aload_n (pc := 52) (i := 0) (q := 0) (ax_dd KX10_init_1 0 rfl) rfl rfl ?_
  refine ax_bipush (pc := 53) (v := 24) (ax_dd KX10_init_1 1 rfl) (by decide) ?_
  refine ax_newa (pc := 55) (t := 0) (N := 24) (k := 57) (sh' := sh_58_102) (ax_dd KX10_init_1 2 rfl) (Or.inl ⟨rfl, rfl⟩) (by decide) rfl (by decide) na_0 rfl rfl ?_
  refine ax_putR (pc := 57) (k := 51) (q := 57) (sh' := sh_58_103) (ax_dd KX10_init_1 3 rfl) f_X10_29 ft_X10 rfl rfl rfl (fun _ h9 => by cases h9; exact ⟨rfl, rfl⟩) rfl rfl rfl rfl ?_
  refine ax_aload_n (pc := 60) (i := 0) (q := 0) (ax_dd KX10_init_1 4 rfl) rfl rfl ?_
  refine ax_bipush (pc := 61) (v := 18) (ax_dd KX10_init_1 5 rfl) (by decide) ?_
  refine ax_newa (pc := 63) (t := 0) (N := 18) (k := 58) (sh' := sh_59_104) (ax_dd KX10_init_1 6 rfl) (Or.inl ⟨rfl, rfl⟩) (by decide) rfl (by decide) na_0 rfl rfl ?_
  refine ax_putR (pc := 65) (k := 51) (q := 58) (sh' := sh_59_105) (ax_dd KX10_init_1 7 rfl) f_X10_32 ft_X10 rfl rfl rfl (fun _ h9 => by cases h9; exact ⟨rfl, rfl⟩) rfl rfl rfl rfl ?_
  refine ax_aload_n (pc := 68) (i := 0) (q := 0) (ax_dd KX10_init_1 8 rfl) rfl rfl ?_
  refine ax_iconst (pc := 69) (v := 3) (ax_dd KX10_init_1 9 rfl) (by decide) ?_
  refine ax_newa (pc := 70) (t := 0) (N := 3) (k := 59) (sh' := sh_60_106) (ax_dd KX10_init_1 10 rfl) (Or.inl ⟨rfl, rfl⟩) (by decide) rfl (by decide) na_0 rfl rfl ?_
  refine ax_putR (pc := 72) (k := 51) (q := 59) (sh' := sh_60_107) (ax_dd KX10_init_1 11 rfl) f_X10_35 ft_X10 rfl rfl rfl (fun _ h9 => by cases h9; exact ⟨rfl, rfl⟩) rfl rfl rfl rfl ?_
  refine ax_aload_n (pc := 75) (i := 0) (q := 0) (ax_dd KX10_init_1 12 rfl) rfl rfl ?_
  refine ax_iconst (pc := 76) (v := 4) (ax_dd KX10_init_1 13 rfl) (by decide) ?_
  refine ax_newa (pc := 77) (t := 0) (N := 4) (k := 60) (sh' := sh_61_108) (ax_dd KX10_init_1 14 rfl) (Or.inl ⟨rfl, rfl⟩) (by decide) rfl (by decide) na_0 rfl rfl ?_
  refine ax_dup (pc := 79) (ax_dd KX10_init_1 15 rfl) rfl ?_
  refine ax_iconst (pc := 80) (v := 0) (ax_dd KX10_init_1 16 rfl) (by decide) ?_
  refine ax_iconst (pc := 81) (v := (-1)) (ax_dd KX10_init_1 17 rfl) (by decide) ?_
  refine ax_iast (pc := 82) (k := 60) (n := 4) (ax_dd KX10_init_1 18 rfl) rfl (ax_inC (by decide)) ?_
  show ax_X G l RX10 cX10_init 2 none true 7 _ 83 [(0, .ref (G.1 + 51))] [.ref (G.1 + 60), .ref (G.1 + 51)] sh_61_108 (ax_w (ax_z (ax_z (ax_z (ax_z (ax_z (ax_z (ax_w (ax_z (ax_z (ax_z μ 52) 53) 54) 51 4 12) 55) 56) 57) 58) 59) 60) 60 0 (-1))
  refine ax_dup (pc := 83) (ax_dd KX10_init_1 19 rfl) rfl ?_
  refine ax_iconst (pc := 84) (v := 1) (ax_dd KX10_init_1 20 rfl) (by decide) ?_
  refine ax_iconst (pc := 85) (v := (-1)) (ax_dd KX10_init_1 21 rfl) (by decide) ?_
  refine ax_iast (pc := 86) (k := 60) (n := 4) (ax_dd KX10_init_1 22 rfl) rfl (ax_inC (by decide)) ?_
  show ax_X G l RX10 cX10_init 2 none true 7 _ 87 [(0, .ref (G.1 + 51))] [.ref (G.1 + 60), .ref (G.1 + 51)] sh_61_108 (ax_w (ax_w (ax_z (ax_z (ax_z (ax_z (ax_z (ax_z (ax_w (ax_z (ax_z (ax_z μ 52) 53) 54) 51 4 12) 55) 56) 57) 58) 59) 60) 60 0 (-1)) 60 1 (-1))
  refine ax_dup (pc := 87) (ax_dd KX10_init_1 23 rfl) rfl ?_
  refine ax_iconst (pc := 88) (v := 2) (ax_dd KX10_init_1 24 rfl) (by decide) ?_
  refine ax_iconst (pc := 89) (v := (-1)) (ax_dd KX10_init_2 0 rfl) (by decide) ?_
  refine ax_iast (pc := 90) (k := 60) (n := 4) (ax_dd KX10_init_2 1 rfl) rfl (ax_inC (by decide)) ?_
  show ax_X G l RX10 cX10_init 2 none true 7 _ 91 [(0, .ref (G.1 + 51))] [.ref (G.1 + 60), .ref (G.1 + 51)] sh_61_108 (ax_w (ax_w (ax_w (ax_z (ax_z (ax_z (ax_z (ax_z (ax_z (ax_w (ax_z (ax_z (ax_z μ 52) 53) 54) 51 4 12) 55) 56) 57) 58) 59) 60) 60 0 (-1)) 60 1 (-1)) 60 2 (-1))
  refine ax_dup (pc := 91) (ax_dd KX10_init_2 2 rfl) rfl ?_
  refine ax_iconst (pc := 92) (v := 3) (ax_dd KX10_init_2 3 rfl) (by decide) ?_
  refine ax_iconst (pc := 93) (v := (-1)) (ax_dd KX10_init_2 4 rfl) (by decide) ?_
  refine ax_iast (pc := 94) (k := 60) (n := 4) (ax_dd KX10_init_2 5 rfl) rfl (ax_inC (by decide)) ?_
  show ax_X G l RX10 cX10_init 2 none true 7 _ 95 [(0, .ref (G.1 + 51))] [.ref (G.1 + 60), .ref (G.1 + 51)] sh_61_108 (ax_w (ax_w (ax_w (ax_w (ax_z (ax_z (ax_z (ax_z (ax_z (ax_z (ax_w (ax_z (ax_z (ax_z μ 52) 53) 54) 51 4 12) 55) 56) 57) 58) 59) 60) 60 0 (-1)) 60 1 (-1)) 60 2 (-1)) 60 3 (-1))
  refine ax_putR (pc := 95) (k := 51) (q := 60) (sh' := sh_61_109) (ax_dd KX10_init_2 6 rfl) f_X10_38 ft_X10 rfl rfl rfl (fun _ h9 => by cases h9; exact ⟨rfl, rfl⟩) rfl rfl rfl rfl ?_
  refine ax_aload_n (pc := 98) (i := 0) (q := 0) (ax_dd KX10_init_2 7 rfl) rfl rfl ?_
  refine ax_iconst (pc := 99) (v := 4) (ax_dd KX10_init_2 8 rfl) (by decide) ?_
  refine ax_newa (pc := 100) (t := 0) (N := 4) (k := 61) (sh' := sh_62_91) (ax_dd KX10_init_2 9 rfl) (Or.inl ⟨rfl, rfl⟩) (by decide) rfl (by decide) na_0 rfl rfl ?_
  exact a_X10_init_102 h
