def m_X3_readNot (kOne kOr kNot : Int32 → ax_M → Option ax_M) (x1 : Int32) (μ : ax_M) : Option (ax_M) :=
  (m_X3_isAt 8 μ).bind fun v1 =>
  if v1 = 0 then
    (m_X3_readSum kOne kOr kNot x1 μ).bind fun μ6 =>
    (m_X3_isAt 12 μ6).bind fun v7 =>
    if v7 = 0 then
      (m_X3_isAt 13 μ6).bind fun v10 =>
      if v10 = 0 then
        some μ6
      else
        m_X3_readNot_54 kOne kOr kNot x1 μ6
    else
      m_X3_readNot_54 kOne kOr kNot x1 μ6
  else
    bind2 (m_X3_opens x1 μ) fun v13 μ15 =>
    if v13 = 0 then
      some μ15
    else
      (kNot (x1 + 1) μ15).bind fun μ19 =>
      (m_X3_write 8 μ19).bind fun μ22 =>
      some μ22
set_option maxRecDepth 100000 in
set_option maxHeartbeats 8000000 in
theorem c_X3_readNot {G : ax_G} {l : Launch} {sh : List ax_E} {x1 : Int32} {μ : ax_M} {kOne kOr kNot : Int32 → ax_M → Option ax_M} {dr d : Nat} (hs : ∀ (k : Nat) (e : ax_E), SHc[k]? = some e → sh[k]? = some e) (hOne : ∀ (x1 : Int32) (μ v : ax_M), kOne x1 μ = some v → ax_A G l yX3_readOne cX3_readOne 2 none dr [.ref (G.1 + 22), .int x1] sh μ (none, sh, v)) (hOr : ∀ (x1 : Int32) (μ v : ax_M), kOr x1 μ = some v → ax_A G l yX3_readOr cX3_readOr 3 none dr [.ref (G.1 + 22), .int x1] sh μ (none, sh, v)) (hNot : ∀ (x1 : Int32) (μ v : ax_M), kNot x1 μ = some v → ax_A G l yX3_readNot cX3_readNot 3 none dr [.ref (G.1 + 22), .int x1] sh μ (none, sh, v)) (hdr : 8 ≤ dr) (hdd : dr + 4 ≤ d) {v : ax_M} (h : m_X3_readNot kOne kOr kNot x1 μ = some v) : ax_A G l yX3_readNot cX3_readNot 3 none d [.ref (G.1 + 22), .int x1] sh μ (none, sh, v) := by
  refine ax_A.of false (by decide +kernel) (fun h9 => by cases h9) (Nat.le_of_ble_eq_true rfl) (?_ : ax_X G l RX3 cX3_readNot 3 none false d (none, sh, v) 0 [(0, .ref (G.1 + 22)), (1, .int x1)] [] sh μ)
  unfold m_X3_readNot at h
  refine ax_aload_n (pc := 0) (i := 0) (q := 0) (ax_dd KX3_readNot 0 rfl) rfl rfl ?_
  refine ax_bipush (pc := 1) (v := 8) (ax_dd KX3_readNot 1 rfl) (by decide) ?_
  obtain ⟨v1, b2, h⟩ := ob_bind h
  refine ax_kV (pc := 3) (ci := 3) (k := 22) (As := [.int 8]) (rest := []) (st1 := [.int v1]) (μ1 := μ) (ax_dd KX3_readNot 2 rfl) (c_X3_isAt hs b2) kV_X3_51 e_X3_isAt (hs 22 _ rfl) cl_X3 (by decide) rfl rfl (by omega) (by decide) (Nat.le_of_ble_eq_true rfl) rfl ?_
  by_cases c3 : v1 = 0
  · rw [if_pos c3] at h
    refine ax_if_eq_t (pc := 6) (tgt := 31) (ax_dd KX3_readNot 3 rfl) (by decide) c3 ?_
    refine ax_aload_n (pc := 31) (i := 0) (q := 0) (ax_dd KX3_readNot 17 rfl) rfl rfl ?_
    refine ax_iload_n (pc := 32) (i := 1) (q := 1) (ax_dd KX3_readNot 18 rfl) rfl rfl ?_
    obtain ⟨μ6, b5, h⟩ := ob_bind h
    refine ax_kV (pc := 33) (ci := 3) (k := 22) (As := [.int x1]) (rest := []) (st1 := []) (μ1 := μ6) (ax_dd KX3_readNot 19 rfl) (c_X3_readSum (d := d - 1) hs hOne hOr hNot hdr (by omega) b5) kV_X3_73 e_X3_readSum (hs 22 _ rfl) cl_X3 (by decide) rfl rfl (by omega) (by decide) (Nat.le_of_ble_eq_true rfl) rfl ?_
    refine ax_aload_n (pc := 36) (i := 0) (q := 0) (ax_dd KX3_readNot 20 rfl) rfl rfl ?_
    refine ax_bipush (pc := 37) (v := 12) (ax_dd KX3_readNot 21 rfl) (by decide) ?_
    obtain ⟨v7, b8, h⟩ := ob_bind h
    refine ax_kV (pc := 39) (ci := 3) (k := 22) (As := [.int 12]) (rest := []) (st1 := [.int v7]) (μ1 := μ6) (ax_dd KX3_readNot 22 rfl) (c_X3_isAt hs b8) kV_X3_51 e_X3_isAt (hs 22 _ rfl) cl_X3 (by decide) rfl rfl (by omega) (by decide) (Nat.le_of_ble_eq_true rfl) rfl ?_
    by_cases c9 : v7 = 0
    · rw [if_pos c9] at h
      refine ax_if_ne_f (pc := 42) (tgt := 54) (ax_dd KX3_readNot 23 rfl) (by decide) (fun z => z c9) ?_
      refine ax_aload_n (pc := 45) (i := 0) (q := 0) (ax_dd KX3_readNot 24 rfl) rfl rfl ?_
      refine ax_bipush (pc := 46) (v := 13) (ax_dd KX3_readNot 25 rfl) (by decide) ?_
      obtain ⟨v10, b11, h⟩ := ob_bind h
      refine ax_kV (pc := 48) (ci := 3) (k := 22) (As := [.int 13]) (rest := []) (st1 := [.int v10]) (μ1 := μ6) (ax_dd KX3_readNot 26 rfl) (c_X3_isAt hs b11) kV_X3_51 e_X3_isAt (hs 22 _ rfl) cl_X3 (by decide) rfl rfl (by omega) (by decide) (Nat.le_of_ble_eq_true rfl) rfl ?_
      by_cases c12 : v10 = 0
      · rw [if_pos c12] at h
        refine ax_if_eq_t (pc := 51) (tgt := 81) (ax_dd KX3_readNot 27 rfl) (by decide) c12 ?_
        obtain rfl := Option.some.inj h
        exact ax_vret (pc := 81) (ax_dd KX3_readNot 43 rfl) rfl rfl
      · rw [if_neg c12] at h
        refine ax_if_eq_f (pc := 51) (tgt := 81) (ax_dd KX3_readNot 27 rfl) (by decide) c12 ?_
        exact a_X3_readNot_54 hs hOne hOr hNot hdr hdd h
    · rw [if_neg c9] at h
      refine ax_if_ne_t (pc := 42) (tgt := 54) (ax_dd KX3_readNot 23 rfl) (by decide) c9 ?_
      exact a_X3_readNot_54 hs hOne hOr hNot hdr hdd h
  · rw [if_neg c3] at h
    refine ax_if_eq_f (pc := 6) (tgt := 31) (ax_dd KX3_readNot 3 rfl) (by decide) c3 ?_
    refine ax_aload_n (pc := 9) (i := 0) (q := 0) (ax_dd KX3_readNot 4 rfl) rfl rfl ?_
    refine ax_iload_n (pc := 10) (i := 1) (q := 1) (ax_dd KX3_readNot 5 rfl) rfl rfl ?_
    obtain ⟨v13, μ15, b14, h⟩ := ob_bind2 h
    refine ax_kV (pc := 11) (ci := 3) (k := 22) (As := [.int x1]) (rest := []) (st1 := [.int v13]) (μ1 := μ15) (ax_dd KX3_readNot 6 rfl) (c_X3_opens hs b14) kV_X3_70 e_X3_opens (hs 22 _ rfl) cl_X3 (by decide) rfl rfl (by omega) (by decide) (Nat.le_of_ble_eq_true rfl) rfl ?_
    by_cases c16 : v13 = 0
    · rw [if_pos c16] at h
      refine ax_if_eq_t (pc := 14) (tgt := 30) (ax_dd KX3_readNot 7 rfl) (by decide) c16 ?_
      obtain rfl := Option.some.inj h
      exact ax_vret (pc := 30) (ax_dd KX3_readNot 16 rfl) rfl rfl
    · rw [if_neg c16] at h
      refine ax_if_eq_f (pc := 14) (tgt := 30) (ax_dd KX3_readNot 7 rfl) (by decide) c16 ?_
      refine ax_aload_n (pc := 17) (i := 0) (q := 0) (ax_dd KX3_readNot 8 rfl) rfl rfl ?_
      refine ax_iload_n (pc := 18) (i := 1) (q := 1) (ax_dd KX3_readNot 9 rfl) rfl rfl ?_
      refine ax_iconst (pc := 19) (v := 1) (ax_dd KX3_readNot 10 rfl) (by decide) ?_
      refine ax_iadd (pc := 20) (ax_dd KX3_readNot 11 rfl) ?_
      obtain ⟨μ19, b18, h⟩ := ob_bind h
      refine ax_kV (pc := 21) (ci := 3) (k := 22) (As := [.int (x1 + 1)]) (rest := []) (st1 := []) (μ1 := μ19) (ax_dd KX3_readNot 12 rfl) (hNot _ _ _ b18) kV_X3_67 e_X3_readNot (hs 22 _ rfl) cl_X3 (by decide) rfl rfl (by omega) (by decide) (Nat.le_of_ble_eq_true rfl) rfl ?_
      refine ax_aload_n (pc := 24) (i := 0) (q := 0) (ax_dd KX3_readNot 13 rfl) rfl rfl ?_
      refine ax_bipush (pc := 25) (v := 8) (ax_dd KX3_readNot 14 rfl) (by decide) ?_
      obtain ⟨μ22, b21, h⟩ := ob_bind h
      refine ax_kV (pc := 27) (ci := 3) (k := 22) (As := [.int 8]) (rest := []) (st1 := []) (μ1 := μ22) (ax_dd KX3_readNot 15 rfl) (c_X3_write hs b21) kV_X3_64 e_X3_write (hs 22 _ rfl) cl_X3 (by decide) rfl rfl (by omega) (by decide) (Nat.le_of_ble_eq_true rfl) rfl ?_
      obtain rfl := Option.some.inj h
      exact ax_vret (pc := 30) (ax_dd KX3_readNot 16 rfl) rfl rfl
def m_X3_readAnd_7 (kOne kOr kNot : Int32 → ax_M → Option ax_M) (x1 : Int32) : Nat → Int32 → ax_M → Option (ax_M)
  | 0, _, _ => none
  | n + 1, x2, μ =>
    if 160 ≤ x2 then
      some μ
    else
      (m_X3_isAt 7 μ).bind fun v2 =>
      if v2 = 0 then
        some μ
      else
        (m_X3_goOn μ).bind fun μ7 =>
        (m_X3_readNot kOne kOr kNot x1 μ7).bind fun μ10 =>
        (m_X3_write 7 μ10).bind fun μ13 =>
        m_X3_readAnd_7 kOne kOr kNot x1 n (x2 + 1) μ13
set_option maxRecDepth 100000 in
set_option maxHeartbeats 8000000 in
theorem a_X3_readAnd_7 {G : ax_G} {l : Launch} {sh : List ax_E} {x1 : Int32} {kOne kOr kNot : Int32 → ax_M → Option ax_M} {dr d : Nat} (hs : ∀ (k : Nat) (e : ax_E), SHc[k]? = some e → sh[k]? = some e) (hOne : ∀ (x1 : Int32) (μ v : ax_M), kOne x1 μ = some v → ax_A G l yX3_readOne cX3_readOne 2 none dr [.ref (G.1 + 22), .int x1] sh μ (none, sh, v)) (hOr : ∀ (x1 : Int32) (μ v : ax_M), kOr x1 μ = some v → ax_A G l yX3_readOr cX3_readOr 3 none dr [.ref (G.1 + 22), .int x1] sh μ (none, sh, v)) (hNot : ∀ (x1 : Int32) (μ v : ax_M), kNot x1 μ = some v → ax_A G l yX3_readNot cX3_readNot 3 none dr [.ref (G.1 + 22), .int x1] sh μ (none, sh, v)) (hdr : 8 ≤ dr) (hdd : dr + 5 ≤ d) : ∀ (n : Nat) (x2 : Int32) (μ : ax_M) (v : ax_M), m_X3_readAnd_7 kOne kOr kNot x1 n x2 μ = some v → ax_X G l RX3 cX3_readAnd 3 none false d (none, sh, v) 7 [(0, .ref (G.1 + 22)), (1, .int x1), (2, .int x2)] [] sh μ := by
  intro n
  induction n with
  | zero =>
    intro x2 μ v h
    rw [m_X3_readAnd_7] at h
    cases h
  | succ n ih =>
    intro x2 μ v h
    rw [m_X3_readAnd_7] at h
    refine ax_iload_n (pc := 7) (i := 2) (q := 2) (ax_dd KX3_readAnd 5 rfl) rfl rfl ?_
    refine ax_sipush (pc := 8) (v := 160) (ax_dd KX3_readAnd 6 rfl) (by decide) ?_
    by_cases c1 : 160 ≤ x2
    · rw [if_pos c1] at h
      refine ax_icmp_ge_t (pc := 11) (tgt := 44) (ax_dd KX3_readAnd 7 rfl) (by decide) c1 ?_
      obtain rfl := Option.some.inj h
      exact ax_vret (pc := 44) (ax_dd KX3_readAnd 22 rfl) rfl rfl
    · rw [if_neg c1] at h
      refine ax_icmp_ge_f (pc := 11) (tgt := 44) (ax_dd KX3_readAnd 7 rfl) (by decide) c1 ?_
      refine ax_aload_n (pc := 14) (i := 0) (q := 0) (ax_dd KX3_readAnd 8 rfl) rfl rfl ?_
      refine ax_bipush (pc := 15) (v := 7) (ax_dd KX3_readAnd 9 rfl) (by decide) ?_
      obtain ⟨v2, b3, h⟩ := ob_bind h
      refine ax_kV (pc := 17) (ci := 3) (k := 22) (As := [.int 7]) (rest := []) (st1 := [.int v2]) (μ1 := μ) (ax_dd KX3_readAnd 10 rfl) (c_X3_isAt hs b3) kV_X3_51 e_X3_isAt (hs 22 _ rfl) cl_X3 (by decide) rfl rfl (by omega) (by decide) (Nat.le_of_ble_eq_true rfl) rfl ?_
      by_cases c4 : v2 = 0
      · rw [if_pos c4] at h
        refine ax_if_eq_t (pc := 20) (tgt := 44) (ax_dd KX3_readAnd 11 rfl) (by decide) c4 ?_
        obtain rfl := Option.some.inj h
        exact ax_vret (pc := 44) (ax_dd KX3_readAnd 22 rfl) rfl rfl
      · rw [if_neg c4] at h
        refine ax_if_eq_f (pc := 20) (tgt := 44) (ax_dd KX3_readAnd 11 rfl) (by decide) c4 ?_
        refine ax_aload_n (pc := 23) (i := 0) (q := 0) (ax_dd KX3_readAnd 12 rfl) rfl rfl ?_
        obtain ⟨μ7, b6, h⟩ := ob_bind h
        refine ax_kV (pc := 24) (ci := 3) (k := 22) (As := []) (rest := []) (st1 := []) (μ1 := μ7) (ax_dd KX3_readAnd 13 rfl) (c_X3_goOn hs b6) kV_X3_55 e_X3_goOn (hs 22 _ rfl) cl_X3 (by decide) rfl rfl (by omega) (by decide) (Nat.le_of_ble_eq_true rfl) rfl ?_
        refine ax_aload_n (pc := 27) (i := 0) (q := 0) (ax_dd KX3_readAnd 14 rfl) rfl rfl ?_
        refine ax_iload_n (pc := 28) (i := 1) (q := 1) (ax_dd KX3_readAnd 15 rfl) rfl rfl ?_
        obtain ⟨μ10, b9, h⟩ := ob_bind h
        refine ax_kV (pc := 29) (ci := 3) (k := 22) (As := [.int x1]) (rest := []) (st1 := []) (μ1 := μ10) (ax_dd KX3_readAnd 16 rfl) (c_X3_readNot (d := d - 1) hs hOne hOr hNot hdr (by omega) b9) kV_X3_67 e_X3_readNot (hs 22 _ rfl) cl_X3 (by decide) rfl rfl (by omega) (by decide) (Nat.le_of_ble_eq_true rfl) rfl ?_
        refine ax_aload_n (pc := 32) (i := 0) (q := 0) (ax_dd KX3_readAnd 17 rfl) rfl rfl ?_
        refine ax_bipush (pc := 33) (v := 7) (ax_dd KX3_readAnd 18 rfl) (by decide) ?_
        obtain ⟨μ13, b12, h⟩ := ob_bind h
        refine ax_kV (pc := 35) (ci := 3) (k := 22) (As := [.int 7]) (rest := []) (st1 := []) (μ1 := μ13) (ax_dd KX3_readAnd 19 rfl) (c_X3_write hs b12) kV_X3_64 e_X3_write (hs 22 _ rfl) cl_X3 (by decide) rfl rfl (by omega) (by decide) (Nat.le_of_ble_eq_true rfl) rfl ?_
        refine ax_iinc (pc := 38) (q := 2) (v := (x2 + 1)) (lv' := [(2, .int (x2 + 1)), (0, .ref (G.1 + 22)), (1, .int x1)]) (ax_dd KX3_readAnd 20 rfl) rfl rfl (by decide) rfl ?_
        refine ax_goto (pc := 41) (tgt := 7) (ax_dd KX3_readAnd 21 rfl) (by decide) ?_
        refine ax_sub (lv' := [(0, .ref (G.1 + 22)), (1, .int x1), (2, .int (x2 + 1))]) [1, 2, 0] rfl ?_
        exact ih _ _ _ h
def m_X3_readAnd (kOne kOr kNot : Int32 → ax_M → Option ax_M) (x1 : Int32) (μ : ax_M) : Option (ax_M) :=
  (m_X3_readNot kOne kOr kNot x1 μ).bind fun μ3 =>
  m_X3_readAnd_7 kOne kOr kNot x1 fu 0 μ3
set_option maxRecDepth 100000 in
set_option maxHeartbeats 8000000 in
theorem c_X3_readAnd {G : ax_G} {l : Launch} {sh : List ax_E} {x1 : Int32} {μ : ax_M} {kOne kOr kNot : Int32 → ax_M → Option ax_M} {dr d : Nat} (hs : ∀ (k : Nat) (e : ax_E), SHc[k]? = some e → sh[k]? = some e) (hOne : ∀ (x1 : Int32) (μ v : ax_M), kOne x1 μ = some v → ax_A G l yX3_readOne cX3_readOne 2 none dr [.ref (G.1 + 22), .int x1] sh μ (none, sh, v)) (hOr : ∀ (x1 : Int32) (μ v : ax_M), kOr x1 μ = some v → ax_A G l yX3_readOr cX3_readOr 3 none dr [.ref (G.1 + 22), .int x1] sh μ (none, sh, v)) (hNot : ∀ (x1 : Int32) (μ v : ax_M), kNot x1 μ = some v → ax_A G l yX3_readNot cX3_readNot 3 none dr [.ref (G.1 + 22), .int x1] sh μ (none, sh, v)) (hdr : 8 ≤ dr) (hdd : dr + 5 ≤ d) {v : ax_M} (h : m_X3_readAnd kOne kOr kNot x1 μ = some v) : ax_A G l yX3_readAnd cX3_readAnd 3 none d [.ref (G.1 + 22), .int x1] sh μ (none, sh, v) := by
  refine ax_A.of false (by decide +kernel) (fun h9 => by cases h9) (Nat.le_of_ble_eq_true rfl) (?_ : ax_X G l RX3 cX3_readAnd 3 none false d (none, sh, v) 0 [(0, .ref (G.1 + 22)), (1, .int x1)] [] sh μ)
  unfold m_X3_readAnd at h
  refine ax_aload_n (pc := 0) (i := 0) (q := 0) (ax_dd KX3_readAnd 0 rfl) rfl rfl ?_
  refine ax_iload_n (pc := 1) (i := 1) (q := 1) (ax_dd KX3_readAnd 1 rfl) rfl rfl ?_
  obtain ⟨μ3, b2, h⟩ := ob_bind h
  refine ax_kV (pc := 2) (ci := 3) (k := 22) (As := [.int x1]) (rest := []) (st1 := []) (μ1 := μ3) (ax_dd KX3_readAnd 2 rfl) (c_X3_readNot (d := d - 1) hs hOne hOr hNot hdr (by omega) b2) kV_X3_67 e_X3_readNot (hs 22 _ rfl) cl_X3 (by decide) rfl rfl (by omega) (by decide) (Nat.le_of_ble_eq_true rfl) rfl ?_
  refine ax_iconst (pc := 5) (v := 0) (ax_dd KX3_readAnd 3 rfl) (by decide) ?_
  refine ax_istore_n (pc := 6) (i := 2) (lv' := [(2, .int 0), (0, .ref (G.1 + 22)), (1, .int x1)]) (ax_dd KX3_readAnd 4 rfl) rfl (by decide) rfl ?_
  refine ax_sub (lv' := [(0, .ref (G.1 + 22)), (1, .int x1), (2, .int 0)]) [1, 2, 0] rfl ?_
  exact a_X3_readAnd_7 hs hOne hOr hNot hdr hdd fu _ _ _ h
def m_X3_readOr_7 (kOne kOr kNot : Int32 → ax_M → Option ax_M) (x1 : Int32) : Nat → Int32 → ax_M → Option (ax_M)
  | 0, _, _ => none
  | n + 1, x2, μ =>
    if 160 ≤ x2 then
      some μ
    else
      (m_X3_isAt 6 μ).bind fun v2 =>
      if v2 = 0 then
        some μ
      else
        (m_X3_goOn μ).bind fun μ7 =>
        (m_X3_readAnd kOne kOr kNot x1 μ7).bind fun μ10 =>
        (m_X3_write 6 μ10).bind fun μ13 =>
        m_X3_readOr_7 kOne kOr kNot x1 n (x2 + 1) μ13
set_option maxRecDepth 100000 in
set_option maxHeartbeats 8000000 in
theorem a_X3_readOr_7 {G : ax_G} {l : Launch} {sh : List ax_E} {x1 : Int32} {kOne kOr kNot : Int32 → ax_M → Option ax_M} {dr d : Nat} (hs : ∀ (k : Nat) (e : ax_E), SHc[k]? = some e → sh[k]? = some e) (hOne : ∀ (x1 : Int32) (μ v : ax_M), kOne x1 μ = some v → ax_A G l yX3_readOne cX3_readOne 2 none dr [.ref (G.1 + 22), .int x1] sh μ (none, sh, v)) (hOr : ∀ (x1 : Int32) (μ v : ax_M), kOr x1 μ = some v → ax_A G l yX3_readOr cX3_readOr 3 none dr [.ref (G.1 + 22), .int x1] sh μ (none, sh, v)) (hNot : ∀ (x1 : Int32) (μ v : ax_M), kNot x1 μ = some v → ax_A G l yX3_readNot cX3_readNot 3 none dr [.ref (G.1 + 22), .int x1] sh μ (none, sh, v)) (hdr : 8 ≤ dr) (hdd : dr + 6 ≤ d) : ∀ (n : Nat) (x2 : Int32) (μ : ax_M) (v : ax_M), m_X3_readOr_7 kOne kOr kNot x1 n x2 μ = some v → ax_X G l RX3 cX3_readOr 3 none false d (none, sh, v) 7 [(0, .ref (G.1 + 22)), (1, .int x1), (2, .int x2)] [] sh μ := by
  intro n
  induction n with
  | zero =>
    intro x2 μ v h
    rw [m_X3_readOr_7] at h
    cases h
  | succ n ih =>
    intro x2 μ v h
    rw [m_X3_readOr_7] at h
    refine ax_iload_n (pc := 7) (i := 2) (q := 2) (ax_dd KX3_readOr 5 rfl) rfl rfl ?_
    refine ax_sipush (pc := 8) (v := 160) (ax_dd KX3_readOr 6 rfl) (by decide) ?_
    by_cases c1 : 160 ≤ x2
    · rw [if_pos c1] at h
      refine ax_icmp_ge_t (pc := 11) (tgt := 44) (ax_dd KX3_readOr 7 rfl) (by decide) c1 ?_
      obtain rfl := Option.some.inj h
      exact ax_vret (pc := 44) (ax_dd KX3_readOr 22 rfl) rfl rfl
    · rw [if_neg c1] at h
      refine ax_icmp_ge_f (pc := 11) (tgt := 44) (ax_dd KX3_readOr 7 rfl) (by decide) c1 ?_
      refine ax_aload_n (pc := 14) (i := 0) (q := 0) (ax_dd KX3_readOr 8 rfl) rfl rfl ?_
      refine ax_bipush (pc := 15) (v := 6) (ax_dd KX3_readOr 9 rfl) (by decide) ?_
      obtain ⟨v2, b3, h⟩ := ob_bind h
      refine ax_kV (pc := 17) (ci := 3) (k := 22) (As := [.int 6]) (rest := []) (st1 := [.int v2]) (μ1 := μ) (ax_dd KX3_readOr 10 rfl) (c_X3_isAt hs b3) kV_X3_51 e_X3_isAt (hs 22 _ rfl) cl_X3 (by decide) rfl rfl (by omega) (by decide) (Nat.le_of_ble_eq_true rfl) rfl ?_
      by_cases c4 : v2 = 0
      · rw [if_pos c4] at h
        refine ax_if_eq_t (pc := 20) (tgt := 44) (ax_dd KX3_readOr 11 rfl) (by decide) c4 ?_
        obtain rfl := Option.some.inj h
        exact ax_vret (pc := 44) (ax_dd KX3_readOr 22 rfl) rfl rfl
      · rw [if_neg c4] at h
        refine ax_if_eq_f (pc := 20) (tgt := 44) (ax_dd KX3_readOr 11 rfl) (by decide) c4 ?_
        refine ax_aload_n (pc := 23) (i := 0) (q := 0) (ax_dd KX3_readOr 12 rfl) rfl rfl ?_
        obtain ⟨μ7, b6, h⟩ := ob_bind h
        refine ax_kV (pc := 24) (ci := 3) (k := 22) (As := []) (rest := []) (st1 := []) (μ1 := μ7) (ax_dd KX3_readOr 13 rfl) (c_X3_goOn hs b6) kV_X3_55 e_X3_goOn (hs 22 _ rfl) cl_X3 (by decide) rfl rfl (by omega) (by decide) (Nat.le_of_ble_eq_true rfl) rfl ?_
        refine ax_aload_n (pc := 27) (i := 0) (q := 0) (ax_dd KX3_readOr 14 rfl) rfl rfl ?_
        refine ax_iload_n (pc := 28) (i := 1) (q := 1) (ax_dd KX3_readOr 15 rfl) rfl rfl ?_
        obtain ⟨μ10, b9, h⟩ := ob_bind h
        refine ax_kV (pc := 29) (ci := 3) (k := 22) (As := [.int x1]) (rest := []) (st1 := []) (μ1 := μ10) (ax_dd KX3_readOr 16 rfl) (c_X3_readAnd (d := d - 1) hs hOne hOr hNot hdr (by omega) b9) kV_X3_61 e_X3_readAnd (hs 22 _ rfl) cl_X3 (by decide) rfl rfl (by omega) (by decide) (Nat.le_of_ble_eq_true rfl) rfl ?_
        refine ax_aload_n (pc := 32) (i := 0) (q := 0) (ax_dd KX3_readOr 17 rfl) rfl rfl ?_
        refine ax_bipush (pc := 33) (v := 6) (ax_dd KX3_readOr 18 rfl) (by decide) ?_
        obtain ⟨μ13, b12, h⟩ := ob_bind h
        refine ax_kV (pc := 35) (ci := 3) (k := 22) (As := [.int 6]) (rest := []) (st1 := []) (μ1 := μ13) (ax_dd KX3_readOr 19 rfl) (c_X3_write hs b12) kV_X3_64 e_X3_write (hs 22 _ rfl) cl_X3 (by decide) rfl rfl (by omega) (by decide) (Nat.le_of_ble_eq_true rfl) rfl ?_
        refine ax_iinc (pc := 38) (q := 2) (v := (x2 + 1)) (lv' := [(2, .int (x2 + 1)), (0, .ref (G.1 + 22)), (1, .int x1)]) (ax_dd KX3_readOr 20 rfl) rfl rfl (by decide) rfl ?_
        refine ax_goto (pc := 41) (tgt := 7) (ax_dd KX3_readOr 21 rfl) (by decide) ?_
        refine ax_sub (lv' := [(0, .ref (G.1 + 22)), (1, .int x1), (2, .int (x2 + 1))]) [1, 2, 0] rfl ?_
        exact ih _ _ _ h
def m_X3_readOr (kOne kOr kNot : Int32 → ax_M → Option ax_M) (x1 : Int32) (μ : ax_M) : Option (ax_M) :=
  (m_X3_readAnd kOne kOr kNot x1 μ).bind fun μ3 =>
  m_X3_readOr_7 kOne kOr kNot x1 fu 0 μ3
set_option maxRecDepth 100000 in
set_option maxHeartbeats 8000000 in
theorem c_X3_readOr {G : ax_G} {l : Launch} {sh : List ax_E} {x1 : Int32} {μ : ax_M} {kOne kOr kNot : Int32 → ax_M → Option ax_M} {dr d : Nat} (hs : ∀ (k : Nat) (e : ax_E), SHc[k]? = some e → sh[k]? = some e) (hOne : ∀ (x1 : Int32) (μ v : ax_M), kOne x1 μ = some v → ax_A G l yX3_readOne cX3_readOne 2 none dr [.ref (G.1 + 22), .int x1] sh μ (none, sh, v)) (hOr : ∀ (x1 : Int32) (μ v : ax_M), kOr x1 μ = some v → ax_A G l yX3_readOr cX3_readOr 3 none dr [.ref (G.1 + 22), .int x1] sh μ (none, sh, v)) (hNot : ∀ (x1 : Int32) (μ v : ax_M), kNot x1 μ = some v → ax_A G l yX3_readNot cX3_readNot 3 none dr [.ref (G.1 + 22), .int x1] sh μ (none, sh, v)) (hdr : 8 ≤ dr) (hdd : dr + 6 ≤ d) {v : ax_M} (h : m_X3_readOr kOne kOr kNot x1 μ = some v) : ax_A G l yX3_readOr cX3_readOr 3 none d [.ref (G.1 + 22), .int x1] sh μ (none, sh, v) := by
  refine ax_A.of false (by decide +kernel) (fun h9 => by cases h9) (Nat.le_of_ble_eq_true rfl) (?_ : ax_X G l RX3 cX3_readOr 3 none false d (none, sh, v) 0 [(0, .ref (G.1 + 22)), (1, .int x1)] [] sh μ)
  unfold m_X3_readOr at h
  refine ax_aload_n (pc := 0) (i := 0) (q := 0) (ax_dd KX3_readOr 0 rfl) rfl rfl ?_
  refine ax_iload_n (pc := 1) (i := 1) (q := 1) (ax_dd KX3_readOr 1 rfl) rfl rfl ?_
  obtain ⟨μ3, b2, h⟩ := ob_bind h
  refine ax_kV (pc := 2) (ci := 3) (k := 22) (As := [.int x1]) (rest := []) (st1 := []) (μ1 := μ3) (ax_dd KX3_readOr 2 rfl) (c_X3_readAnd (d := d - 1) hs hOne hOr hNot hdr (by omega) b2) kV_X3_61 e_X3_readAnd (hs 22 _ rfl) cl_X3 (by decide) rfl rfl (by omega) (by decide) (Nat.le_of_ble_eq_true rfl) rfl ?_
  refine ax_iconst (pc := 5) (v := 0) (ax_dd KX3_readOr 3 rfl) (by decide) ?_
  refine ax_istore_n (pc := 6) (i := 2) (lv' := [(2, .int 0), (0, .ref (G.1 + 22)), (1, .int x1)]) (ax_dd KX3_readOr 4 rfl) rfl (by decide) rfl ?_
  refine ax_sub (lv' := [(0, .ref (G.1 + 22)), (1, .int x1), (2, .int 0)]) [1, 2, 0] rfl ?_
  exact a_X3_readOr_7 hs hOne hOr hNot hdr hdd fu _ _ _ h
def f_rd : Nat → Nat → Int32 → ax_M → Option ax_M
  | 0, _, _, _ => none
  | n + 1, w, x, μ => if w = 0 then m_X3_readOr (f_rd n 2) (f_rd n 0) (f_rd n 1) x μ else if w = 1 then m_X3_readNot (f_rd n 2) (f_rd n 0) (f_rd n 1) x μ else m_X3_readOne (f_rd n 2) (f_rd n 0) (f_rd n 1) x μ
theorem c_rdA {G : ax_G} {l : Launch} {sh : List ax_E} (hs : ∀ (k : Nat) (e : ax_E), SHc[k]? = some e → sh[k]? = some e) : ∀ (n : Nat) (x1 : Int32) (μ v : ax_M), (f_rd n 0 x1 μ = some v → ax_A G l yX3_readOr cX3_readOr 3 none (8 + 6 * n) [.ref (G.1 + 22), .int x1] sh μ (none, sh, v)) ∧ (f_rd n 1 x1 μ = some v → ax_A G l yX3_readNot cX3_readNot 3 none (8 + 6 * n) [.ref (G.1 + 22), .int x1] sh μ (none, sh, v)) ∧ (f_rd n 2 x1 μ = some v → ax_A G l yX3_readOne cX3_readOne 2 none (8 + 6 * n) [.ref (G.1 + 22), .int x1] sh μ (none, sh, v)) := by
  intro n
  induction n with
  | zero => intro x1 μ v; exact ⟨fun h => (by cases h), fun h => (by cases h), fun h => (by cases h)⟩
  | succ n ih =>
    intro x1 μ v
    exact ⟨fun h => c_X3_readOr hs (dr := 8 + 6 * n) (fun x μ v => (ih x μ v).2.2) (fun x μ v => (ih x μ v).1) (fun x μ v => (ih x μ v).2.1) (by omega) (by omega) h, fun h => c_X3_readNot hs (dr := 8 + 6 * n) (fun x μ v => (ih x μ v).2.2) (fun x μ v => (ih x μ v).1) (fun x μ v => (ih x μ v).2.1) (by omega) (by omega) h, fun h => c_X3_readOne hs (dr := 8 + 6 * n) (fun x μ v => (ih x μ v).2.2) (fun x μ v => (ih x μ v).1) (fun x μ v => (ih x μ v).2.1) (by omega) (by omega) h⟩
theorem c_rd {G : ax_G} {l : Launch} {sh : List ax_E} (hs : ∀ (k : Nat) (e : ax_E), SHc[k]? = some e → sh[k]? = some e) {x1 : Int32} {μ v : ax_M} (h : f_rd 9 0 x1 μ = some v) : ax_A G l yX3_readOr cX3_readOr 3 none 62 [.ref (G.1 + 22), .int x1] sh μ (none, sh, v) := (c_rdA hs 9 x1 μ v).1 h

def m_X3_fault_24 : Nat → Int32 → ax_M → Option (Int32 × ax_M)
  | 0, _, _ => none
  | n + 1, x1, μ =>
    if 3 ≤ x1 then
      (m_X3_demand 21 μ).bind fun μ4 =>
      if (μ4 22 5) = 0 then
        some ((-1), μ4)
      else
        (ix 161 (μ4 22 4)).bind fun j6 =>
        some ((μ4 21 j6), μ4)
    else
      (m_X3_demand ((9 : Int32) + x1) μ).bind fun μ10 =>
      (f_rd 9 0 0 μ10).bind fun μ13 =>
      (m_X3_demand 19 μ13).bind fun μ16 =>
      (ix 3 x1).bind fun j17 =>
      m_X3_fault_24 n (x1 + 1) (ax_w μ16 24 j17 (μ16 22 3))
set_option maxRecDepth 100000 in
set_option maxHeartbeats 8000000 in
theorem a_X3_fault_24 {G : ax_G} {l : Launch} {sh : List ax_E} (hs : ∀ (k : Nat) (e : ax_E), SHc[k]? = some e → sh[k]? = some e) : ∀ (n : Nat) (x1 : Int32) (μ : ax_M) (v : Int32 × ax_M), m_X3_fault_24 n x1 μ = some v → ax_X G l RX3 cX3_fault 2 (some .int) false 121 (some (.int v.1), sh, v.2) 24 [(0, .ref (G.1 + 22)), (1, .int x1)] [] sh μ := by
  intro n
  induction n with
  | zero =>
    intro x1 μ v h
    rw [m_X3_fault_24] at h
    cases h
  | succ n ih =>
    intro x1 μ v h
    rw [m_X3_fault_24] at h
    refine ax_iload_n (pc := 24) (i := 1) (q := 1) (ax_dd KX3_fault 14 rfl) rfl rfl ?_
    refine ax_iconst (pc := 25) (v := 3) (ax_dd KX3_fault 15 rfl) (by decide) ?_
    by_cases c1 : 3 ≤ x1
    · rw [if_pos c1] at h
      refine ax_icmp_ge_t (pc := 26) (tgt := 64) (ax_dd KX3_fault 16 rfl) (by decide) c1 ?_
      refine ax_aload_n (pc := 64) (i := 0) (q := 0) (ax_dd KX3_fault 36 rfl) rfl rfl ?_
      refine ax_bipush (pc := 65) (v := 21) (ax_dd KX3_fault 37 rfl) (by decide) ?_
      obtain ⟨μ4, b3, h⟩ := ob_bind h
      refine ax_kV (pc := 67) (ci := 3) (k := 22) (As := [.int 21]) (rest := []) (st1 := []) (μ1 := μ4) (ax_dd KX3_fault 38 rfl) (c_X3_demand hs b3) kV_X3_38 e_X3_demand (hs 22 _ rfl) cl_X3 (by decide) rfl rfl (by decide) (by decide) (Nat.le_of_ble_eq_true rfl) rfl ?_
      refine ax_aload_n (pc := 70) (i := 0) (q := 0) (ax_dd KX3_fault 39 rfl) rfl rfl ?_
      refine ax_getI (pc := 71) (k := 22) (ax_dd KX3_fault 40 rfl) f_X3_34 (hs 22 _ rfl) rfl ?_
      by_cases c5 : (μ4 22 5) = 0
      · rw [if_pos c5] at h
        refine ax_if_eq_t (pc := 74) (tgt := 92) (ax_dd KX3_fault 41 rfl) (by decide) c5 ?_
        refine ax_iconst (pc := 92) (v := (-1)) (ax_dd KX3_fault 49 rfl) (by decide) ?_
        obtain rfl := Option.some.inj h
        exact ax_ireti (pc := 93) (ax_dd KX3_fault 50 rfl) ⟨_, rfl, rfl⟩ rfl
      · rw [if_neg c5] at h
        refine ax_if_eq_f (pc := 74) (tgt := 92) (ax_dd KX3_fault 41 rfl) (by decide) c5 ?_
        refine ax_aload_n (pc := 77) (i := 0) (q := 0) (ax_dd KX3_fault 42 rfl) rfl rfl ?_
        refine ax_getR (pc := 78) (k := 22) (q := 18) (ax_dd KX3_fault 43 rfl) f_X3_18 (hs 22 _ rfl) rfl ?_
        refine ax_getR (pc := 81) (k := 18) (q := 21) (ax_dd KX3_fault 44 rfl) f_X3_45 (hs 18 _ rfl) rfl ?_
        refine ax_aload_n (pc := 84) (i := 0) (q := 0) (ax_dd KX3_fault 45 rfl) rfl rfl ?_
        refine ax_getI (pc := 85) (k := 22) (ax_dd KX3_fault 46 rfl) f_X3_31 (hs 22 _ rfl) rfl ?_
        obtain ⟨j6, b7, h⟩ := ob_bind h
        refine ax_ild (pc := 88) (k := 21) (N := 161) (j := j6) (ax_dd KX3_fault 47 rfl) (hs 21 _ rfl) b7 ?_
        refine ax_goto (pc := 89) (tgt := 93) (ax_dd KX3_fault 48 rfl) (by decide) ?_
        obtain rfl := Option.some.inj h
        exact ax_ireti (pc := 93) (ax_dd KX3_fault 50 rfl) ⟨_, rfl, rfl⟩ rfl
    · rw [if_neg c1] at h
      refine ax_icmp_ge_f (pc := 26) (tgt := 64) (ax_dd KX3_fault 16 rfl) (by decide) c1 ?_
      refine ax_aload_n (pc := 29) (i := 0) (q := 0) (ax_dd KX3_fault 17 rfl) rfl rfl ?_
      refine ax_bipush (pc := 30) (v := 9) (ax_dd KX3_fault 18 rfl) (by decide) ?_
      refine ax_iload_n (pc := 32) (i := 1) (q := 1) (ax_dd KX3_fault 19 rfl) rfl rfl ?_
      refine ax_iadd (pc := 33) (ax_dd KX3_fault 20 rfl) ?_
      obtain ⟨μ10, b9, h⟩ := ob_bind h
      refine ax_kV (pc := 34) (ci := 3) (k := 22) (As := [.int ((9 : Int32) + x1)]) (rest := []) (st1 := []) (μ1 := μ10) (ax_dd KX3_fault 21 rfl) (c_X3_demand hs b9) kV_X3_38 e_X3_demand (hs 22 _ rfl) cl_X3 (by decide) rfl rfl (by decide) (by decide) (Nat.le_of_ble_eq_true rfl) rfl ?_
      refine ax_aload_n (pc := 37) (i := 0) (q := 0) (ax_dd KX3_fault 22 rfl) rfl rfl ?_
      refine ax_iconst (pc := 38) (v := 0) (ax_dd KX3_fault 23 rfl) (by decide) ?_
      obtain ⟨μ13, b12, h⟩ := ob_bind h
      refine ax_kV (pc := 39) (ci := 3) (k := 22) (As := [.int 0]) (rest := []) (st1 := []) (μ1 := μ13) (ax_dd KX3_fault 24 rfl) (c_rd hs b12) kV_X3_42 e_X3_readOr (hs 22 _ rfl) cl_X3 (by decide) rfl rfl (by decide) (by decide) (Nat.le_of_ble_eq_true rfl) rfl ?_
      refine ax_aload_n (pc := 42) (i := 0) (q := 0) (ax_dd KX3_fault 25 rfl) rfl rfl ?_
      refine ax_bipush (pc := 43) (v := 19) (ax_dd KX3_fault 26 rfl) (by decide) ?_
      obtain ⟨μ16, b15, h⟩ := ob_bind h
      refine ax_kV (pc := 45) (ci := 3) (k := 22) (As := [.int 19]) (rest := []) (st1 := []) (μ1 := μ16) (ax_dd KX3_fault 27 rfl) (c_X3_demand hs b15) kV_X3_38 e_X3_demand (hs 22 _ rfl) cl_X3 (by decide) rfl rfl (by decide) (by decide) (Nat.le_of_ble_eq_true rfl) rfl ?_
      refine ax_aload_n (pc := 48) (i := 0) (q := 0) (ax_dd KX3_fault 28 rfl) rfl rfl ?_
      refine ax_getR (pc := 49) (k := 22) (q := 24) (ax_dd KX3_fault 29 rfl) f_X3_15 (hs 22 _ rfl) rfl ?_
      refine ax_iload_n (pc := 52) (i := 1) (q := 1) (ax_dd KX3_fault 30 rfl) rfl rfl ?_
      refine ax_aload_n (pc := 53) (i := 0) (q := 0) (ax_dd KX3_fault 31 rfl) rfl rfl ?_
      refine ax_getI (pc := 54) (k := 22) (ax_dd KX3_fault 32 rfl) f_X3_27 (hs 22 _ rfl) rfl ?_
      obtain ⟨j17, b18, h⟩ := ob_bind h
      refine ax_ist (pc := 57) (k := 24) (N := 3) (j := j17) (ax_dd KX3_fault 33 rfl) (hs 24 _ rfl) b18 ?_
      refine ax_iinc (pc := 58) (q := 1) (v := (x1 + 1)) (lv' := [(1, .int (x1 + 1)), (0, .ref (G.1 + 22))]) (ax_dd KX3_fault 34 rfl) rfl rfl (by decide) rfl ?_
      refine ax_goto (pc := 61) (tgt := 24) (ax_dd KX3_fault 35 rfl) (by decide) ?_
      refine ax_sub (lv' := [(0, .ref (G.1 + 22)), (1, .int (x1 + 1))]) [1, 0] rfl ?_
      exact ih _ _ _ h
def m_X3_fault (μ : ax_M) : Option (Int32 × ax_M) :=
  (m_X6_split μ).bind fun μ3 =>
  m_X3_fault_24 fu 0 (ax_w (ax_w (ax_w μ3 22 3 0) 22 4 0) 22 5 0)
set_option maxRecDepth 100000 in
set_option maxHeartbeats 8000000 in
theorem c_X3_fault {G : ax_G} {l : Launch} {sh : List ax_E} {μ : ax_M} (hs : ∀ (k : Nat) (e : ax_E), SHc[k]? = some e → sh[k]? = some e) {v : Int32 × ax_M} (h : m_X3_fault μ = some v) : ax_A G l yX3_fault cX3_fault 2 (some .int) 121 [.ref (G.1 + 22)] sh μ (some (.int v.1), sh, v.2) := by
  refine ax_A.of false (by decide +kernel) (fun h9 => by cases h9) (Nat.le_of_ble_eq_true rfl) (?_ : ax_X G l RX3 cX3_fault 2 (some .int) false 121 (some (.int v.1), sh, v.2) 0 [(0, .ref (G.1 + 22))] [] sh μ)
  unfold m_X3_fault at h
  refine ax_aload_n (pc := 0) (i := 0) (q := 0) (ax_dd KX3_fault 0 rfl) rfl rfl ?_
  refine ax_getR (pc := 1) (k := 22) (q := 18) (ax_dd KX3_fault 1 rfl) f_X3_18 (hs 22 _ rfl) rfl ?_
  obtain ⟨μ3, b2, h⟩ := ob_bind h
  refine ax_kV (pc := 4) (ci := 6) (k := 18) (As := []) (rest := []) (st1 := []) (μ1 := μ3) (ax_dd KX3_fault 2 rfl) (c_X6_split hs b2) kV_X3_22 e_X6_split (hs 18 _ rfl) cl_X6 (by decide) rfl rfl (by decide) (by decide) (Nat.le_of_ble_eq_true rfl) rfl ?_
  refine ax_aload_n (pc := 7) (i := 0) (q := 0) (ax_dd KX3_fault 3 rfl) rfl rfl ?_
  refine ax_iconst (pc := 8) (v := 0) (ax_dd KX3_fault 4 rfl) (by decide) ?_
  refine ax_putI (pc := 9) (k := 22) (ax_dd KX3_fault 5 rfl) f_X3_27 ft_X3 (hs 22 _ rfl) rfl (fun _ h9 => by cases h9; rfl) rfl rfl ?_
  refine ax_aload_n (pc := 12) (i := 0) (q := 0) (ax_dd KX3_fault 6 rfl) rfl rfl ?_
  refine ax_iconst (pc := 13) (v := 0) (ax_dd KX3_fault 7 rfl) (by decide) ?_
  refine ax_putI (pc := 14) (k := 22) (ax_dd KX3_fault 8 rfl) f_X3_31 ft_X3 (hs 22 _ rfl) rfl (fun _ h9 => by cases h9; rfl) rfl rfl ?_
  refine ax_aload_n (pc := 17) (i := 0) (q := 0) (ax_dd KX3_fault 9 rfl) rfl rfl ?_
  refine ax_iconst (pc := 18) (v := 0) (ax_dd KX3_fault 10 rfl) (by decide) ?_
  refine ax_putI (pc := 19) (k := 22) (ax_dd KX3_fault 11 rfl) f_X3_34 ft_X3 (hs 22 _ rfl) rfl (fun _ h9 => by cases h9; rfl) rfl rfl ?_
  refine ax_iconst (pc := 22) (v := 0) (ax_dd KX3_fault 12 rfl) (by decide) ?_
  refine ax_istore_n (pc := 23) (i := 1) (lv' := [(1, .int 0), (0, .ref (G.1 + 22))]) (ax_dd KX3_fault 13 rfl) rfl (by decide) rfl ?_
  refine ax_sub (lv' := [(0, .ref (G.1 + 22)), (1, .int 0)]) [1, 0] rfl ?_
  exact a_X3_fault_24 hs fu _ _ _ h
def m_X4_refuses (x1 : Int32) (μ : ax_M) : Option (Int32) :=
  if x1 < 0 then
    some (-2)
  else
    if x1 < 4 then
      (ix 4 x1).bind fun j3 =>
      if (μ 49 j3) = (-1) then
        some (-11)
      else
        some 0
    else
      some (-2)
set_option maxRecDepth 100000 in
set_option maxHeartbeats 8000000 in
theorem c_X4_refuses {G : ax_G} {l : Launch} {sh : List ax_E} {x1 : Int32} {μ : ax_M} (hs : ∀ (k : Nat) (e : ax_E), SHc[k]? = some e → sh[k]? = some e) {v : Int32} (h : m_X4_refuses x1 μ = some v) : ax_A G l yX4_refuses cX4_refuses 2 (some .int) 2 [.ref (G.1 + 43), .int x1] sh μ (some (.int v), sh, μ) := by
  refine ax_A.of false (by decide +kernel) (fun h9 => by cases h9) (Nat.le_of_ble_eq_true rfl) (?_ : ax_X G l RX4 cX4_refuses 2 (some .int) false 2 (some (.int v), sh, μ) 0 [(0, .ref (G.1 + 43)), (1, .int x1)] [] sh μ)
  unfold m_X4_refuses at h
  refine ax_iload_n (pc := 0) (i := 1) (q := 1) (ax_dd KX4_refuses 0 rfl) rfl rfl ?_
  by_cases c1 : x1 < 0
  · rw [if_pos c1] at h
    refine ax_if_lt_t (pc := 1) (tgt := 9) (ax_dd KX4_refuses 1 rfl) (by decide) c1 ?_
    refine ax_bipush (pc := 9) (v := (-2)) (ax_dd KX4_refuses 5 rfl) (by decide) ?_
    obtain rfl := Option.some.inj h
    exact ax_ireti (pc := 11) (ax_dd KX4_refuses 6 rfl) ⟨_, rfl, rfl⟩ rfl
  · rw [if_neg c1] at h
    refine ax_if_lt_f (pc := 1) (tgt := 9) (ax_dd KX4_refuses 1 rfl) (by decide) c1 ?_
    refine ax_iload_n (pc := 4) (i := 1) (q := 1) (ax_dd KX4_refuses 2 rfl) rfl rfl ?_
    refine ax_iconst (pc := 5) (v := 4) (ax_dd KX4_refuses 3 rfl) (by decide) ?_
    by_cases c2 : x1 < 4
    · rw [if_pos c2] at h
      refine ax_icmp_lt_t (pc := 6) (tgt := 12) (ax_dd KX4_refuses 4 rfl) (by decide) c2 ?_
      refine ax_aload_n (pc := 12) (i := 0) (q := 0) (ax_dd KX4_refuses 7 rfl) rfl rfl ?_
      refine ax_getR (pc := 13) (k := 43) (q := 49) (ax_dd KX4_refuses 8 rfl) f_X4_16 (hs 43 _ rfl) rfl ?_
      refine ax_iload_n (pc := 16) (i := 1) (q := 1) (ax_dd KX4_refuses 9 rfl) rfl rfl ?_
      obtain ⟨j3, b4, h⟩ := ob_bind h
      refine ax_ild (pc := 17) (k := 49) (N := 4) (j := j3) (ax_dd KX4_refuses 10 rfl) (hs 49 _ rfl) b4 ?_
      refine ax_iconst (pc := 18) (v := (-1)) (ax_dd KX4_refuses 11 rfl) (by decide) ?_
      by_cases c5 : (μ 49 j3) = (-1)
      · rw [if_pos c5] at h
        refine ax_icmp_ne_f (pc := 19) (tgt := 27) (ax_dd KX4_refuses 12 rfl) (by decide) (fun z => z c5) ?_
        refine ax_bipush (pc := 22) (v := (-11)) (ax_dd KX4_refuses 13 rfl) (by decide) ?_
        refine ax_goto (pc := 24) (tgt := 28) (ax_dd KX4_refuses 14 rfl) (by decide) ?_
        obtain rfl := Option.some.inj h
        exact ax_ireti (pc := 28) (ax_dd KX4_refuses 16 rfl) ⟨_, rfl, rfl⟩ rfl
      · rw [if_neg c5] at h
        refine ax_icmp_ne_t (pc := 19) (tgt := 27) (ax_dd KX4_refuses 12 rfl) (by decide) c5 ?_
        refine ax_iconst (pc := 27) (v := 0) (ax_dd KX4_refuses 15 rfl) (by decide) ?_
        obtain rfl := Option.some.inj h
        exact ax_ireti (pc := 28) (ax_dd KX4_refuses 16 rfl) ⟨_, rfl, rfl⟩ rfl
    · rw [if_neg c2] at h
      refine ax_icmp_lt_f (pc := 6) (tgt := 12) (ax_dd KX4_refuses 4 rfl) (by decide) c2 ?_
      refine ax_bipush (pc := 9) (v := (-2)) (ax_dd KX4_refuses 5 rfl) (by decide) ?_
      obtain rfl := Option.some.inj h
      exact ax_ireti (pc := 11) (ax_dd KX4_refuses 6 rfl) ⟨_, rfl, rfl⟩ rfl
def m_X4_renew_17 (x1 : Int32) (x3 : Int32) : Nat → Int32 → ax_M → Option (ax_M)
  | 0, _, _ => none
  | n + 1, x4, μ =>
    if x3 ≤ x4 then
      some μ
    else
      if 40 ≤ x4 then
        some μ
      else
        (ix 4 x1).bind fun j3 =>
        (q_st μ (45 + j3) x4 0).bind fun μ7 =>
        m_X4_renew_17 x1 x3 n (x4 + 1) μ7
set_option maxRecDepth 100000 in
set_option maxHeartbeats 8000000 in
theorem a_X4_renew_17 {G : ax_G} {l : Launch} {sh : List ax_E} {x1 : Int32} {x3 : Int32} (hs : ∀ (k : Nat) (e : ax_E), SHc[k]? = some e → sh[k]? = some e) : ∀ (n : Nat) (x4 : Int32) (μ : ax_M) (v : ax_M), m_X4_renew_17 x1 x3 n x4 μ = some v → ax_X G l RX4 cX4_renew 5 none false 2 (none, sh, v) 17 [(0, .ref (G.1 + 43)), (1, .int x1), (3, .int x3), (4, .int x4)] [] sh μ := by
  intro n
  induction n with
  | zero =>
    intro x4 μ v h
    rw [m_X4_renew_17] at h
    cases h
  | succ n ih =>
    intro x4 μ v h
    rw [m_X4_renew_17] at h
    refine ax_iload (pc := 17) (q := 3) (ax_dd KX4_renew 12 rfl) rfl ?_
    refine ax_iload_n (pc := 19) (i := 3) (q := 2) (ax_dd KX4_renew 13 rfl) rfl rfl ?_
    by_cases c1 : x3 ≤ x4
    · rw [if_pos c1] at h
      refine ax_icmp_ge_t (pc := 20) (tgt := 46) (ax_dd KX4_renew 14 rfl) (by decide) c1 ?_
      obtain rfl := Option.some.inj h
      exact ax_vret (pc := 46) (ax_dd KX4_renew 27 rfl) rfl rfl
    · rw [if_neg c1] at h
      refine ax_icmp_ge_f (pc := 20) (tgt := 46) (ax_dd KX4_renew 14 rfl) (by decide) c1 ?_
      refine ax_iload (pc := 23) (q := 3) (ax_dd KX4_renew 15 rfl) rfl ?_
      refine ax_bipush (pc := 25) (v := 40) (ax_dd KX4_renew 16 rfl) (by decide) ?_
      by_cases c2 : 40 ≤ x4
      · rw [if_pos c2] at h
        refine ax_icmp_ge_t (pc := 27) (tgt := 46) (ax_dd KX4_renew 17 rfl) (by decide) c2 ?_
        obtain rfl := Option.some.inj h
        exact ax_vret (pc := 46) (ax_dd KX4_renew 27 rfl) rfl rfl
      · rw [if_neg c2] at h
        refine ax_icmp_ge_f (pc := 27) (tgt := 46) (ax_dd KX4_renew 17 rfl) (by decide) c2 ?_
        refine ax_aload_n (pc := 30) (i := 0) (q := 0) (ax_dd KX4_renew 18 rfl) rfl rfl ?_
        refine ax_getR (pc := 31) (k := 43) (q := 44) (ax_dd KX4_renew 19 rfl) f_X4_11 (hs 43 _ rfl) rfl ?_
        refine ax_iload_n (pc := 34) (i := 1) (q := 1) (ax_dd KX4_renew 20 rfl) rfl rfl ?_
        obtain ⟨j3, b4, h⟩ := ob_bind h
        refine ax_ald (pc := 35) (k := 44) (b0 := 45) (N := 4) (j := j3) (ax_dd KX4_renew 21 rfl) (hs 44 _ rfl) b4 ?_
        refine ax_iload (pc := 36) (q := 3) (ax_dd KX4_renew 22 rfl) rfl ?_
        refine ax_iconst (pc := 38) (v := 0) (ax_dd KX4_renew 23 rfl) (by decide) ?_
        obtain ⟨μ7, b6, h⟩ := ob_bind h
        refine ax_qst (pc := 39) (ax_dd KX4_renew 24 rfl) hs b6 ?_
        refine ax_iinc (pc := 40) (q := 3) (v := (x4 + 1)) (lv' := [(4, .int (x4 + 1)), (0, .ref (G.1 + 43)), (1, .int x1), (3, .int x3)]) (ax_dd KX4_renew 25 rfl) rfl rfl (by decide) rfl ?_
        refine ax_goto (pc := 43) (tgt := 17) (ax_dd KX4_renew 26 rfl) (by decide) ?_
        refine ax_sub (lv' := [(0, .ref (G.1 + 43)), (1, .int x1), (3, .int x3), (4, .int (x4 + 1))]) [1, 2, 3, 0] rfl ?_
        exact ih _ _ _ h
def m_X4_renew (x1 : Int32) (x2 : Int32) (x3 : Int32) (μ : ax_M) : Option (ax_M) :=
  (ix 4 x1).bind fun j1 =>
  (ix 4 x1).bind fun j3 =>
  m_X4_renew_17 x1 x3 fu 0 (ax_w (ax_w μ 49 j1 x2) 50 j3 x3)
set_option maxRecDepth 100000 in
set_option maxHeartbeats 8000000 in
theorem c_X4_renew {G : ax_G} {l : Launch} {sh : List ax_E} {x1 : Int32} {x2 : Int32} {x3 : Int32} {μ : ax_M} (hs : ∀ (k : Nat) (e : ax_E), SHc[k]? = some e → sh[k]? = some e) {v : ax_M} (h : m_X4_renew x1 x2 x3 μ = some v) : ax_A G l yX4_renew cX4_renew 5 none 2 [.ref (G.1 + 43), .int x1, .int x2, .int x3] sh μ (none, sh, v) := by
  refine ax_A.of false (by decide +kernel) (fun h9 => by cases h9) (Nat.le_of_ble_eq_true rfl) (?_ : ax_X G l RX4 cX4_renew 5 none false 2 (none, sh, v) 0 [(0, .ref (G.1 + 43)), (1, .int x1), (2, .int x2), (3, .int x3)] [] sh μ)
  unfold m_X4_renew at h
  refine ax_aload_n (pc := 0) (i := 0) (q := 0) (ax_dd KX4_renew 0 rfl) rfl rfl ?_
  refine ax_getR (pc := 1) (k := 43) (q := 49) (ax_dd KX4_renew 1 rfl) f_X4_16 (hs 43 _ rfl) rfl ?_
  refine ax_iload_n (pc := 4) (i := 1) (q := 1) (ax_dd KX4_renew 2 rfl) rfl rfl ?_
  refine ax_iload_n (pc := 5) (i := 2) (q := 2) (ax_dd KX4_renew 3 rfl) rfl rfl ?_
  obtain ⟨j1, b2, h⟩ := ob_bind h
  refine ax_ist (pc := 6) (k := 49) (N := 4) (j := j1) (ax_dd KX4_renew 4 rfl) (hs 49 _ rfl) b2 ?_
  refine ax_aload_n (pc := 7) (i := 0) (q := 0) (ax_dd KX4_renew 5 rfl) rfl rfl ?_
  refine ax_getR (pc := 8) (k := 43) (q := 50) (ax_dd KX4_renew 6 rfl) f_X4_20 (hs 43 _ rfl) rfl ?_
  refine ax_iload_n (pc := 11) (i := 1) (q := 1) (ax_dd KX4_renew 7 rfl) rfl rfl ?_
  refine ax_iload_n (pc := 12) (i := 3) (q := 3) (ax_dd KX4_renew 8 rfl) rfl rfl ?_
  obtain ⟨j3, b4, h⟩ := ob_bind h
  refine ax_ist (pc := 13) (k := 50) (N := 4) (j := j3) (ax_dd KX4_renew 9 rfl) (hs 50 _ rfl) b4 ?_
  refine ax_iconst (pc := 14) (v := 0) (ax_dd KX4_renew 10 rfl) (by decide) ?_
  refine ax_istore (pc := 15) (lv' := [(4, .int 0), (0, .ref (G.1 + 43)), (1, .int x1), (2, .int x2), (3, .int x3)]) (ax_dd KX4_renew 11 rfl) (by decide) rfl ?_
  refine ax_sub (lv' := [(0, .ref (G.1 + 43)), (1, .int x1), (3, .int x3), (4, .int 0)]) [1, 2, 4, 0] rfl ?_
  exact a_X4_renew_17 hs fu _ _ _ h
def m_X4_write (x1 : Int32) (x2 : Int32) (x3 : Int32) (μ : ax_M) : Option (ax_M) :=
  (ix 4 x1).bind fun j1 =>
  if (μ 49 j1) = 0 then
    (ix 4 x1).bind fun j4 =>
    (q_st μ (45 + j4) x2 (x3.toInt8.toInt32)).bind fun μ8 =>
    some μ8
  else
    if (μ 49 j1) = 1 then
      (ix 4 x1).bind fun j10 =>
      (q_st μ (45 + j10) x2 (x3.toInt16.toInt32)).bind fun μ14 =>
      some μ14
    else
      (ix 4 x1).bind fun j15 =>
      (q_st μ (45 + j15) x2 x3).bind fun μ19 =>
      some μ19
set_option maxRecDepth 100000 in
set_option maxHeartbeats 8000000 in
theorem c_X4_write {G : ax_G} {l : Launch} {sh : List ax_E} {x1 : Int32} {x2 : Int32} {x3 : Int32} {μ : ax_M} (hs : ∀ (k : Nat) (e : ax_E), SHc[k]? = some e → sh[k]? = some e) {v : ax_M} (h : m_X4_write x1 x2 x3 μ = some v) : ax_A G l yX4_write cX4_write 4 none 2 [.ref (G.1 + 43), .int x1, .int x2, .int x3] sh μ (none, sh, v) := by
  refine ax_A.of false (by decide +kernel) (fun h9 => by cases h9) (Nat.le_of_ble_eq_true rfl) (?_ : ax_X G l RX4 cX4_write 4 none false 2 (none, sh, v) 0 [(0, .ref (G.1 + 43)), (1, .int x1), (2, .int x2), (3, .int x3)] [] sh μ)
  unfold m_X4_write at h
  refine ax_aload_n (pc := 0) (i := 0) (q := 0) (ax_dd KX4_write 0 rfl) rfl rfl ?_
  refine ax_getR (pc := 1) (k := 43) (q := 49) (ax_dd KX4_write 1 rfl) f_X4_16 (hs 43 _ rfl) rfl ?_
  refine ax_iload_n (pc := 4) (i := 1) (q := 1) (ax_dd KX4_write 2 rfl) rfl rfl ?_
  obtain ⟨j1, b2, h⟩ := ob_bind h
  refine ax_ild (pc := 5) (k := 49) (N := 4) (j := j1) (ax_dd KX4_write 3 rfl) (hs 49 _ rfl) b2 ?_
  by_cases c3 : (μ 49 j1) = 0
  · rw [if_pos c3] at h
    refine ax_look (pc := 6) (off := 26) (tgt := 32) (ax_dd KX4_write 4 rfl) (by decide) (by rw [c3]; rfl) (by decide) ?_
    refine ax_aload_n (pc := 32) (i := 0) (q := 0) (ax_dd KX4_write 5 rfl) rfl rfl ?_
    refine ax_getR (pc := 33) (k := 43) (q := 44) (ax_dd KX4_write 6 rfl) f_X4_11 (hs 43 _ rfl) rfl ?_
    refine ax_iload_n (pc := 36) (i := 1) (q := 1) (ax_dd KX4_write 7 rfl) rfl rfl ?_
    obtain ⟨j4, b5, h⟩ := ob_bind h
    refine ax_ald (pc := 37) (k := 44) (b0 := 45) (N := 4) (j := j4) (ax_dd KX4_write 8 rfl) (hs 44 _ rfl) b5 ?_
    refine ax_iload_n (pc := 38) (i := 2) (q := 2) (ax_dd KX4_write 9 rfl) rfl rfl ?_
    refine ax_iload_n (pc := 39) (i := 3) (q := 3) (ax_dd KX4_write 10 rfl) rfl rfl ?_
    refine ax_i2b (pc := 40) (ax_dd KX4_write 11 rfl) ?_
    obtain ⟨μ8, b7, h⟩ := ob_bind h
    refine ax_qst (pc := 41) (ax_dd KX4_write 12 rfl) hs b7 ?_
    refine ax_goto (pc := 42) (tgt := 67) (ax_dd KX4_write 13 rfl) (by decide) ?_
    obtain rfl := Option.some.inj h
    exact ax_vret (pc := 67) (ax_dd KX4_write 30 rfl) rfl rfl
  · rw [if_neg c3] at h
    by_cases c9 : (μ 49 j1) = 1
    · rw [if_pos c9] at h
      refine ax_look (pc := 6) (off := 39) (tgt := 45) (ax_dd KX4_write 4 rfl) (by decide) (by rw [c9]; rfl) (by decide) ?_
      refine ax_aload_n (pc := 45) (i := 0) (q := 0) (ax_dd KX4_write 14 rfl) rfl rfl ?_
      refine ax_getR (pc := 46) (k := 43) (q := 44) (ax_dd KX4_write 15 rfl) f_X4_11 (hs 43 _ rfl) rfl ?_
      refine ax_iload_n (pc := 49) (i := 1) (q := 1) (ax_dd KX4_write 16 rfl) rfl rfl ?_
      obtain ⟨j10, b11, h⟩ := ob_bind h
      refine ax_ald (pc := 50) (k := 44) (b0 := 45) (N := 4) (j := j10) (ax_dd KX4_write 17 rfl) (hs 44 _ rfl) b11 ?_
      refine ax_iload_n (pc := 51) (i := 2) (q := 2) (ax_dd KX4_write 18 rfl) rfl rfl ?_
      refine ax_iload_n (pc := 52) (i := 3) (q := 3) (ax_dd KX4_write 19 rfl) rfl rfl ?_
      refine ax_i2s (pc := 53) (ax_dd KX4_write 20 rfl) ?_
      obtain ⟨μ14, b13, h⟩ := ob_bind h
      refine ax_qst (pc := 54) (ax_dd KX4_write 21 rfl) hs b13 ?_
      refine ax_goto (pc := 55) (tgt := 67) (ax_dd KX4_write 22 rfl) (by decide) ?_
      obtain rfl := Option.some.inj h
      exact ax_vret (pc := 67) (ax_dd KX4_write 30 rfl) rfl rfl
    · rw [if_neg c9] at h
      refine ax_look (pc := 6) (off := 52) (tgt := 58) (ax_dd KX4_write 4 rfl) (by decide) ((lv_osw c3 rfl).trans ((lv_osw c9 rfl).trans (rfl))) (by decide) ?_
      refine ax_aload_n (pc := 58) (i := 0) (q := 0) (ax_dd KX4_write 23 rfl) rfl rfl ?_
      refine ax_getR (pc := 59) (k := 43) (q := 44) (ax_dd KX4_write 24 rfl) f_X4_11 (hs 43 _ rfl) rfl ?_
      refine ax_iload_n (pc := 62) (i := 1) (q := 1) (ax_dd KX4_write 25 rfl) rfl rfl ?_
      obtain ⟨j15, b16, h⟩ := ob_bind h
      refine ax_ald (pc := 63) (k := 44) (b0 := 45) (N := 4) (j := j15) (ax_dd KX4_write 26 rfl) (hs 44 _ rfl) b16 ?_
      refine ax_iload_n (pc := 64) (i := 2) (q := 2) (ax_dd KX4_write 27 rfl) rfl rfl ?_
      refine ax_iload_n (pc := 65) (i := 3) (q := 3) (ax_dd KX4_write 28 rfl) rfl rfl ?_
      obtain ⟨μ19, b18, h⟩ := ob_bind h
      refine ax_qst (pc := 66) (ax_dd KX4_write 29 rfl) hs b18 ?_
      obtain rfl := Option.some.inj h
      exact ax_vret (pc := 67) (ax_dd KX4_write 30 rfl) rfl rfl
def m_X5_begin (μ : ax_M) : Option (ax_M) :=
  some (ax_w (ax_w (ax_w (ax_w μ 34 1 0) 34 2 0) 34 3 0) 34 4 (-1))
set_option maxRecDepth 100000 in
set_option maxHeartbeats 8000000 in
theorem c_X5_begin {G : ax_G} {l : Launch} {sh : List ax_E} {μ : ax_M} (hs : ∀ (k : Nat) (e : ax_E), SHc[k]? = some e → sh[k]? = some e) {v : ax_M} (h : m_X5_begin μ = some v) : ax_A G l yX5_begin cX5_begin 1 none 2 [.ref (G.1 + 34)] sh μ (none, sh, v) := by
  refine ax_A.of false (by decide +kernel) (fun h9 => by cases h9) (Nat.le_of_ble_eq_true rfl) (?_ : ax_X G l RX5 cX5_begin 1 none false 2 (none, sh, v) 0 [(0, .ref (G.1 + 34))] [] sh μ)
  unfold m_X5_begin at h
  refine ax_aload_n (pc := 0) (i := 0) (q := 0) (ax_dd KX5_begin 0 rfl) rfl rfl ?_
  refine ax_iconst (pc := 1) (v := 0) (ax_dd KX5_begin 1 rfl) (by decide) ?_
  refine ax_putI (pc := 2) (k := 34) (ax_dd KX5_begin 2 rfl) f_X5_15 ft_X5 (hs 34 _ rfl) rfl (fun _ h9 => by cases h9; rfl) rfl rfl ?_
  refine ax_aload_n (pc := 5) (i := 0) (q := 0) (ax_dd KX5_begin 3 rfl) rfl rfl ?_
  refine ax_iconst (pc := 6) (v := 0) (ax_dd KX5_begin 4 rfl) (by decide) ?_
  refine ax_putI (pc := 7) (k := 34) (ax_dd KX5_begin 5 rfl) f_X5_19 ft_X5 (hs 34 _ rfl) rfl (fun _ h9 => by cases h9; rfl) rfl rfl ?_
  refine ax_aload_n (pc := 10) (i := 0) (q := 0) (ax_dd KX5_begin 6 rfl) rfl rfl ?_
  refine ax_iconst (pc := 11) (v := 0) (ax_dd KX5_begin 7 rfl) (by decide) ?_
  refine ax_putI (pc := 12) (k := 34) (ax_dd KX5_begin 8 rfl) f_X5_22 ft_X5 (hs 34 _ rfl) rfl (fun _ h9 => by cases h9; rfl) rfl rfl ?_
  refine ax_aload_n (pc := 15) (i := 0) (q := 0) (ax_dd KX5_begin 9 rfl) rfl rfl ?_
  refine ax_iconst (pc := 16) (v := (-1)) (ax_dd KX5_begin 10 rfl) (by decide) ?_
  refine ax_putI (pc := 17) (k := 34) (ax_dd KX5_begin 11 rfl) f_X5_25 ft_X5 (hs 34 _ rfl) rfl (fun _ h9 => by cases h9; rfl) rfl rfl ?_
  obtain rfl := Option.some.inj h
  exact ax_vret (pc := 20) (ax_dd KX5_begin 12 rfl) rfl rfl
def m_X5_crosses (x1 : Int32) (μ : ax_M) : Option (Int32) :=
  if (μ 34 4) = (-1) then
    some 0
  else
    (ix 36 (μ 34 4)).bind fun j2 =>
    (ix 36 x1).bind fun j4 =>
    if (μ 32 j2) = (μ 32 j4) then
      some 0
    else
      some 1
set_option maxRecDepth 100000 in
set_option maxHeartbeats 8000000 in
theorem c_X5_crosses {G : ax_G} {l : Launch} {sh : List ax_E} {x1 : Int32} {μ : ax_M} (hs : ∀ (k : Nat) (e : ax_E), SHc[k]? = some e → sh[k]? = some e) {v : Int32} (h : m_X5_crosses x1 μ = some v) : ax_A G l yX5_crosses cX5_crosses 2 (some .boolean) 2 [.ref (G.1 + 34), .int x1] sh μ (some (.int v), sh, μ) := by
  refine ax_A.of false (by decide +kernel) (fun h9 => by cases h9) (Nat.le_of_ble_eq_true rfl) (?_ : ax_X G l RX5 cX5_crosses 2 (some .boolean) false 2 (some (.int v), sh, μ) 0 [(0, .ref (G.1 + 34)), (1, .int x1)] [] sh μ)
  unfold m_X5_crosses at h
  refine ax_aload_n (pc := 0) (i := 0) (q := 0) (ax_dd KX5_crosses 0 rfl) rfl rfl ?_
  refine ax_getI (pc := 1) (k := 34) (ax_dd KX5_crosses 1 rfl) f_X5_25 (hs 34 _ rfl) rfl ?_
  refine ax_iconst (pc := 4) (v := (-1)) (ax_dd KX5_crosses 2 rfl) (by decide) ?_
  by_cases c1 : (μ 34 4) = (-1)
  · rw [if_pos c1] at h
    refine ax_icmp_eq_t (pc := 5) (tgt := 36) (ax_dd KX5_crosses 3 rfl) (by decide) c1 ?_
    refine ax_iconst (pc := 36) (v := 0) (ax_dd KX5_crosses 18 rfl) (by decide) ?_
    obtain rfl := Option.some.inj h
    exact ax_ireti (pc := 37) (ax_dd KX5_crosses 19 rfl) ⟨_, rfl, rfl⟩ rfl
  · rw [if_neg c1] at h
    refine ax_icmp_eq_f (pc := 5) (tgt := 36) (ax_dd KX5_crosses 3 rfl) (by decide) c1 ?_
    refine ax_aload_n (pc := 8) (i := 0) (q := 0) (ax_dd KX5_crosses 4 rfl) rfl rfl ?_
    refine ax_getR (pc := 9) (k := 34) (q := 25) (ax_dd KX5_crosses 5 rfl) f_X5_9 (hs 34 _ rfl) rfl ?_
    refine ax_getR (pc := 12) (k := 25) (q := 32) (ax_dd KX5_crosses 6 rfl) f_X5_28 (hs 25 _ rfl) rfl ?_
    refine ax_aload_n (pc := 15) (i := 0) (q := 0) (ax_dd KX5_crosses 7 rfl) rfl rfl ?_
    refine ax_getI (pc := 16) (k := 34) (ax_dd KX5_crosses 8 rfl) f_X5_25 (hs 34 _ rfl) rfl ?_
    obtain ⟨j2, b3, h⟩ := ob_bind h
    refine ax_ild (pc := 19) (k := 32) (N := 36) (j := j2) (ax_dd KX5_crosses 9 rfl) (hs 32 _ rfl) b3 ?_
    refine ax_aload_n (pc := 20) (i := 0) (q := 0) (ax_dd KX5_crosses 10 rfl) rfl rfl ?_
    refine ax_getR (pc := 21) (k := 34) (q := 25) (ax_dd KX5_crosses 11 rfl) f_X5_9 (hs 34 _ rfl) rfl ?_
    refine ax_getR (pc := 24) (k := 25) (q := 32) (ax_dd KX5_crosses 12 rfl) f_X5_28 (hs 25 _ rfl) rfl ?_
    refine ax_iload_n (pc := 27) (i := 1) (q := 1) (ax_dd KX5_crosses 13 rfl) rfl rfl ?_
    obtain ⟨j4, b5, h⟩ := ob_bind h
    refine ax_ild (pc := 28) (k := 32) (N := 36) (j := j4) (ax_dd KX5_crosses 14 rfl) (hs 32 _ rfl) b5 ?_
    by_cases c6 : (μ 32 j2) = (μ 32 j4)
    · rw [if_pos c6] at h
      refine ax_icmp_eq_t (pc := 29) (tgt := 36) (ax_dd KX5_crosses 15 rfl) (by decide) c6 ?_
      refine ax_iconst (pc := 36) (v := 0) (ax_dd KX5_crosses 18 rfl) (by decide) ?_
      obtain rfl := Option.some.inj h
      exact ax_ireti (pc := 37) (ax_dd KX5_crosses 19 rfl) ⟨_, rfl, rfl⟩ rfl
    · rw [if_neg c6] at h
      refine ax_icmp_eq_f (pc := 29) (tgt := 36) (ax_dd KX5_crosses 15 rfl) (by decide) c6 ?_
      refine ax_iconst (pc := 32) (v := 1) (ax_dd KX5_crosses 16 rfl) (by decide) ?_
      refine ax_goto (pc := 33) (tgt := 37) (ax_dd KX5_crosses 17 rfl) (by decide) ?_
      obtain rfl := Option.some.inj h
      exact ax_ireti (pc := 37) (ax_dd KX5_crosses 19 rfl) ⟨_, rfl, rfl⟩ rfl
def m_X5_isStopped_16 (x1 : Int32) (μ : ax_M) : Option (Int32 × ax_M) :=
  bind2 (m_X0_letsOn x1 μ) fun v1 μ3 =>
  if v1 = 0 then
    some (1, μ3)
  else
    some (0, μ3)
set_option maxRecDepth 100000 in
set_option maxHeartbeats 8000000 in
theorem a_X5_isStopped_16 {G : ax_G} {l : Launch} {sh : List ax_E} {x1 : Int32} {μ : ax_M} (hs : ∀ (k : Nat) (e : ax_E), SHc[k]? = some e → sh[k]? = some e) {v : Int32 × ax_M} (h : m_X5_isStopped_16 x1 μ = some v) : ax_X G l RX5 cX5_isStopped 2 (some .boolean) false 6 (some (.int v.1), sh, v.2) 16 [(0, .ref (G.1 + 34)), (1, .int x1)] [] sh μ := by
  unfold m_X5_isStopped_16 at h
  refine ax_aload_n (pc := 16) (i := 0) (q := 0) (ax_dd KX5_isStopped 8 rfl) rfl rfl ?_
  refine ax_getR (pc := 17) (k := 34) (q := 25) (ax_dd KX5_isStopped 9 rfl) f_X5_9 (hs 34 _ rfl) rfl ?_
  refine ax_iload_n (pc := 20) (i := 1) (q := 1) (ax_dd KX5_isStopped 10 rfl) rfl rfl ?_
  obtain ⟨v1, μ3, b2, h⟩ := ob_bind2 h
  refine ax_kV (pc := 21) (ci := 0) (k := 25) (As := [.int x1]) (rest := []) (st1 := [.int v1]) (μ1 := μ3) (ax_dd KX5_isStopped 11 rfl) (c_X0_letsOn hs b2) kV_X5_38 e_X0_letsOn (hs 25 _ rfl) cl_X0 (by decide) rfl rfl (by decide) (by decide) (Nat.le_of_ble_eq_true rfl) rfl ?_
  by_cases c4 : v1 = 0
  · rw [if_pos c4] at h
    refine ax_if_ne_f (pc := 24) (tgt := 31) (ax_dd KX5_isStopped 12 rfl) (by decide) (fun z => z c4) ?_
    refine ax_iconst (pc := 27) (v := 1) (ax_dd KX5_isStopped 13 rfl) (by decide) ?_
    refine ax_goto (pc := 28) (tgt := 32) (ax_dd KX5_isStopped 14 rfl) (by decide) ?_
    obtain rfl := Option.some.inj h
    exact ax_ireti (pc := 32) (ax_dd KX5_isStopped 16 rfl) ⟨_, rfl, rfl⟩ rfl
  · rw [if_neg c4] at h
    refine ax_if_ne_t (pc := 24) (tgt := 31) (ax_dd KX5_isStopped 12 rfl) (by decide) c4 ?_
    refine ax_iconst (pc := 31) (v := 0) (ax_dd KX5_isStopped 15 rfl) (by decide) ?_
    obtain rfl := Option.some.inj h
    exact ax_ireti (pc := 32) (ax_dd KX5_isStopped 16 rfl) ⟨_, rfl, rfl⟩ rfl
def m_X5_isStopped (x1 : Int32) (μ : ax_M) : Option (Int32 × ax_M) :=
  if (μ 34 4) = (-1) then
    m_X5_isStopped_16 x1 μ
  else
    (m_X5_crosses x1 μ).bind fun v2 =>
    if v2 = 0 then
      some (0, μ)
    else
      m_X5_isStopped_16 x1 μ
set_option maxRecDepth 100000 in
set_option maxHeartbeats 8000000 in
theorem c_X5_isStopped {G : ax_G} {l : Launch} {sh : List ax_E} {x1 : Int32} {μ : ax_M} (hs : ∀ (k : Nat) (e : ax_E), SHc[k]? = some e → sh[k]? = some e) {v : Int32 × ax_M} (h : m_X5_isStopped x1 μ = some v) : ax_A G l yX5_isStopped cX5_isStopped 2 (some .boolean) 6 [.ref (G.1 + 34), .int x1] sh μ (some (.int v.1), sh, v.2) := by
  refine ax_A.of false (by decide +kernel) (fun h9 => by cases h9) (Nat.le_of_ble_eq_true rfl) (?_ : ax_X G l RX5 cX5_isStopped 2 (some .boolean) false 6 (some (.int v.1), sh, v.2) 0 [(0, .ref (G.1 + 34)), (1, .int x1)] [] sh μ)
  unfold m_X5_isStopped at h
  refine ax_aload_n (pc := 0) (i := 0) (q := 0) (ax_dd KX5_isStopped 0 rfl) rfl rfl ?_
  refine ax_getI (pc := 1) (k := 34) (ax_dd KX5_isStopped 1 rfl) f_X5_25 (hs 34 _ rfl) rfl ?_
  refine ax_iconst (pc := 4) (v := (-1)) (ax_dd KX5_isStopped 2 rfl) (by decide) ?_
  by_cases c1 : (μ 34 4) = (-1)
  · rw [if_pos c1] at h
    refine ax_icmp_eq_t (pc := 5) (tgt := 16) (ax_dd KX5_isStopped 3 rfl) (by decide) c1 ?_
    exact a_X5_isStopped_16 hs h
  · rw [if_neg c1] at h
    refine ax_icmp_eq_f (pc := 5) (tgt := 16) (ax_dd KX5_isStopped 3 rfl) (by decide) c1 ?_
    refine ax_aload_n (pc := 8) (i := 0) (q := 0) (ax_dd KX5_isStopped 4 rfl) rfl rfl ?_
    refine ax_iload_n (pc := 9) (i := 1) (q := 1) (ax_dd KX5_isStopped 5 rfl) rfl rfl ?_
    obtain ⟨v2, b3, h⟩ := ob_bind h
    refine ax_kV (pc := 10) (ci := 5) (k := 34) (As := [.int x1]) (rest := []) (st1 := [.int v2]) (μ1 := μ) (ax_dd KX5_isStopped 6 rfl) (c_X5_crosses hs b3) kV_X5_34 e_X5_crosses (hs 34 _ rfl) cl_X5 (by decide) rfl rfl (by decide) (by decide) (Nat.le_of_ble_eq_true rfl) rfl ?_
    by_cases c4 : v2 = 0
    · rw [if_pos c4] at h
      refine ax_if_eq_t (pc := 13) (tgt := 31) (ax_dd KX5_isStopped 7 rfl) (by decide) c4 ?_
      refine ax_iconst (pc := 31) (v := 0) (ax_dd KX5_isStopped 15 rfl) (by decide) ?_
      obtain rfl := Option.some.inj h
      exact ax_ireti (pc := 32) (ax_dd KX5_isStopped 16 rfl) ⟨_, rfl, rfl⟩ rfl
    · rw [if_neg c4] at h
      refine ax_if_eq_f (pc := 13) (tgt := 31) (ax_dd KX5_isStopped 7 rfl) (by decide) c4 ?_
      exact a_X5_isStopped_16 hs h
def m_X5_go_36 (x1 : Int32) (μ : ax_M) : Option (ax_M) :=
  (ix 36 x1).bind fun j1 =>
  if (μ 32 j1) = (-1) then
    some (ax_w μ 34 4 x1)
  else
    (ix 36 x1).bind fun j4 =>
    some (ax_w (ax_w μ 34 3 ((μ 34 3) ||| (shI (1 : Int32) (μ 32 j4)))) 34 4 x1)
set_option maxRecDepth 100000 in
set_option maxHeartbeats 8000000 in
theorem a_X5_go_36 {G : ax_G} {l : Launch} {sh : List ax_E} {x1 : Int32} {μ : ax_M} (hs : ∀ (k : Nat) (e : ax_E), SHc[k]? = some e → sh[k]? = some e) {v : ax_M} (h : m_X5_go_36 x1 μ = some v) : ax_X G l RX5 cX5_go 2 none false 3 (none, sh, v) 36 [(0, .ref (G.1 + 34)), (1, .int x1)] [] sh μ := by
  unfold m_X5_go_36 at h
  refine ax_aload_n (pc := 36) (i := 0) (q := 0) (ax_dd KX5_go 20 rfl) rfl rfl ?_
  refine ax_getR (pc := 37) (k := 34) (q := 25) (ax_dd KX5_go 21 rfl) f_X5_9 (hs 34 _ rfl) rfl ?_
  refine ax_getR (pc := 40) (k := 25) (q := 32) (ax_dd KX5_go 22 rfl) f_X5_28 (hs 25 _ rfl) rfl ?_
  refine ax_iload_n (pc := 43) (i := 1) (q := 1) (ax_dd KX5_go 23 rfl) rfl rfl ?_
  obtain ⟨j1, b2, h⟩ := ob_bind h
  refine ax_ild (pc := 44) (k := 32) (N := 36) (j := j1) (ax_dd KX5_go 24 rfl) (hs 32 _ rfl) b2 ?_
  refine ax_iconst (pc := 45) (v := (-1)) (ax_dd KX5_go 25 rfl) (by decide) ?_
  by_cases c3 : (μ 32 j1) = (-1)
  · rw [if_pos c3] at h
    refine ax_icmp_eq_t (pc := 46) (tgt := 69) (ax_dd KX5_go 26 rfl) (by decide) c3 ?_
    refine ax_aload_n (pc := 69) (i := 0) (q := 0) (ax_dd KX5_go 39 rfl) rfl rfl ?_
    refine ax_iload_n (pc := 70) (i := 1) (q := 1) (ax_dd KX5_go 40 rfl) rfl rfl ?_
    refine ax_putI (pc := 71) (k := 34) (ax_dd KX5_go 41 rfl) f_X5_25 ft_X5 (hs 34 _ rfl) rfl (fun _ h9 => by cases h9; rfl) rfl rfl ?_
    obtain rfl := Option.some.inj h
    exact ax_vret (pc := 74) (ax_dd KX5_go 42 rfl) rfl rfl
  · rw [if_neg c3] at h
    refine ax_icmp_eq_f (pc := 46) (tgt := 69) (ax_dd KX5_go 26 rfl) (by decide) c3 ?_
    refine ax_aload_n (pc := 49) (i := 0) (q := 0) (ax_dd KX5_go 27 rfl) rfl rfl ?_
    refine ax_dup (pc := 50) (ax_dd KX5_go 28 rfl) rfl ?_
    refine ax_getI (pc := 51) (k := 34) (ax_dd KX5_go 29 rfl) f_X5_22 (hs 34 _ rfl) rfl ?_
    refine ax_iconst (pc := 54) (v := 1) (ax_dd KX5_go 30 rfl) (by decide) ?_
    refine ax_aload_n (pc := 55) (i := 0) (q := 0) (ax_dd KX5_go 31 rfl) rfl rfl ?_
    refine ax_getR (pc := 56) (k := 34) (q := 25) (ax_dd KX5_go 32 rfl) f_X5_9 (hs 34 _ rfl) rfl ?_
    refine ax_getR (pc := 59) (k := 25) (q := 32) (ax_dd KX5_go 33 rfl) f_X5_28 (hs 25 _ rfl) rfl ?_
    refine ax_iload_n (pc := 62) (i := 1) (q := 1) (ax_dd KX5_go 34 rfl) rfl rfl ?_
    obtain ⟨j4, b5, h⟩ := ob_bind h
    refine ax_ild (pc := 63) (k := 32) (N := 36) (j := j4) (ax_dd KX5_go 35 rfl) (hs 32 _ rfl) b5 ?_
    refine ax_ishl (pc := 64) (ax_dd KX5_go 36 rfl) ?_
    refine ax_ior (pc := 65) (ax_dd KX5_go 37 rfl) ?_
    refine ax_putI (pc := 66) (k := 34) (ax_dd KX5_go 38 rfl) f_X5_22 ft_X5 (hs 34 _ rfl) rfl (fun _ h9 => by cases h9; rfl) rfl rfl ?_
    refine ax_aload_n (pc := 69) (i := 0) (q := 0) (ax_dd KX5_go 39 rfl) rfl rfl ?_
    refine ax_iload_n (pc := 70) (i := 1) (q := 1) (ax_dd KX5_go 40 rfl) rfl rfl ?_
    refine ax_putI (pc := 71) (k := 34) (ax_dd KX5_go 41 rfl) f_X5_25 ft_X5 (hs 34 _ rfl) rfl (fun _ h9 => by cases h9; rfl) rfl rfl ?_
    obtain rfl := Option.some.inj h
    exact ax_vret (pc := 74) (ax_dd KX5_go 42 rfl) rfl rfl
def m_X5_go (x1 : Int32) (μ : ax_M) : Option (ax_M) :=
  (ix 36 x1).bind fun j1 =>
  (m_X5_crosses x1 (ax_w μ 34 1 ((μ 34 1) + (μ 33 j1)))).bind fun v3 =>
  if v3 = 0 then
    m_X5_go_36 x1 (ax_w μ 34 1 ((μ 34 1) + (μ 33 j1)))
  else
    m_X5_go_36 x1 (ax_w (ax_w μ 34 1 ((μ 34 1) + (μ 33 j1))) 34 2 (((ax_w μ 34 1 ((μ 34 1) + (μ 33 j1))) 34 2) + 1))
set_option maxRecDepth 100000 in
set_option maxHeartbeats 8000000 in
theorem c_X5_go {G : ax_G} {l : Launch} {sh : List ax_E} {x1 : Int32} {μ : ax_M} (hs : ∀ (k : Nat) (e : ax_E), SHc[k]? = some e → sh[k]? = some e) {v : ax_M} (h : m_X5_go x1 μ = some v) : ax_A G l yX5_go cX5_go 2 none 3 [.ref (G.1 + 34), .int x1] sh μ (none, sh, v) := by
  refine ax_A.of false (by decide +kernel) (fun h9 => by cases h9) (Nat.le_of_ble_eq_true rfl) (?_ : ax_X G l RX5 cX5_go 2 none false 3 (none, sh, v) 0 [(0, .ref (G.1 + 34)), (1, .int x1)] [] sh μ)
  unfold m_X5_go at h
  refine ax_aload_n (pc := 0) (i := 0) (q := 0) (ax_dd KX5_go 0 rfl) rfl rfl ?_
  refine ax_dup (pc := 1) (ax_dd KX5_go 1 rfl) rfl ?_
  refine ax_getI (pc := 2) (k := 34) (ax_dd KX5_go 2 rfl) f_X5_15 (hs 34 _ rfl) rfl ?_
  refine ax_aload_n (pc := 5) (i := 0) (q := 0) (ax_dd KX5_go 3 rfl) rfl rfl ?_
  refine ax_getR (pc := 6) (k := 34) (q := 25) (ax_dd KX5_go 4 rfl) f_X5_9 (hs 34 _ rfl) rfl ?_
  refine ax_getR (pc := 9) (k := 25) (q := 33) (ax_dd KX5_go 5 rfl) f_X5_41 (hs 25 _ rfl) rfl ?_
  refine ax_iload_n (pc := 12) (i := 1) (q := 1) (ax_dd KX5_go 6 rfl) rfl rfl ?_
  obtain ⟨j1, b2, h⟩ := ob_bind h
  refine ax_ild (pc := 13) (k := 33) (N := 36) (j := j1) (ax_dd KX5_go 7 rfl) (hs 33 _ rfl) b2 ?_
  refine ax_iadd (pc := 14) (ax_dd KX5_go 8 rfl) ?_
  refine ax_putI (pc := 15) (k := 34) (ax_dd KX5_go 9 rfl) f_X5_15 ft_X5 (hs 34 _ rfl) rfl (fun _ h9 => by cases h9; rfl) rfl rfl ?_
  refine ax_aload_n (pc := 18) (i := 0) (q := 0) (ax_dd KX5_go 10 rfl) rfl rfl ?_
  refine ax_iload_n (pc := 19) (i := 1) (q := 1) (ax_dd KX5_go 11 rfl) rfl rfl ?_
  obtain ⟨v3, b4, h⟩ := ob_bind h
  refine ax_kV (pc := 20) (ci := 5) (k := 34) (As := [.int x1]) (rest := []) (st1 := [.int v3]) (μ1 := ax_w μ 34 1 ((μ 34 1) + (μ 33 j1))) (ax_dd KX5_go 12 rfl) (c_X5_crosses hs b4) kV_X5_34 e_X5_crosses (hs 34 _ rfl) cl_X5 (by decide) rfl rfl (by decide) (by decide) (Nat.le_of_ble_eq_true rfl) rfl ?_
  by_cases c5 : v3 = 0
  · rw [if_pos c5] at h
    refine ax_if_eq_t (pc := 23) (tgt := 36) (ax_dd KX5_go 13 rfl) (by decide) c5 ?_
    exact a_X5_go_36 hs h
  · rw [if_neg c5] at h
    refine ax_if_eq_f (pc := 23) (tgt := 36) (ax_dd KX5_go 13 rfl) (by decide) c5 ?_
    refine ax_aload_n (pc := 26) (i := 0) (q := 0) (ax_dd KX5_go 14 rfl) rfl rfl ?_
    refine ax_dup (pc := 27) (ax_dd KX5_go 15 rfl) rfl ?_
    refine ax_getI (pc := 28) (k := 34) (ax_dd KX5_go 16 rfl) f_X5_19 (hs 34 _ rfl) rfl ?_
    refine ax_iconst (pc := 31) (v := 1) (ax_dd KX5_go 17 rfl) (by decide) ?_
    refine ax_iadd (pc := 32) (ax_dd KX5_go 18 rfl) ?_
    refine ax_putI (pc := 33) (k := 34) (ax_dd KX5_go 19 rfl) f_X5_19 ft_X5 (hs 34 _ rfl) rfl (fun _ h9 => by cases h9; rfl) rfl rfl ?_
    exact a_X5_go_36 hs h
def m_X5_answer (x1 : Int32) (μ : ax_M) : Option (Int32) :=
  if x1 = 0 then
    some (μ 34 1)
  else
    if x1 = 1 then
      some (μ 34 2)
    else
      if x1 = 2 then
        some (μ 34 3)
      else
        some (-7)
set_option maxRecDepth 100000 in
set_option maxHeartbeats 8000000 in
theorem c_X5_answer {G : ax_G} {l : Launch} {sh : List ax_E} {x1 : Int32} {μ : ax_M} (hs : ∀ (k : Nat) (e : ax_E), SHc[k]? = some e → sh[k]? = some e) {v : Int32} (h : m_X5_answer x1 μ = some v) : ax_A G l yX5_answer cX5_answer 2 (some .int) 2 [.ref (G.1 + 34), .int x1] sh μ (some (.int v), sh, μ) := by
  refine ax_A.of false (by decide +kernel) (fun h9 => by cases h9) (Nat.le_of_ble_eq_true rfl) (?_ : ax_X G l RX5 cX5_answer 2 (some .int) false 2 (some (.int v), sh, μ) 0 [(0, .ref (G.1 + 34)), (1, .int x1)] [] sh μ)
  unfold m_X5_answer at h
  refine ax_iload_n (pc := 0) (i := 1) (q := 1) (ax_dd KX5_answer 0 rfl) rfl rfl ?_
  by_cases c1 : x1 = 0
  · rw [if_pos c1] at h
    refine ax_tab (pc := 1) (off := 27) (tgt := 28) (ax_dd KX5_answer 1 rfl) (by rw [c1]; decide) (by rw [c1]; decide) (by rw [c1]; rfl) (by decide) ?_
    refine ax_aload_n (pc := 28) (i := 0) (q := 0) (ax_dd KX5_answer 2 rfl) rfl rfl ?_
    refine ax_getI (pc := 29) (k := 34) (ax_dd KX5_answer 3 rfl) f_X5_15 (hs 34 _ rfl) rfl ?_
    obtain rfl := Option.some.inj h
    exact ax_ireti (pc := 32) (ax_dd KX5_answer 4 rfl) ⟨_, rfl, rfl⟩ rfl
  · rw [if_neg c1] at h
    by_cases c2 : x1 = 1
    · rw [if_pos c2] at h
      refine ax_tab (pc := 1) (off := 32) (tgt := 33) (ax_dd KX5_answer 1 rfl) (by rw [c2]; decide) (by rw [c2]; decide) (by rw [c2]; rfl) (by decide) ?_
      refine ax_aload_n (pc := 33) (i := 0) (q := 0) (ax_dd KX5_answer 5 rfl) rfl rfl ?_
      refine ax_getI (pc := 34) (k := 34) (ax_dd KX5_answer 6 rfl) f_X5_19 (hs 34 _ rfl) rfl ?_
      obtain rfl := Option.some.inj h
      exact ax_ireti (pc := 37) (ax_dd KX5_answer 7 rfl) ⟨_, rfl, rfl⟩ rfl
    · rw [if_neg c2] at h
      by_cases c3 : x1 = 2
      · rw [if_pos c3] at h
        refine ax_tab (pc := 1) (off := 37) (tgt := 38) (ax_dd KX5_answer 1 rfl) (by rw [c3]; decide) (by rw [c3]; decide) (by rw [c3]; rfl) (by decide) ?_
        refine ax_aload_n (pc := 38) (i := 0) (q := 0) (ax_dd KX5_answer 8 rfl) rfl rfl ?_
        refine ax_getI (pc := 39) (k := 34) (ax_dd KX5_answer 9 rfl) f_X5_22 (hs 34 _ rfl) rfl ?_
        obtain rfl := Option.some.inj h
        exact ax_ireti (pc := 42) (ax_dd KX5_answer 10 rfl) ⟨_, rfl, rfl⟩ rfl
      · rw [if_neg c3] at h
        refine ax_tabD (pc := 1) (tgt := 43) (ax_dd KX5_answer 1 rfl) (by have e0 := ax_ne c1 (a := 0) rfl; have e1 := ax_ne c2 (a := 1) rfl; have e2 := ax_ne c3 (a := 2) rfl; omega) (by decide) ?_
        refine ax_bipush (pc := 43) (v := (-7)) (ax_dd KX5_answer 11 rfl) (by decide) ?_
        obtain rfl := Option.some.inj h
        exact ax_ireti (pc := 45) (ax_dd KX5_answer 12 rfl) ⟨_, rfl, rfl⟩ rfl
def m_X6_add (x1 : Int32) (μ : ax_M) : Option (ax_M) :=
  if 160 ≤ (μ 18 1) then
    some μ
  else
    (ix 160 (μ 18 1)).bind fun j2 =>
    some (ax_w (ax_w μ 18 1 ((μ 18 1) + 1)) 19 j2 x1)
set_option maxRecDepth 100000 in
set_option maxHeartbeats 8000000 in
theorem c_X6_add {G : ax_G} {l : Launch} {sh : List ax_E} {x1 : Int32} {μ : ax_M} (hs : ∀ (k : Nat) (e : ax_E), SHc[k]? = some e → sh[k]? = some e) {v : ax_M} (h : m_X6_add x1 μ = some v) : ax_A G l yX6_add cX6_add 2 none 2 [.ref (G.1 + 18), .int x1] sh μ (none, sh, v) := by
  refine ax_A.of false (by decide +kernel) (fun h9 => by cases h9) (Nat.le_of_ble_eq_true rfl) (?_ : ax_X G l RX6 cX6_add 2 none false 2 (none, sh, v) 0 [(0, .ref (G.1 + 18)), (1, .int x1)] [] sh μ)
  unfold m_X6_add at h
  refine ax_aload_n (pc := 0) (i := 0) (q := 0) (ax_dd KX6_add 0 rfl) rfl rfl ?_
  refine ax_getI (pc := 1) (k := 18) (ax_dd KX6_add 1 rfl) f_X6_21 (hs 18 _ rfl) rfl ?_
  refine ax_sipush (pc := 4) (v := 160) (ax_dd KX6_add 2 rfl) (by decide) ?_
  by_cases c1 : 160 ≤ (μ 18 1)
  · rw [if_pos c1] at h
    refine ax_icmp_ge_t (pc := 7) (tgt := 27) (ax_dd KX6_add 3 rfl) (by decide) c1 ?_
    obtain rfl := Option.some.inj h
    exact ax_vret (pc := 27) (ax_dd KX6_add 15 rfl) rfl rfl
  · rw [if_neg c1] at h
    refine ax_icmp_ge_f (pc := 7) (tgt := 27) (ax_dd KX6_add 3 rfl) (by decide) c1 ?_
    refine ax_aload_n (pc := 10) (i := 0) (q := 0) (ax_dd KX6_add 4 rfl) rfl rfl ?_
    refine ax_getR (pc := 11) (k := 18) (q := 19) (ax_dd KX6_add 5 rfl) f_X6_9 (hs 18 _ rfl) rfl ?_
    refine ax_aload_n (pc := 14) (i := 0) (q := 0) (ax_dd KX6_add 6 rfl) rfl rfl ?_
    refine ax_dup (pc := 15) (ax_dd KX6_add 7 rfl) rfl ?_
    refine ax_getI (pc := 16) (k := 18) (ax_dd KX6_add 8 rfl) f_X6_21 (hs 18 _ rfl) rfl ?_
    refine ax_dup_x1 (pc := 19) (ax_dd KX6_add 9 rfl) rfl rfl ?_
    refine ax_iconst (pc := 20) (v := 1) (ax_dd KX6_add 10 rfl) (by decide) ?_
    refine ax_iadd (pc := 21) (ax_dd KX6_add 11 rfl) ?_
    refine ax_putI (pc := 22) (k := 18) (ax_dd KX6_add 12 rfl) f_X6_21 ft_X6 (hs 18 _ rfl) rfl (fun _ h9 => by cases h9; rfl) rfl rfl ?_
    refine ax_iload_n (pc := 25) (i := 1) (q := 1) (ax_dd KX6_add 13 rfl) rfl rfl ?_
    obtain ⟨j2, b3, h⟩ := ob_bind h
    refine ax_ist (pc := 26) (k := 19) (N := 160) (j := j2) (ax_dd KX6_add 14 rfl) (hs 19 _ rfl) b3 ?_
    obtain rfl := Option.some.inj h
    exact ax_vret (pc := 27) (ax_dd KX6_add 15 rfl) rfl rfl
def m_X7_add (μ : ax_M) : Option (Int32 × ax_M) :=
  if (μ 1 0) < 6 then
    (ix 6 (μ 1 0)).bind fun j2 =>
    (q_cp μ 23 0 (3 + j2) 0 160).bind fun μ4 =>
    (ix 6 (μ4 1 0)).bind fun j6 =>
    (q_cp μ4 24 0 (10 + j6) 0 3).bind fun μ8 =>
    some ((μ8 1 0), ax_w μ8 1 0 ((μ8 1 0) + 1))
  else
    some ((-4), μ)
set_option maxRecDepth 100000 in
set_option maxHeartbeats 8000000 in
theorem c_X7_add {G : ax_G} {l : Launch} {sh : List ax_E} {μ : ax_M} (hs : ∀ (k : Nat) (e : ax_E), SHc[k]? = some e → sh[k]? = some e) {v : Int32 × ax_M} (h : m_X7_add μ = some v) : ax_A G l yX7_add cX7_add 3 (some .int) 2 [.ref (G.1 + 1), .ref (G.1 + 23), .ref (G.1 + 24)] sh μ (some (.int v.1), sh, v.2) := by
  refine ax_A.of false (by decide +kernel) (fun h9 => by cases h9) (Nat.le_of_ble_eq_true rfl) (?_ : ax_X G l RX7 cX7_add 3 (some .int) false 2 (some (.int v.1), sh, v.2) 0 [(0, .ref (G.1 + 1)), (1, .ref (G.1 + 23)), (2, .ref (G.1 + 24))] [] sh μ)
  unfold m_X7_add at h
  refine ax_aload_n (pc := 0) (i := 0) (q := 0) (ax_dd KX7_add 0 rfl) rfl rfl ?_
  refine ax_getI (pc := 1) (k := 1) (ax_dd KX7_add 1 rfl) f_X7_26 (hs 1 _ rfl) rfl ?_
  refine ax_bipush (pc := 4) (v := 6) (ax_dd KX7_add 2 rfl) (by decide) ?_
  by_cases c1 : (μ 1 0) < 6
  · rw [if_pos c1] at h
    refine ax_icmp_lt_t (pc := 6) (tgt := 12) (ax_dd KX7_add 3 rfl) (by decide) c1 ?_
    refine ax_aload_n (pc := 12) (i := 1) (q := 1) (ax_dd KX7_add 6 rfl) rfl rfl ?_
    refine ax_iconst (pc := 13) (v := 0) (ax_dd KX7_add 7 rfl) (by decide) ?_
    refine ax_aload_n (pc := 14) (i := 0) (q := 0) (ax_dd KX7_add 8 rfl) rfl rfl ?_
    refine ax_getR (pc := 15) (k := 1) (q := 2) (ax_dd KX7_add 9 rfl) f_X7_11 (hs 1 _ rfl) rfl ?_
    refine ax_aload_n (pc := 18) (i := 0) (q := 0) (ax_dd KX7_add 10 rfl) rfl rfl ?_
    refine ax_getI (pc := 19) (k := 1) (ax_dd KX7_add 11 rfl) f_X7_26 (hs 1 _ rfl) rfl ?_
    obtain ⟨j2, b3, h⟩ := ob_bind h
    refine ax_ald (pc := 22) (k := 2) (b0 := 3) (N := 6) (j := j2) (ax_dd KX7_add 12 rfl) (hs 2 _ rfl) b3 ?_
    refine ax_iconst (pc := 23) (v := 0) (ax_dd KX7_add 13 rfl) (by decide) ?_
    refine ax_sipush (pc := 24) (v := 160) (ax_dd KX7_add 14 rfl) (by decide) ?_
    obtain ⟨μ4, b5, h⟩ := ob_bind h
    refine ax_qcp (pc := 27) (ax_dd KX7_add 15 rfl) cp_X7_30 hs b5 (by decide) (Nat.le_of_ble_eq_true rfl) ?_
    refine ax_aload_n (pc := 30) (i := 2) (q := 2) (ax_dd KX7_add 16 rfl) rfl rfl ?_
    refine ax_iconst (pc := 31) (v := 0) (ax_dd KX7_add 17 rfl) (by decide) ?_
    refine ax_aload_n (pc := 32) (i := 0) (q := 0) (ax_dd KX7_add 18 rfl) rfl rfl ?_
    refine ax_getR (pc := 33) (k := 1) (q := 9) (ax_dd KX7_add 19 rfl) f_X7_16 (hs 1 _ rfl) rfl ?_
    refine ax_aload_n (pc := 36) (i := 0) (q := 0) (ax_dd KX7_add 20 rfl) rfl rfl ?_
    refine ax_getI (pc := 37) (k := 1) (ax_dd KX7_add 21 rfl) f_X7_26 (hs 1 _ rfl) rfl ?_
    obtain ⟨j6, b7, h⟩ := ob_bind h
    refine ax_ald (pc := 40) (k := 9) (b0 := 10) (N := 6) (j := j6) (ax_dd KX7_add 22 rfl) (hs 9 _ rfl) b7 ?_
    refine ax_iconst (pc := 41) (v := 0) (ax_dd KX7_add 23 rfl) (by decide) ?_
    refine ax_iconst (pc := 42) (v := 3) (ax_dd KX7_add 24 rfl) (by decide) ?_
    obtain ⟨μ8, b9, h⟩ := ob_bind h
    refine ax_qcp (pc := 43) (ax_dd KX7_add 25 rfl) cp_X7_30 hs b9 (by decide) (Nat.le_of_ble_eq_true rfl) ?_
    refine ax_aload_n (pc := 46) (i := 0) (q := 0) (ax_dd KX7_add 26 rfl) rfl rfl ?_
    refine ax_dup (pc := 47) (ax_dd KX7_add 27 rfl) rfl ?_
    refine ax_getI (pc := 48) (k := 1) (ax_dd KX7_add 28 rfl) f_X7_26 (hs 1 _ rfl) rfl ?_
    refine ax_dup_x1 (pc := 51) (ax_dd KX7_add 29 rfl) rfl rfl ?_
    refine ax_iconst (pc := 52) (v := 1) (ax_dd KX7_add 30 rfl) (by decide) ?_
    refine ax_iadd (pc := 53) (ax_dd KX7_add 31 rfl) ?_
    refine ax_putI (pc := 54) (k := 1) (ax_dd KX7_add 32 rfl) f_X7_26 ft_X7 (hs 1 _ rfl) rfl (fun _ h9 => by cases h9; rfl) rfl rfl ?_
    obtain rfl := Option.some.inj h
    exact ax_ireti (pc := 57) (ax_dd KX7_add 33 rfl) ⟨_, rfl, rfl⟩ rfl
  · rw [if_neg c1] at h
    refine ax_icmp_lt_f (pc := 6) (tgt := 12) (ax_dd KX7_add 3 rfl) (by decide) c1 ?_
    refine ax_bipush (pc := 9) (v := (-4)) (ax_dd KX7_add 4 rfl) (by decide) ?_
    obtain rfl := Option.some.inj h
    exact ax_ireti (pc := 11) (ax_dd KX7_add 5 rfl) ⟨_, rfl, rfl⟩ rfl
