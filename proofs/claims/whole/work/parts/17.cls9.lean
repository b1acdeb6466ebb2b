def m_X9_freest_12 (x1 : Int32) (μ : ax_M) : Option (Int32 × ax_M) :=
  bind2 (m_X0_awakeAt 0 μ) fun v1 μ3 =>
  bind2 (m_X0_fineOfAll 0 v1 μ3) fun v4 μ6 =>
  m_X9_freest_34 x1 fu 0 v4 1 μ6
set_option maxRecDepth 100000 in
set_option maxHeartbeats 8000000 in
theorem a_X9_freest_12 {G : ax_G} {l : Launch} {sh : List ax_E} {x1 : Int32} {μ : ax_M} (hs : ∀ (k : Nat) (e : ax_E), SHc[k]? = some e → sh[k]? = some e) {v : Int32 × ax_M} (h : m_X9_freest_12 x1 μ = some v) : ax_X G l RX9 cX9_freest 6 (some .int) false 6 (some (.int v.1), sh, v.2) 12 [(0, .ref (G.1 + 0)), (1, .int x1)] [] sh μ := by
  unfold m_X9_freest_12 at h
  refine ax_iconst (pc := 12) (v := 0) (ax_dd KX9_freest 7 rfl) (by decide) ?_
  refine ax_istore_n (pc := 13) (i := 2) (lv' := [(2, .int 0), (0, .ref (G.1 + 0)), (1, .int x1)]) (ax_dd KX9_freest 8 rfl) rfl (by decide) rfl ?_
  refine ax_aload_n (pc := 14) (i := 0) (q := 1) (ax_dd KX9_freest 9 rfl) rfl rfl ?_
  refine ax_getR (pc := 15) (k := 0) (q := 25) (ax_dd KX9_freest 10 rfl) f_X9_37 (hs 0 _ rfl) rfl ?_
  refine ax_iconst (pc := 18) (v := 0) (ax_dd KX9_freest 11 rfl) (by decide) ?_
  refine ax_aload_n (pc := 19) (i := 0) (q := 1) (ax_dd KX9_freest 12 rfl) rfl rfl ?_
  refine ax_getR (pc := 20) (k := 0) (q := 25) (ax_dd KX9_freest 13 rfl) f_X9_37 (hs 0 _ rfl) rfl ?_
  refine ax_iconst (pc := 23) (v := 0) (ax_dd KX9_freest 14 rfl) (by decide) ?_
  obtain ⟨v1, μ3, b2, h⟩ := ob_bind2 h
  refine ax_kV (pc := 24) (ci := 0) (k := 25) (As := [.int 0]) (rest := [.int 0, .ref (G.1 + 25)]) (st1 := [.int v1, .int 0, .ref (G.1 + 25)]) (μ1 := μ3) (ax_dd KX9_freest 15 rfl) (c_X0_awakeAt hs b2) kV_X9_231 e_X0_awakeAt (hs 25 _ rfl) cl_X0 (by decide) rfl rfl (by decide) (by decide) (Nat.le_of_ble_eq_true rfl) rfl ?_
  obtain ⟨v4, μ6, b5, h⟩ := ob_bind2 h
  refine ax_kV (pc := 27) (ci := 0) (k := 25) (As := [.int 0, .int v1]) (rest := []) (st1 := [.int v4]) (μ1 := μ6) (ax_dd KX9_freest 16 rfl) (c_X0_fineOfAll hs b5) kV_X9_234 e_X0_fineOfAll (hs 25 _ rfl) cl_X0 (by decide) rfl rfl (by decide) (by decide) (Nat.le_of_ble_eq_true rfl) rfl ?_
  refine ax_istore_n (pc := 30) (i := 3) (lv' := [(3, .int v4), (2, .int 0), (0, .ref (G.1 + 0)), (1, .int x1)]) (ax_dd KX9_freest 17 rfl) rfl (by decide) rfl ?_
  refine ax_iconst (pc := 31) (v := 1) (ax_dd KX9_freest 18 rfl) (by decide) ?_
  refine ax_istore (pc := 32) (lv' := [(4, .int 1), (3, .int v4), (2, .int 0), (0, .ref (G.1 + 0)), (1, .int x1)]) (ax_dd KX9_freest 19 rfl) (by decide) rfl ?_
  refine ax_sub (lv' := [(0, .ref (G.1 + 0)), (1, .int x1), (2, .int 0), (3, .int v4), (4, .int 1)]) [3, 4, 2, 1, 0] rfl ?_
  exact a_X9_freest_34 hs fu _ _ _ _ _ h
def m_X9_freest (x1 : Int32) (μ : ax_M) : Option (Int32 × ax_M) :=
  if x1 = 0 then
    m_X9_freest_12 x1 μ
  else
    if x1 = 1 then
      m_X9_freest_12 x1 μ
    else
      some ((-2), μ)
set_option maxRecDepth 100000 in
set_option maxHeartbeats 8000000 in
theorem c_X9_freest {G : ax_G} {l : Launch} {sh : List ax_E} {x1 : Int32} {μ : ax_M} (hs : ∀ (k : Nat) (e : ax_E), SHc[k]? = some e → sh[k]? = some e) {v : Int32 × ax_M} (h : m_X9_freest x1 μ = some v) : ax_A G l yX9_freest cX9_freest 6 (some .int) 6 [.ref (G.1 + 0), .int x1] sh μ (some (.int v.1), sh, v.2) := by
  refine ax_A.of false (by decide +kernel) (fun h9 => by cases h9) (Nat.le_of_ble_eq_true rfl) (?_ : ax_X G l RX9 cX9_freest 6 (some .int) false 6 (some (.int v.1), sh, v.2) 0 [(0, .ref (G.1 + 0)), (1, .int x1)] [] sh μ)
  unfold m_X9_freest at h
  refine ax_iload_n (pc := 0) (i := 1) (q := 1) (ax_dd KX9_freest 0 rfl) rfl rfl ?_
  by_cases c1 : x1 = 0
  · rw [if_pos c1] at h
    refine ax_if_eq_t (pc := 1) (tgt := 12) (ax_dd KX9_freest 1 rfl) (by decide) c1 ?_
    exact a_X9_freest_12 hs h
  · rw [if_neg c1] at h
    refine ax_if_eq_f (pc := 1) (tgt := 12) (ax_dd KX9_freest 1 rfl) (by decide) c1 ?_
    refine ax_iload_n (pc := 4) (i := 1) (q := 1) (ax_dd KX9_freest 2 rfl) rfl rfl ?_
    refine ax_iconst (pc := 5) (v := 1) (ax_dd KX9_freest 3 rfl) (by decide) ?_
    by_cases c2 : x1 = 1
    · rw [if_pos c2] at h
      refine ax_icmp_eq_t (pc := 6) (tgt := 12) (ax_dd KX9_freest 4 rfl) (by decide) c2 ?_
      exact a_X9_freest_12 hs h
    · rw [if_neg c2] at h
      refine ax_icmp_eq_f (pc := 6) (tgt := 12) (ax_dd KX9_freest 4 rfl) (by decide) c2 ?_
      refine ax_bipush (pc := 9) (v := (-2)) (ax_dd KX9_freest 5 rfl) (by decide) ?_
      obtain rfl := Option.some.inj h
      exact ax_ireti (pc := 11) (ax_dd KX9_freest 6 rfl) ⟨_, rfl, rfl⟩ rfl
def m_X9_fold_35 (x1 : Int32) (x4 : Int32) : Nat → Int32 → Int32 → Int32 → ax_M → Option (Int32 × ax_M)
  | 0, _, _, _, _ => none
  | n + 1, x2, x3, x5, μ =>
    if (μ 25 1) ≤ x5 then
      if x1 = 0 then
        some (x2, μ)
      else
        some (x3, μ)
    else
      bind2 (m_X0_fineOfAll (μ 25 2) (x4 &&& ((shI (1 : Int32) x5) ^^^ (-1))) μ) fun v3 μ5 =>
      if x2 = (-1) then
        m_X9_fold_35 x1 x4 n x5 v3 (x5 + 1) μ5
      else
        if x3 ≤ v3 then
          m_X9_fold_35 x1 x4 n x2 x3 (x5 + 1) μ5
        else
          m_X9_fold_35 x1 x4 n x5 v3 (x5 + 1) μ5
set_option maxRecDepth 100000 in
set_option maxHeartbeats 8000000 in
theorem a_X9_fold_35 {G : ax_G} {l : Launch} {sh : List ax_E} {x1 : Int32} {x4 : Int32} (hs : ∀ (k : Nat) (e : ax_E), SHc[k]? = some e → sh[k]? = some e) : ∀ (n : Nat) (x2 : Int32) (x3 : Int32) (x5 : Int32) (μ : ax_M) (v : Int32 × ax_M), m_X9_fold_35 x1 x4 n x2 x3 x5 μ = some v → ax_X G l RX9 cX9_fold 7 (some .int) false 6 (some (.int v.1), sh, v.2) 35 [(0, .ref (G.1 + 0)), (1, .int x1), (2, .int x2), (3, .int x3), (4, .int x4), (5, .int x5)] [] sh μ := by
  intro n
  induction n with
  | zero =>
    intro x2 x3 x5 μ v h
    rw [m_X9_fold_35] at h
    cases h
  | succ n ih =>
    intro x2 x3 x5 μ v h
    rw [m_X9_fold_35] at h
    refine ax_iload (pc := 35) (q := 5) (ax_dd KX9_fold 20 rfl) rfl ?_
    refine ax_aload_n (pc := 37) (i := 0) (q := 0) (ax_dd KX9_fold 21 rfl) rfl rfl ?_
    refine ax_getR (pc := 38) (k := 0) (q := 25) (ax_dd KX9_fold 22 rfl) f_X9_37 (hs 0 _ rfl) rfl ?_
    refine ax_getI (pc := 41) (k := 25) (ax_dd KX9_fold 23 rfl) f_X9_97 (hs 25 _ rfl) rfl ?_
    by_cases c1 : (μ 25 1) ≤ x5
    · rw [if_pos c1] at h
      refine ax_icmp_ge_t (pc := 44) (tgt := 95) (ax_dd KX9_fold 24 rfl) (by decide) c1 ?_
      refine ax_iload_n (pc := 95) (i := 1) (q := 1) (ax_dd KX9_fold 51 rfl) rfl rfl ?_
      by_cases c2 : x1 = 0
      · rw [if_pos c2] at h
        refine ax_if_ne_f (pc := 96) (tgt := 103) (ax_dd KX9_fold 52 rfl) (by decide) (fun z => z c2) ?_
        refine ax_iload_n (pc := 99) (i := 2) (q := 2) (ax_dd KX9_fold 53 rfl) rfl rfl ?_
        refine ax_goto (pc := 100) (tgt := 104) (ax_dd KX9_fold 54 rfl) (by decide) ?_
        obtain rfl := Option.some.inj h
        exact ax_ireti (pc := 104) (ax_dd KX9_fold 56 rfl) ⟨_, rfl, rfl⟩ rfl
      · rw [if_neg c2] at h
        refine ax_if_ne_t (pc := 96) (tgt := 103) (ax_dd KX9_fold 52 rfl) (by decide) c2 ?_
        refine ax_iload_n (pc := 103) (i := 3) (q := 3) (ax_dd KX9_fold 55 rfl) rfl rfl ?_
        obtain rfl := Option.some.inj h
        exact ax_ireti (pc := 104) (ax_dd KX9_fold 56 rfl) ⟨_, rfl, rfl⟩ rfl
    · rw [if_neg c1] at h
      refine ax_icmp_ge_f (pc := 44) (tgt := 95) (ax_dd KX9_fold 24 rfl) (by decide) c1 ?_
      refine ax_aload_n (pc := 47) (i := 0) (q := 0) (ax_dd KX9_fold 25 rfl) rfl rfl ?_
      refine ax_getR (pc := 48) (k := 0) (q := 25) (ax_dd KX9_fold 26 rfl) f_X9_37 (hs 0 _ rfl) rfl ?_
      refine ax_aload_n (pc := 51) (i := 0) (q := 0) (ax_dd KX9_fold 27 rfl) rfl rfl ?_
      refine ax_getR (pc := 52) (k := 0) (q := 25) (ax_dd KX9_fold 28 rfl) f_X9_37 (hs 0 _ rfl) rfl ?_
      refine ax_getI (pc := 55) (k := 25) (ax_dd KX9_fold 29 rfl) f_X9_101 (hs 25 _ rfl) rfl ?_
      refine ax_iload (pc := 58) (q := 4) (ax_dd KX9_fold 30 rfl) rfl ?_
      refine ax_iconst (pc := 60) (v := 1) (ax_dd KX9_fold 31 rfl) (by decide) ?_
      refine ax_iload (pc := 61) (q := 5) (ax_dd KX9_fold 32 rfl) rfl ?_
      refine ax_ishl (pc := 63) (ax_dd KX9_fold 33 rfl) ?_
      refine ax_iconst (pc := 64) (v := (-1)) (ax_dd KX9_fold 34 rfl) (by decide) ?_
      refine ax_ixor (pc := 65) (ax_dd KX9_fold 35 rfl) ?_
      refine ax_iand (pc := 66) (ax_dd KX9_fold 36 rfl) ?_
      obtain ⟨v3, μ5, b4, h⟩ := ob_bind2 h
      refine ax_kV (pc := 67) (ci := 0) (k := 25) (As := [.int (μ 25 2), .int (x4 &&& ((shI (1 : Int32) x5) ^^^ (-1)))]) (rest := []) (st1 := [.int v3]) (μ1 := μ5) (ax_dd KX9_fold 37 rfl) (c_X0_fineOfAll hs b4) kV_X9_234 e_X0_fineOfAll (hs 25 _ rfl) cl_X0 (by decide) rfl rfl (by decide) (by decide) (Nat.le_of_ble_eq_true rfl) rfl ?_
      refine ax_istore (pc := 70) (lv' := [(6, .int v3), (0, .ref (G.1 + 0)), (1, .int x1), (2, .int x2), (3, .int x3), (4, .int x4), (5, .int x5)]) (ax_dd KX9_fold 38 rfl) (by decide) rfl ?_
      refine ax_iload_n (pc := 72) (i := 2) (q := 3) (ax_dd KX9_fold 39 rfl) rfl rfl ?_
      refine ax_iconst (pc := 73) (v := (-1)) (ax_dd KX9_fold 40 rfl) (by decide) ?_
      by_cases c6 : x2 = (-1)
      · rw [if_pos c6] at h
        refine ax_icmp_eq_t (pc := 74) (tgt := 83) (ax_dd KX9_fold 41 rfl) (by decide) c6 ?_
        refine ax_iload (pc := 83) (q := 0) (ax_dd KX9_fold 45 rfl) rfl ?_
        refine ax_istore_n (pc := 85) (i := 3) (lv' := [(3, .int v3), (6, .int v3), (0, .ref (G.1 + 0)), (1, .int x1), (2, .int x2), (4, .int x4), (5, .int x5)]) (ax_dd KX9_fold 46 rfl) rfl (by decide) rfl ?_
        refine ax_iload (pc := 86) (q := 6) (ax_dd KX9_fold 47 rfl) rfl ?_
        refine ax_istore_n (pc := 88) (i := 2) (lv' := [(2, .int x5), (3, .int v3), (6, .int v3), (0, .ref (G.1 + 0)), (1, .int x1), (4, .int x4), (5, .int x5)]) (ax_dd KX9_fold 48 rfl) rfl (by decide) rfl ?_
        refine ax_iinc (pc := 89) (q := 6) (v := (x5 + 1)) (lv' := [(5, .int (x5 + 1)), (2, .int x5), (3, .int v3), (6, .int v3), (0, .ref (G.1 + 0)), (1, .int x1), (4, .int x4)]) (ax_dd KX9_fold 49 rfl) rfl rfl (by decide) rfl ?_
        refine ax_goto (pc := 92) (tgt := 35) (ax_dd KX9_fold 50 rfl) (by decide) ?_
        refine ax_sub (lv' := [(0, .ref (G.1 + 0)), (1, .int x1), (2, .int x5), (3, .int v3), (4, .int x4), (5, .int (x5 + 1))]) [4, 5, 1, 2, 6, 0] rfl ?_
        exact ih _ _ _ _ _ h
      · rw [if_neg c6] at h
        refine ax_icmp_eq_f (pc := 74) (tgt := 83) (ax_dd KX9_fold 41 rfl) (by decide) c6 ?_
        refine ax_iload (pc := 77) (q := 0) (ax_dd KX9_fold 42 rfl) rfl ?_
        refine ax_iload_n (pc := 79) (i := 3) (q := 4) (ax_dd KX9_fold 43 rfl) rfl rfl ?_
        by_cases c7 : x3 ≤ v3
        · rw [if_pos c7] at h
          refine ax_icmp_ge_t (pc := 80) (tgt := 89) (ax_dd KX9_fold 44 rfl) (by decide) c7 ?_
          refine ax_iinc (pc := 89) (q := 6) (v := (x5 + 1)) (lv' := [(5, .int (x5 + 1)), (6, .int v3), (0, .ref (G.1 + 0)), (1, .int x1), (2, .int x2), (3, .int x3), (4, .int x4)]) (ax_dd KX9_fold 49 rfl) rfl rfl (by decide) rfl ?_
          refine ax_goto (pc := 92) (tgt := 35) (ax_dd KX9_fold 50 rfl) (by decide) ?_
          refine ax_sub (lv' := [(0, .ref (G.1 + 0)), (1, .int x1), (2, .int x2), (3, .int x3), (4, .int x4), (5, .int (x5 + 1))]) [2, 3, 4, 5, 6, 0] rfl ?_
          exact ih _ _ _ _ _ h
        · rw [if_neg c7] at h
          refine ax_icmp_ge_f (pc := 80) (tgt := 89) (ax_dd KX9_fold 44 rfl) (by decide) c7 ?_
          refine ax_iload (pc := 83) (q := 0) (ax_dd KX9_fold 45 rfl) rfl ?_
          refine ax_istore_n (pc := 85) (i := 3) (lv' := [(3, .int v3), (6, .int v3), (0, .ref (G.1 + 0)), (1, .int x1), (2, .int x2), (4, .int x4), (5, .int x5)]) (ax_dd KX9_fold 46 rfl) rfl (by decide) rfl ?_
          refine ax_iload (pc := 86) (q := 6) (ax_dd KX9_fold 47 rfl) rfl ?_
          refine ax_istore_n (pc := 88) (i := 2) (lv' := [(2, .int x5), (3, .int v3), (6, .int v3), (0, .ref (G.1 + 0)), (1, .int x1), (4, .int x4), (5, .int x5)]) (ax_dd KX9_fold 48 rfl) rfl (by decide) rfl ?_
          refine ax_iinc (pc := 89) (q := 6) (v := (x5 + 1)) (lv' := [(5, .int (x5 + 1)), (2, .int x5), (3, .int v3), (6, .int v3), (0, .ref (G.1 + 0)), (1, .int x1), (4, .int x4)]) (ax_dd KX9_fold 49 rfl) rfl rfl (by decide) rfl ?_
          refine ax_goto (pc := 92) (tgt := 35) (ax_dd KX9_fold 50 rfl) (by decide) ?_
          refine ax_sub (lv' := [(0, .ref (G.1 + 0)), (1, .int x1), (2, .int x5), (3, .int v3), (4, .int x4), (5, .int (x5 + 1))]) [4, 5, 1, 2, 6, 0] rfl ?_
          exact ih _ _ _ _ _ h
def m_X9_fold_12 (x1 : Int32) (μ : ax_M) : Option (Int32 × ax_M) :=
  bind2 (m_X0_awakeAt (μ 25 2) μ) fun v1 μ3 =>
  m_X9_fold_35 x1 v1 fu (-1) 0 0 μ3
set_option maxRecDepth 100000 in
set_option maxHeartbeats 8000000 in
theorem a_X9_fold_12 {G : ax_G} {l : Launch} {sh : List ax_E} {x1 : Int32} {μ : ax_M} (hs : ∀ (k : Nat) (e : ax_E), SHc[k]? = some e → sh[k]? = some e) {v : Int32 × ax_M} (h : m_X9_fold_12 x1 μ = some v) : ax_X G l RX9 cX9_fold 7 (some .int) false 6 (some (.int v.1), sh, v.2) 12 [(0, .ref (G.1 + 0)), (1, .int x1)] [] sh μ := by
  unfold m_X9_fold_12 at h
  refine ax_iconst (pc := 12) (v := (-1)) (ax_dd KX9_fold 7 rfl) (by decide) ?_
  refine ax_istore_n (pc := 13) (i := 2) (lv' := [(2, .int (-1)), (0, .ref (G.1 + 0)), (1, .int x1)]) (ax_dd KX9_fold 8 rfl) rfl (by decide) rfl ?_
  refine ax_iconst (pc := 14) (v := 0) (ax_dd KX9_fold 9 rfl) (by decide) ?_
  refine ax_istore_n (pc := 15) (i := 3) (lv' := [(3, .int 0), (2, .int (-1)), (0, .ref (G.1 + 0)), (1, .int x1)]) (ax_dd KX9_fold 10 rfl) rfl (by decide) rfl ?_
  refine ax_aload_n (pc := 16) (i := 0) (q := 2) (ax_dd KX9_fold 11 rfl) rfl rfl ?_
  refine ax_getR (pc := 17) (k := 0) (q := 25) (ax_dd KX9_fold 12 rfl) f_X9_37 (hs 0 _ rfl) rfl ?_
  refine ax_aload_n (pc := 20) (i := 0) (q := 2) (ax_dd KX9_fold 13 rfl) rfl rfl ?_
  refine ax_getR (pc := 21) (k := 0) (q := 25) (ax_dd KX9_fold 14 rfl) f_X9_37 (hs 0 _ rfl) rfl ?_
  refine ax_getI (pc := 24) (k := 25) (ax_dd KX9_fold 15 rfl) f_X9_101 (hs 25 _ rfl) rfl ?_
  obtain ⟨v1, μ3, b2, h⟩ := ob_bind2 h
  refine ax_kV (pc := 27) (ci := 0) (k := 25) (As := [.int (μ 25 2)]) (rest := []) (st1 := [.int v1]) (μ1 := μ3) (ax_dd KX9_fold 16 rfl) (c_X0_awakeAt hs b2) kV_X9_231 e_X0_awakeAt (hs 25 _ rfl) cl_X0 (by decide) rfl rfl (by decide) (by decide) (Nat.le_of_ble_eq_true rfl) rfl ?_
  refine ax_istore (pc := 30) (lv' := [(4, .int v1), (3, .int 0), (2, .int (-1)), (0, .ref (G.1 + 0)), (1, .int x1)]) (ax_dd KX9_fold 17 rfl) (by decide) rfl ?_
  refine ax_iconst (pc := 32) (v := 0) (ax_dd KX9_fold 18 rfl) (by decide) ?_
  refine ax_istore (pc := 33) (lv' := [(5, .int 0), (4, .int v1), (3, .int 0), (2, .int (-1)), (0, .ref (G.1 + 0)), (1, .int x1)]) (ax_dd KX9_fold 19 rfl) (by decide) rfl ?_
  refine ax_sub (lv' := [(0, .ref (G.1 + 0)), (1, .int x1), (2, .int (-1)), (3, .int 0), (4, .int v1), (5, .int 0)]) [4, 5, 3, 2, 1, 0] rfl ?_
  exact a_X9_fold_35 hs fu _ _ _ _ _ h
def m_X9_fold (x1 : Int32) (μ : ax_M) : Option (Int32 × ax_M) :=
  if x1 = 0 then
    m_X9_fold_12 x1 μ
  else
    if x1 = 1 then
      m_X9_fold_12 x1 μ
    else
      some ((-2), μ)
set_option maxRecDepth 100000 in
set_option maxHeartbeats 8000000 in
theorem c_X9_fold {G : ax_G} {l : Launch} {sh : List ax_E} {x1 : Int32} {μ : ax_M} (hs : ∀ (k : Nat) (e : ax_E), SHc[k]? = some e → sh[k]? = some e) {v : Int32 × ax_M} (h : m_X9_fold x1 μ = some v) : ax_A G l yX9_fold cX9_fold 7 (some .int) 6 [.ref (G.1 + 0), .int x1] sh μ (some (.int v.1), sh, v.2) := by
  refine ax_A.of false (by decide +kernel) (fun h9 => by cases h9) (Nat.le_of_ble_eq_true rfl) (?_ : ax_X G l RX9 cX9_fold 7 (some .int) false 6 (some (.int v.1), sh, v.2) 0 [(0, .ref (G.1 + 0)), (1, .int x1)] [] sh μ)
  unfold m_X9_fold at h
  refine ax_iload_n (pc := 0) (i := 1) (q := 1) (ax_dd KX9_fold 0 rfl) rfl rfl ?_
  by_cases c1 : x1 = 0
  · rw [if_pos c1] at h
    refine ax_if_eq_t (pc := 1) (tgt := 12) (ax_dd KX9_fold 1 rfl) (by decide) c1 ?_
    exact a_X9_fold_12 hs h
  · rw [if_neg c1] at h
    refine ax_if_eq_f (pc := 1) (tgt := 12) (ax_dd KX9_fold 1 rfl) (by decide) c1 ?_
    refine ax_iload_n (pc := 4) (i := 1) (q := 1) (ax_dd KX9_fold 2 rfl) rfl rfl ?_
    refine ax_iconst (pc := 5) (v := 1) (ax_dd KX9_fold 3 rfl) (by decide) ?_
    by_cases c2 : x1 = 1
    · rw [if_pos c2] at h
      refine ax_icmp_eq_t (pc := 6) (tgt := 12) (ax_dd KX9_fold 4 rfl) (by decide) c2 ?_
      exact a_X9_fold_12 hs h
    · rw [if_neg c2] at h
      refine ax_icmp_eq_f (pc := 6) (tgt := 12) (ax_dd KX9_fold 4 rfl) (by decide) c2 ?_
      refine ax_bipush (pc := 9) (v := (-2)) (ax_dd KX9_fold 5 rfl) (by decide) ?_
      obtain rfl := Option.some.inj h
      exact ax_ireti (pc := 11) (ax_dd KX9_fold 6 rfl) ⟨_, rfl, rfl⟩ rfl
def m_X9_inLowestTerms_49 (x3 : Int32) (s0 : Int32) (μ : ax_M) : Option (Int64) :=
  if x3 = 0 then
    some (s0.toInt64)
  else
    if x3 = 0 then none else
    some ((s0 / x3).toInt64)
set_option maxRecDepth 100000 in
set_option maxHeartbeats 8000000 in
theorem a_X9_inLowestTerms_49 {G : ax_G} {l : Launch} {sh : List ax_E} {x3 : Int32} {s0 : Int32} {μ : ax_M} (hs : ∀ (k : Nat) (e : ax_E), SHc[k]? = some e → sh[k]? = some e) {v : Int64} (h : m_X9_inLowestTerms_49 x3 s0 μ = some v) : ax_X G l RX9 cX9_inLowestTerms 7 (some .long) false 2 (some (.long v), sh, μ) 49 [(3, .int x3)] [.int s0] sh μ := by
  unfold m_X9_inLowestTerms_49 at h
  refine ax_istore (pc := 49) (lv' := [(5, .int s0), (3, .int x3)]) (ax_dd KX9_inLowestTerms 26 rfl) (by decide) rfl ?_
  refine ax_iload_n (pc := 51) (i := 3) (q := 1) (ax_dd KX9_inLowestTerms 27 rfl) rfl rfl ?_
  by_cases c1 : x3 = 0
  · rw [if_pos c1] at h
    refine ax_if_ne_f (pc := 52) (tgt := 61) (ax_dd KX9_inLowestTerms 28 rfl) (by decide) (fun z => z c1) ?_
    refine ax_iload (pc := 55) (q := 0) (ax_dd KX9_inLowestTerms 29 rfl) rfl ?_
    refine ax_i2l (pc := 57) (ax_dd KX9_inLowestTerms 30 rfl) ?_
    refine ax_goto (pc := 58) (tgt := 66) (ax_dd KX9_inLowestTerms 31 rfl) (by decide) ?_
    obtain rfl := Option.some.inj h
    exact ax_lret (pc := 66) (ax_dd KX9_inLowestTerms 36 rfl) rfl rfl
  · rw [if_neg c1] at h
    refine ax_if_ne_t (pc := 52) (tgt := 61) (ax_dd KX9_inLowestTerms 28 rfl) (by decide) c1 ?_
    refine ax_iload (pc := 61) (q := 0) (ax_dd KX9_inLowestTerms 32 rfl) rfl ?_
    refine ax_iload_n (pc := 63) (i := 3) (q := 1) (ax_dd KX9_inLowestTerms 33 rfl) rfl rfl ?_
    by_cases c2 : x3 = 0
    · rw [if_pos c2] at h
      cases h
    · rw [if_neg c2] at h
      refine ax_idiv (pc := 64) (ax_dd KX9_inLowestTerms 34 rfl) c2 ?_
      refine ax_i2l (pc := 65) (ax_dd KX9_inLowestTerms 35 rfl) ?_
      obtain rfl := Option.some.inj h
      exact ax_lret (pc := 66) (ax_dd KX9_inLowestTerms 36 rfl) rfl rfl
def m_X9_inLowestTerms_40 (x0 : Int32) (x1 : Int32) (x2 : Int32) (x3 : Int32) (μ : ax_M) : Option (Int64) :=
  if x2 = 0 then
    m_X9_inLowestTerms_49 x3 x0 μ
  else
    m_X9_inLowestTerms_49 x3 x1 μ
set_option maxRecDepth 100000 in
set_option maxHeartbeats 8000000 in
theorem a_X9_inLowestTerms_40 {G : ax_G} {l : Launch} {sh : List ax_E} {x0 : Int32} {x1 : Int32} {x2 : Int32} {x3 : Int32} {μ : ax_M} (hs : ∀ (k : Nat) (e : ax_E), SHc[k]? = some e → sh[k]? = some e) {v : Int64} (h : m_X9_inLowestTerms_40 x0 x1 x2 x3 μ = some v) : ax_X G l RX9 cX9_inLowestTerms 7 (some .long) false 2 (some (.long v), sh, μ) 40 [(0, .int x0), (1, .int x1), (2, .int x2), (3, .int x3)] [] sh μ := by
  unfold m_X9_inLowestTerms_40 at h
  refine ax_iload_n (pc := 40) (i := 2) (q := 2) (ax_dd KX9_inLowestTerms 21 rfl) rfl rfl ?_
  by_cases c1 : x2 = 0
  · rw [if_pos c1] at h
    refine ax_if_ne_f (pc := 41) (tgt := 48) (ax_dd KX9_inLowestTerms 22 rfl) (by decide) (fun z => z c1) ?_
    refine ax_iload_n (pc := 44) (i := 0) (q := 0) (ax_dd KX9_inLowestTerms 23 rfl) rfl rfl ?_
    refine ax_goto (pc := 45) (tgt := 49) (ax_dd KX9_inLowestTerms 24 rfl) (by decide) ?_
    refine ax_sub (lv' := [(3, .int x3)]) [3] rfl ?_
    exact a_X9_inLowestTerms_49 hs h
  · rw [if_neg c1] at h
    refine ax_if_ne_t (pc := 41) (tgt := 48) (ax_dd KX9_inLowestTerms 22 rfl) (by decide) c1 ?_
    refine ax_iload_n (pc := 48) (i := 1) (q := 1) (ax_dd KX9_inLowestTerms 25 rfl) rfl rfl ?_
    refine ax_sub (lv' := [(3, .int x3)]) [3] rfl ?_
    exact a_X9_inLowestTerms_49 hs h
def m_X9_inLowestTerms_8 (x0 : Int32) (x1 : Int32) (x2 : Int32) (μ : ax_M) : Nat → Int32 → Int32 → Int32 → Option (Int64)
  | 0, _, _, _ => none
  | n + 1, x3, x4, x5 =>
    if 1000 ≤ x5 then
      m_X9_inLowestTerms_40 x0 x1 x2 x3 μ
    else
      if x4 = 0 then
        m_X9_inLowestTerms_40 x0 x1 x2 x3 μ
      else
        if x4 = 0 then none else
        m_X9_inLowestTerms_8 x0 x1 x2 μ n x4 (rmI x3 x4) (x5 + 1)
set_option maxRecDepth 100000 in
set_option maxHeartbeats 8000000 in
theorem a_X9_inLowestTerms_8 {G : ax_G} {l : Launch} {sh : List ax_E} {x0 : Int32} {x1 : Int32} {x2 : Int32} {μ : ax_M} (hs : ∀ (k : Nat) (e : ax_E), SHc[k]? = some e → sh[k]? = some e) : ∀ (n : Nat) (x3 : Int32) (x4 : Int32) (x5 : Int32) (v : Int64), m_X9_inLowestTerms_8 x0 x1 x2 μ n x3 x4 x5 = some v → ax_X G l RX9 cX9_inLowestTerms 7 (some .long) false 2 (some (.long v), sh, μ) 8 [(0, .int x0), (1, .int x1), (2, .int x2), (3, .int x3), (4, .int x4), (5, .int x5)] [] sh μ := by
  intro n
  induction n with
  | zero =>
    intro x3 x4 x5 v h
    rw [m_X9_inLowestTerms_8] at h
    cases h
  | succ n ih =>
    intro x3 x4 x5 v h
    rw [m_X9_inLowestTerms_8] at h
    refine ax_iload (pc := 8) (q := 5) (ax_dd KX9_inLowestTerms 6 rfl) rfl ?_
    refine ax_sipush (pc := 10) (v := 1000) (ax_dd KX9_inLowestTerms 7 rfl) (by decide) ?_
    by_cases c1 : 1000 ≤ x5
    · rw [if_pos c1] at h
      refine ax_icmp_ge_t (pc := 13) (tgt := 40) (ax_dd KX9_inLowestTerms 8 rfl) (by decide) c1 ?_
      refine ax_sub (lv' := [(0, .int x0), (1, .int x1), (2, .int x2), (3, .int x3)]) [0, 1, 2, 3] rfl ?_
      exact a_X9_inLowestTerms_40 hs h
    · rw [if_neg c1] at h
      refine ax_icmp_ge_f (pc := 13) (tgt := 40) (ax_dd KX9_inLowestTerms 8 rfl) (by decide) c1 ?_
      refine ax_iload (pc := 16) (q := 4) (ax_dd KX9_inLowestTerms 9 rfl) rfl ?_
      by_cases c2 : x4 = 0
      · rw [if_pos c2] at h
        refine ax_if_eq_t (pc := 18) (tgt := 40) (ax_dd KX9_inLowestTerms 10 rfl) (by decide) c2 ?_
        refine ax_sub (lv' := [(0, .int x0), (1, .int x1), (2, .int x2), (3, .int x3)]) [0, 1, 2, 3] rfl ?_
        exact a_X9_inLowestTerms_40 hs h
      · rw [if_neg c2] at h
        refine ax_if_eq_f (pc := 18) (tgt := 40) (ax_dd KX9_inLowestTerms 10 rfl) (by decide) c2 ?_
        refine ax_iload_n (pc := 21) (i := 3) (q := 3) (ax_dd KX9_inLowestTerms 11 rfl) rfl rfl ?_
        refine ax_iload (pc := 22) (q := 4) (ax_dd KX9_inLowestTerms 12 rfl) rfl ?_
        by_cases c3 : x4 = 0
        · rw [if_pos c3] at h
          cases h
        · rw [if_neg c3] at h
          refine ax_irem (pc := 24) (ax_dd KX9_inLowestTerms 13 rfl) c3 ?_
          refine ax_istore (pc := 25) (lv' := [(6, .int (rmI x3 x4)), (0, .int x0), (1, .int x1), (2, .int x2), (3, .int x3), (4, .int x4), (5, .int x5)]) (ax_dd KX9_inLowestTerms 14 rfl) (by decide) rfl ?_
          refine ax_iload (pc := 27) (q := 5) (ax_dd KX9_inLowestTerms 15 rfl) rfl ?_
          refine ax_istore_n (pc := 29) (i := 3) (lv' := [(3, .int x4), (6, .int (rmI x3 x4)), (0, .int x0), (1, .int x1), (2, .int x2), (4, .int x4), (5, .int x5)]) (ax_dd KX9_inLowestTerms 16 rfl) rfl (by decide) rfl ?_
          refine ax_iload (pc := 30) (q := 1) (ax_dd KX9_inLowestTerms 17 rfl) rfl ?_
          refine ax_istore (pc := 32) (lv' := [(4, .int (rmI x3 x4)), (3, .int x4), (6, .int (rmI x3 x4)), (0, .int x0), (1, .int x1), (2, .int x2), (5, .int x5)]) (ax_dd KX9_inLowestTerms 18 rfl) (by decide) rfl ?_
          refine ax_iinc (pc := 34) (q := 6) (v := (x5 + 1)) (lv' := [(5, .int (x5 + 1)), (4, .int (rmI x3 x4)), (3, .int x4), (6, .int (rmI x3 x4)), (0, .int x0), (1, .int x1), (2, .int x2)]) (ax_dd KX9_inLowestTerms 19 rfl) rfl rfl (by decide) rfl ?_
          refine ax_goto (pc := 37) (tgt := 8) (ax_dd KX9_inLowestTerms 20 rfl) (by decide) ?_
          refine ax_sub (lv' := [(0, .int x0), (1, .int x1), (2, .int x2), (3, .int x4), (4, .int (rmI x3 x4)), (5, .int (x5 + 1))]) [4, 5, 6, 2, 1, 0] rfl ?_
          exact ih _ _ _ _ h
def m_X9_inLowestTerms (x0 : Int32) (x1 : Int32) (x2 : Int32) (μ : ax_M) : Option (Int64) :=
  m_X9_inLowestTerms_8 x0 x1 x2 μ fu x0 x1 0
set_option maxRecDepth 100000 in
set_option maxHeartbeats 8000000 in
theorem c_X9_inLowestTerms {G : ax_G} {l : Launch} {sh : List ax_E} {x0 : Int32} {x1 : Int32} {x2 : Int32} {μ : ax_M} (hs : ∀ (k : Nat) (e : ax_E), SHc[k]? = some e → sh[k]? = some e) {v : Int64} (h : m_X9_inLowestTerms x0 x1 x2 μ = some v) : ax_A G l yX9_inLowestTerms cX9_inLowestTerms 7 (some .long) 2 [.int x0, .int x1, .int x2] sh μ (some (.long v), sh, μ) := by
  refine ax_A.of false (by decide +kernel) (fun h9 => by cases h9) (Nat.le_of_ble_eq_true rfl) (?_ : ax_X G l RX9 cX9_inLowestTerms 7 (some .long) false 2 (some (.long v), sh, μ) 0 [(0, .int x0), (1, .int x1), (2, .int x2)] [] sh μ)
  unfold m_X9_inLowestTerms at h
  refine ax_iload_n (pc := 0) (i := 0) (q := 0) (ax_dd KX9_inLowestTerms 0 rfl) rfl rfl ?_
  refine ax_istore_n (pc := 1) (i := 3) (lv' := [(3, .int x0), (0, .int x0), (1, .int x1), (2, .int x2)]) (ax_dd KX9_inLowestTerms 1 rfl) rfl (by decide) rfl ?_
  refine ax_iload_n (pc := 2) (i := 1) (q := 2) (ax_dd KX9_inLowestTerms 2 rfl) rfl rfl ?_
  refine ax_istore (pc := 3) (lv' := [(4, .int x1), (3, .int x0), (0, .int x0), (1, .int x1), (2, .int x2)]) (ax_dd KX9_inLowestTerms 3 rfl) (by decide) rfl ?_
  refine ax_iconst (pc := 5) (v := 0) (ax_dd KX9_inLowestTerms 4 rfl) (by decide) ?_
  refine ax_istore (pc := 6) (lv' := [(5, .int 0), (4, .int x1), (3, .int x0), (0, .int x0), (1, .int x1), (2, .int x2)]) (ax_dd KX9_inLowestTerms 5 rfl) (by decide) rfl ?_
  refine ax_sub (lv' := [(0, .int x0), (1, .int x1), (2, .int x2), (3, .int x0), (4, .int x1), (5, .int 0)]) [3, 4, 5, 2, 1, 0] rfl ?_
  exact a_X9_inLowestTerms_8 hs fu _ _ _ _ h
def m_X9_share (x1 : Int32) (x2 : Int32) (μ : ax_M) : Option (Int64 × ax_M) :=
  (m_X0_isRug x1 μ).bind fun v1 =>
  if v1 = 0 then
    some ((-4611686018427387904), μ)
  else
    if x2 < 0 then
      some ((-4611686018427387904), μ)
    else
      if x2 ≤ 1 then
        bind2 (m_X0_ruledNow x1 μ) fun v6 μ8 =>
        (m_X9_inLowestTerms v6 36 x2 μ8).bind fun v9 =>
        some (v9, μ8)
      else
        some ((-4611686018427387904), μ)
set_option maxRecDepth 100000 in
set_option maxHeartbeats 8000000 in
theorem c_X9_share {G : ax_G} {l : Launch} {sh : List ax_E} {x1 : Int32} {x2 : Int32} {μ : ax_M} (hs : ∀ (k : Nat) (e : ax_E), SHc[k]? = some e → sh[k]? = some e) {v : Int64 × ax_M} (h : m_X9_share x1 x2 μ = some v) : ax_A G l yX9_share cX9_share 3 (some .long) 8 [.ref (G.1 + 0), .int x1, .int x2] sh μ (some (.long v.1), sh, v.2) := by
  refine ax_A.of false (by decide +kernel) (fun h9 => by cases h9) (Nat.le_of_ble_eq_true rfl) (?_ : ax_X G l RX9 cX9_share 3 (some .long) false 8 (some (.long v.1), sh, v.2) 0 [(0, .ref (G.1 + 0)), (1, .int x1), (2, .int x2)] [] sh μ)
  unfold m_X9_share at h
  refine ax_aload_n (pc := 0) (i := 0) (q := 0) (ax_dd KX9_share 0 rfl) rfl rfl ?_
  refine ax_getR (pc := 1) (k := 0) (q := 25) (ax_dd KX9_share 1 rfl) f_X9_37 (hs 0 _ rfl) rfl ?_
  refine ax_iload_n (pc := 4) (i := 1) (q := 1) (ax_dd KX9_share 2 rfl) rfl rfl ?_
  obtain ⟨v1, b2, h⟩ := ob_bind h
  refine ax_kV (pc := 5) (ci := 0) (k := 25) (As := [.int x1]) (rest := []) (st1 := [.int v1]) (μ1 := μ) (ax_dd KX9_share 3 rfl) (c_X0_isRug hs b2) kV_X9_117 e_X0_isRug (hs 25 _ rfl) cl_X0 (by decide) rfl rfl (by decide) (by decide) (Nat.le_of_ble_eq_true rfl) rfl ?_
  by_cases c3 : v1 = 0
  · rw [if_pos c3] at h
    refine ax_if_eq_t (pc := 8) (tgt := 20) (ax_dd KX9_share 4 rfl) (by decide) c3 ?_
    refine ax_ldc2 (pc := 20) (ax_dd KX9_share 10 rfl) c_X9_175 ?_
    obtain rfl := Option.some.inj h
    exact ax_lret (pc := 23) (ax_dd KX9_share 11 rfl) rfl rfl
  · rw [if_neg c3] at h
    refine ax_if_eq_f (pc := 8) (tgt := 20) (ax_dd KX9_share 4 rfl) (by decide) c3 ?_
    refine ax_iload_n (pc := 11) (i := 2) (q := 2) (ax_dd KX9_share 5 rfl) rfl rfl ?_
    by_cases c4 : x2 < 0
    · rw [if_pos c4] at h
      refine ax_if_lt_t (pc := 12) (tgt := 20) (ax_dd KX9_share 6 rfl) (by decide) c4 ?_
      refine ax_ldc2 (pc := 20) (ax_dd KX9_share 10 rfl) c_X9_175 ?_
      obtain rfl := Option.some.inj h
      exact ax_lret (pc := 23) (ax_dd KX9_share 11 rfl) rfl rfl
    · rw [if_neg c4] at h
      refine ax_if_lt_f (pc := 12) (tgt := 20) (ax_dd KX9_share 6 rfl) (by decide) c4 ?_
      refine ax_iload_n (pc := 15) (i := 2) (q := 2) (ax_dd KX9_share 7 rfl) rfl rfl ?_
      refine ax_iconst (pc := 16) (v := 1) (ax_dd KX9_share 8 rfl) (by decide) ?_
      by_cases c5 : x2 ≤ 1
      · rw [if_pos c5] at h
        refine ax_icmp_le_t (pc := 17) (tgt := 24) (ax_dd KX9_share 9 rfl) (by decide) c5 ?_
        refine ax_aload_n (pc := 24) (i := 0) (q := 0) (ax_dd KX9_share 12 rfl) rfl rfl ?_
        refine ax_getR (pc := 25) (k := 0) (q := 25) (ax_dd KX9_share 13 rfl) f_X9_37 (hs 0 _ rfl) rfl ?_
        refine ax_iload_n (pc := 28) (i := 1) (q := 1) (ax_dd KX9_share 14 rfl) rfl rfl ?_
        obtain ⟨v6, μ8, b7, h⟩ := ob_bind2 h
        refine ax_kV (pc := 29) (ci := 0) (k := 25) (As := [.int x1]) (rest := []) (st1 := [.int v6]) (μ1 := μ8) (ax_dd KX9_share 15 rfl) (c_X0_ruledNow hs b7) kV_X9_153 e_X0_ruledNow (hs 25 _ rfl) cl_X0 (by decide) rfl rfl (by decide) (by decide) (Nat.le_of_ble_eq_true rfl) rfl ?_
        refine ax_bipush (pc := 32) (v := 36) (ax_dd KX9_share 16 rfl) (by decide) ?_
        refine ax_iload_n (pc := 34) (i := 2) (q := 2) (ax_dd KX9_share 17 rfl) rfl rfl ?_
        obtain ⟨v9, b10, h⟩ := ob_bind h
        refine ax_kS (pc := 35) (As := [.int v6, .int 36, .int x2]) (rest := []) (st1 := [.long v9]) (μ1 := μ8) (ax_dd KX9_share 18 rfl) (c_X9_inLowestTerms hs b10) kS_X9_237 e_X9_inLowestTerms rfl rfl (by decide) (by decide) (Nat.le_of_ble_eq_true rfl) rfl ?_
        obtain rfl := Option.some.inj h
        exact ax_lret (pc := 38) (ax_dd KX9_share 19 rfl) rfl rfl
      · rw [if_neg c5] at h
        refine ax_icmp_le_f (pc := 17) (tgt := 24) (ax_dd KX9_share 9 rfl) (by decide) c5 ?_
        refine ax_ldc2 (pc := 20) (ax_dd KX9_share 10 rfl) c_X9_175 ?_
        obtain rfl := Option.some.inj h
        exact ax_lret (pc := 23) (ax_dd KX9_share 11 rfl) rfl rfl
def m_X9_mean (x1 : Int32) (x2 : Int32) (μ : ax_M) : Option (Int64 × ax_M) :=
  (m_X0_isRug x1 μ).bind fun v1 =>
  if v1 = 0 then
    some ((-4611686018427387904), μ)
  else
    if x2 < 0 then
      some ((-4611686018427387904), μ)
    else
      if x2 ≤ 1 then
        (m_X0_look μ).bind fun μ8 =>
        (m_X0_ruledByAny (shI (1 : Int32) x1) μ8).bind fun v9 =>
        if v9 = 0 then
          some ((-4611686018427387904), μ8)
        else
          (m_X0_fineOfRealm x1 μ8).bind fun v12 =>
          (m_X9_inLowestTerms v12 v9 x2 μ8).bind fun v14 =>
          some (v14, μ8)
      else
        some ((-4611686018427387904), μ)
set_option maxRecDepth 100000 in
set_option maxHeartbeats 8000000 in
theorem c_X9_mean {G : ax_G} {l : Launch} {sh : List ax_E} {x1 : Int32} {x2 : Int32} {μ : ax_M} (hs : ∀ (k : Nat) (e : ax_E), SHc[k]? = some e → sh[k]? = some e) {v : Int64 × ax_M} (h : m_X9_mean x1 x2 μ = some v) : ax_A G l yX9_mean cX9_mean 4 (some .long) 8 [.ref (G.1 + 0), .int x1, .int x2] sh μ (some (.long v.1), sh, v.2) := by
  refine ax_A.of false (by decide +kernel) (fun h9 => by cases h9) (Nat.le_of_ble_eq_true rfl) (?_ : ax_X G l RX9 cX9_mean 4 (some .long) false 8 (some (.long v.1), sh, v.2) 0 [(0, .ref (G.1 + 0)), (1, .int x1), (2, .int x2)] [] sh μ)
  unfold m_X9_mean at h
  refine ax_aload_n (pc := 0) (i := 0) (q := 0) (ax_dd KX9_mean 0 rfl) rfl rfl ?_
  refine ax_getR (pc := 1) (k := 0) (q := 25) (ax_dd KX9_mean 1 rfl) f_X9_37 (hs 0 _ rfl) rfl ?_
  refine ax_iload_n (pc := 4) (i := 1) (q := 1) (ax_dd KX9_mean 2 rfl) rfl rfl ?_
  obtain ⟨v1, b2, h⟩ := ob_bind h
  refine ax_kV (pc := 5) (ci := 0) (k := 25) (As := [.int x1]) (rest := []) (st1 := [.int v1]) (μ1 := μ) (ax_dd KX9_mean 3 rfl) (c_X0_isRug hs b2) kV_X9_117 e_X0_isRug (hs 25 _ rfl) cl_X0 (by decide) rfl rfl (by decide) (by decide) (Nat.le_of_ble_eq_true rfl) rfl ?_
  by_cases c3 : v1 = 0
  · rw [if_pos c3] at h
    refine ax_if_eq_t (pc := 8) (tgt := 20) (ax_dd KX9_mean 4 rfl) (by decide) c3 ?_
    refine ax_ldc2 (pc := 20) (ax_dd KX9_mean 10 rfl) c_X9_175 ?_
    obtain rfl := Option.some.inj h
    exact ax_lret (pc := 23) (ax_dd KX9_mean 11 rfl) rfl rfl
  · rw [if_neg c3] at h
    refine ax_if_eq_f (pc := 8) (tgt := 20) (ax_dd KX9_mean 4 rfl) (by decide) c3 ?_
    refine ax_iload_n (pc := 11) (i := 2) (q := 2) (ax_dd KX9_mean 5 rfl) rfl rfl ?_
    by_cases c4 : x2 < 0
    · rw [if_pos c4] at h
      refine ax_if_lt_t (pc := 12) (tgt := 20) (ax_dd KX9_mean 6 rfl) (by decide) c4 ?_
      refine ax_ldc2 (pc := 20) (ax_dd KX9_mean 10 rfl) c_X9_175 ?_
      obtain rfl := Option.some.inj h
      exact ax_lret (pc := 23) (ax_dd KX9_mean 11 rfl) rfl rfl
    · rw [if_neg c4] at h
      refine ax_if_lt_f (pc := 12) (tgt := 20) (ax_dd KX9_mean 6 rfl) (by decide) c4 ?_
      refine ax_iload_n (pc := 15) (i := 2) (q := 2) (ax_dd KX9_mean 7 rfl) rfl rfl ?_
      refine ax_iconst (pc := 16) (v := 1) (ax_dd KX9_mean 8 rfl) (by decide) ?_
      by_cases c5 : x2 ≤ 1
      · rw [if_pos c5] at h
        refine ax_icmp_le_t (pc := 17) (tgt := 24) (ax_dd KX9_mean 9 rfl) (by decide) c5 ?_
        refine ax_aload_n (pc := 24) (i := 0) (q := 0) (ax_dd KX9_mean 12 rfl) rfl rfl ?_
        refine ax_getR (pc := 25) (k := 0) (q := 25) (ax_dd KX9_mean 13 rfl) f_X9_37 (hs 0 _ rfl) rfl ?_
        obtain ⟨μ8, b7, h⟩ := ob_bind h
        refine ax_kV (pc := 28) (ci := 0) (k := 25) (As := []) (rest := []) (st1 := []) (μ1 := μ8) (ax_dd KX9_mean 14 rfl) (c_X0_look hs b7) kV_X9_160 e_X0_look (hs 25 _ rfl) cl_X0 (by decide) rfl rfl (by decide) (by decide) (Nat.le_of_ble_eq_true rfl) rfl ?_
        refine ax_aload_n (pc := 31) (i := 0) (q := 0) (ax_dd KX9_mean 15 rfl) rfl rfl ?_
        refine ax_getR (pc := 32) (k := 0) (q := 25) (ax_dd KX9_mean 16 rfl) f_X9_37 (hs 0 _ rfl) rfl ?_
        refine ax_iconst (pc := 35) (v := 1) (ax_dd KX9_mean 17 rfl) (by decide) ?_
        refine ax_iload_n (pc := 36) (i := 1) (q := 1) (ax_dd KX9_mean 18 rfl) rfl rfl ?_
        refine ax_ishl (pc := 37) (ax_dd KX9_mean 19 rfl) ?_
        obtain ⟨v9, b10, h⟩ := ob_bind h
        refine ax_kV (pc := 38) (ci := 0) (k := 25) (As := [.int (shI (1 : Int32) x1)]) (rest := []) (st1 := [.int v9]) (μ1 := μ8) (ax_dd KX9_mean 20 rfl) (c_X0_ruledByAny hs b10) kV_X9_219 e_X0_ruledByAny (hs 25 _ rfl) cl_X0 (by decide) rfl rfl (by decide) (by decide) (Nat.le_of_ble_eq_true rfl) rfl ?_
        refine ax_istore_n (pc := 41) (i := 3) (lv' := [(3, .int v9), (0, .ref (G.1 + 0)), (1, .int x1), (2, .int x2)]) (ax_dd KX9_mean 21 rfl) rfl (by decide) rfl ?_
        refine ax_iload_n (pc := 42) (i := 3) (q := 0) (ax_dd KX9_mean 22 rfl) rfl rfl ?_
        by_cases c11 : v9 = 0
        · rw [if_pos c11] at h
          refine ax_if_ne_f (pc := 43) (tgt := 52) (ax_dd KX9_mean 23 rfl) (by decide) (fun z => z c11) ?_
          refine ax_ldc2 (pc := 46) (ax_dd KX9_mean 24 rfl) c_X9_175 ?_
          refine ax_goto (pc := 49) (tgt := 65) (ax_dd KX9_mean 25 rfl) (by decide) ?_
          obtain rfl := Option.some.inj h
          exact ax_lret (pc := 65) (ax_dd KX9_mean 33 rfl) rfl rfl
        · rw [if_neg c11] at h
          refine ax_if_ne_t (pc := 43) (tgt := 52) (ax_dd KX9_mean 23 rfl) (by decide) c11 ?_
          refine ax_aload_n (pc := 52) (i := 0) (q := 1) (ax_dd KX9_mean 26 rfl) rfl rfl ?_
          refine ax_getR (pc := 53) (k := 0) (q := 25) (ax_dd KX9_mean 27 rfl) f_X9_37 (hs 0 _ rfl) rfl ?_
          refine ax_iload_n (pc := 56) (i := 1) (q := 2) (ax_dd KX9_mean 28 rfl) rfl rfl ?_
          obtain ⟨v12, b13, h⟩ := ob_bind h
          refine ax_kV (pc := 57) (ci := 0) (k := 25) (As := [.int x1]) (rest := []) (st1 := [.int v12]) (μ1 := μ8) (ax_dd KX9_mean 29 rfl) (c_X0_fineOfRealm hs b13) kV_X9_241 e_X0_fineOfRealm (hs 25 _ rfl) cl_X0 (by decide) rfl rfl (by decide) (by decide) (Nat.le_of_ble_eq_true rfl) rfl ?_
          refine ax_iload_n (pc := 60) (i := 3) (q := 0) (ax_dd KX9_mean 30 rfl) rfl rfl ?_
          refine ax_iload_n (pc := 61) (i := 2) (q := 3) (ax_dd KX9_mean 31 rfl) rfl rfl ?_
          obtain ⟨v14, b15, h⟩ := ob_bind h
          refine ax_kS (pc := 62) (As := [.int v12, .int v9, .int x2]) (rest := []) (st1 := [.long v14]) (μ1 := μ8) (ax_dd KX9_mean 32 rfl) (c_X9_inLowestTerms hs b15) kS_X9_237 e_X9_inLowestTerms rfl rfl (by decide) (by decide) (Nat.le_of_ble_eq_true rfl) rfl ?_
          obtain rfl := Option.some.inj h
          exact ax_lret (pc := 65) (ax_dd KX9_mean 33 rfl) rfl rfl
      · rw [if_neg c5] at h
        refine ax_icmp_le_f (pc := 17) (tgt := 24) (ax_dd KX9_mean 9 rfl) (by decide) c5 ?_
        refine ax_ldc2 (pc := 20) (ax_dd KX9_mean 10 rfl) c_X9_175 ?_
        obtain rfl := Option.some.inj h
        exact ax_lret (pc := 23) (ax_dd KX9_mean 11 rfl) rfl rfl
def m_X9_refusesFines (x1 : Int32) (x2 : Int32) (μ : ax_M) : Option (Int32) :=
  (m_X4_refuses x1 μ).bind fun v1 =>
  if v1 = 0 then
    (ix 4 x1).bind fun j4 =>
    if (μ 50 j4) ≤ 24 then
      (m_X9_isCell x2 μ).bind fun v7 =>
      if v7 = 0 then
        some (-5)
      else
        some 0
    else
      some (-2)
  else
    some v1
set_option maxRecDepth 100000 in
set_option maxHeartbeats 8000000 in
theorem c_X9_refusesFines {G : ax_G} {l : Launch} {sh : List ax_E} {x1 : Int32} {x2 : Int32} {μ : ax_M} (hs : ∀ (k : Nat) (e : ax_E), SHc[k]? = some e → sh[k]? = some e) {v : Int32} (h : m_X9_refusesFines x1 x2 μ = some v) : ax_A G l yX9_refusesFines cX9_refusesFines 4 (some .int) 3 [.ref (G.1 + 0), .int x1, .int x2] sh μ (some (.int v), sh, μ) := by
  refine ax_A.of false (by decide +kernel) (fun h9 => by cases h9) (Nat.le_of_ble_eq_true rfl) (?_ : ax_X G l RX9 cX9_refusesFines 4 (some .int) false 3 (some (.int v), sh, μ) 0 [(0, .ref (G.1 + 0)), (1, .int x1), (2, .int x2)] [] sh μ)
  unfold m_X9_refusesFines at h
  refine ax_aload_n (pc := 0) (i := 0) (q := 0) (ax_dd KX9_refusesFines 0 rfl) rfl rfl ?_
  refine ax_getR (pc := 1) (k := 0) (q := 43) (ax_dd KX9_refusesFines 1 rfl) f_X9_74 (hs 0 _ rfl) rfl ?_
  refine ax_iload_n (pc := 4) (i := 1) (q := 1) (ax_dd KX9_refusesFines 2 rfl) rfl rfl ?_
  obtain ⟨v1, b2, h⟩ := ob_bind h
  refine ax_kV (pc := 5) (ci := 4) (k := 43) (As := [.int x1]) (rest := []) (st1 := [.int v1]) (μ1 := μ) (ax_dd KX9_refusesFines 3 rfl) (c_X4_refuses hs b2) kV_X9_292 e_X4_refuses (hs 43 _ rfl) cl_X4 (by decide) rfl rfl (by decide) (by decide) (Nat.le_of_ble_eq_true rfl) rfl ?_
  refine ax_istore_n (pc := 8) (i := 3) (lv' := [(3, .int v1), (0, .ref (G.1 + 0)), (1, .int x1), (2, .int x2)]) (ax_dd KX9_refusesFines 4 rfl) rfl (by decide) rfl ?_
  refine ax_iload_n (pc := 9) (i := 3) (q := 0) (ax_dd KX9_refusesFines 5 rfl) rfl rfl ?_
  by_cases c3 : v1 = 0
  · rw [if_pos c3] at h
    refine ax_if_eq_t (pc := 10) (tgt := 15) (ax_dd KX9_refusesFines 6 rfl) (by decide) c3 ?_
    refine ax_aload_n (pc := 15) (i := 0) (q := 1) (ax_dd KX9_refusesFines 9 rfl) rfl rfl ?_
    refine ax_getR (pc := 16) (k := 0) (q := 43) (ax_dd KX9_refusesFines 10 rfl) f_X9_74 (hs 0 _ rfl) rfl ?_
    refine ax_getR (pc := 19) (k := 43) (q := 50) (ax_dd KX9_refusesFines 11 rfl) f_X9_251 (hs 43 _ rfl) rfl ?_
    refine ax_iload_n (pc := 22) (i := 1) (q := 2) (ax_dd KX9_refusesFines 12 rfl) rfl rfl ?_
    obtain ⟨j4, b5, h⟩ := ob_bind h
    refine ax_ild (pc := 23) (k := 50) (N := 4) (j := j4) (ax_dd KX9_refusesFines 13 rfl) (hs 50 _ rfl) b5 ?_
    refine ax_bipush (pc := 24) (v := 24) (ax_dd KX9_refusesFines 14 rfl) (by decide) ?_
    by_cases c6 : (μ 50 j4) ≤ 24
    · rw [if_pos c6] at h
      refine ax_icmp_le_t (pc := 26) (tgt := 32) (ax_dd KX9_refusesFines 15 rfl) (by decide) c6 ?_
      refine ax_iload_n (pc := 32) (i := 2) (q := 3) (ax_dd KX9_refusesFines 18 rfl) rfl rfl ?_
      obtain ⟨v7, b8, h⟩ := ob_bind h
      refine ax_kS (pc := 33) (As := [.int x2]) (rest := []) (st1 := [.int v7]) (μ1 := μ) (ax_dd KX9_refusesFines 19 rfl) (c_X9_isCell hs b8) kS_X9_120 e_X9_isCell rfl rfl (by decide) (by decide) (Nat.le_of_ble_eq_true rfl) rfl ?_
      by_cases c9 : v7 = 0
      · rw [if_pos c9] at h
        refine ax_if_eq_t (pc := 36) (tgt := 43) (ax_dd KX9_refusesFines 20 rfl) (by decide) c9 ?_
        refine ax_bipush (pc := 43) (v := (-5)) (ax_dd KX9_refusesFines 23 rfl) (by decide) ?_
        obtain rfl := Option.some.inj h
        exact ax_ireti (pc := 45) (ax_dd KX9_refusesFines 24 rfl) ⟨_, rfl, rfl⟩ rfl
      · rw [if_neg c9] at h
        refine ax_if_eq_f (pc := 36) (tgt := 43) (ax_dd KX9_refusesFines 20 rfl) (by decide) c9 ?_
        refine ax_iconst (pc := 39) (v := 0) (ax_dd KX9_refusesFines 21 rfl) (by decide) ?_
        refine ax_goto (pc := 40) (tgt := 45) (ax_dd KX9_refusesFines 22 rfl) (by decide) ?_
        obtain rfl := Option.some.inj h
        exact ax_ireti (pc := 45) (ax_dd KX9_refusesFines 24 rfl) ⟨_, rfl, rfl⟩ rfl
    · rw [if_neg c6] at h
      refine ax_icmp_le_f (pc := 26) (tgt := 32) (ax_dd KX9_refusesFines 15 rfl) (by decide) c6 ?_
      refine ax_bipush (pc := 29) (v := (-2)) (ax_dd KX9_refusesFines 16 rfl) (by decide) ?_
      obtain rfl := Option.some.inj h
      exact ax_ireti (pc := 31) (ax_dd KX9_refusesFines 17 rfl) ⟨_, rfl, rfl⟩ rfl
  · rw [if_neg c3] at h
    refine ax_if_eq_f (pc := 10) (tgt := 15) (ax_dd KX9_refusesFines 6 rfl) (by decide) c3 ?_
    refine ax_iload_n (pc := 13) (i := 3) (q := 0) (ax_dd KX9_refusesFines 7 rfl) rfl rfl ?_
    obtain rfl := Option.some.inj h
    exact ax_ireti (pc := 14) (ax_dd KX9_refusesFines 8 rfl) ⟨_, rfl, rfl⟩ rfl
def m_X9_judge (x1 : Int32) (x2 : Int32) (μ : ax_M) : Option (Int32 × ax_M) :=
  (m_X9_refusesFines x1 x2 μ).bind fun v1 =>
  if v1 = 0 then
    (ix 4 x1).bind fun j4 =>
    (ix 4 x1).bind fun j6 =>
    bind2 (m_X0_firstOther (45 + j4) (μ 50 j6) x2 μ) fun v8 μ10 =>
    some (v8, μ10)
  else
    some (v1, μ)
set_option maxRecDepth 100000 in
set_option maxHeartbeats 8000000 in
theorem c_X9_judge {G : ax_G} {l : Launch} {sh : List ax_E} {x1 : Int32} {x2 : Int32} {μ : ax_M} (hs : ∀ (k : Nat) (e : ax_E), SHc[k]? = some e → sh[k]? = some e) {v : Int32 × ax_M} (h : m_X9_judge x1 x2 μ = some v) : ax_A G l yX9_judge cX9_judge 4 (some .int) 8 [.ref (G.1 + 0), .int x1, .int x2] sh μ (some (.int v.1), sh, v.2) := by
  refine ax_A.of false (by decide +kernel) (fun h9 => by cases h9) (Nat.le_of_ble_eq_true rfl) (?_ : ax_X G l RX9 cX9_judge 4 (some .int) false 8 (some (.int v.1), sh, v.2) 0 [(0, .ref (G.1 + 0)), (1, .int x1), (2, .int x2)] [] sh μ)
  unfold m_X9_judge at h
  refine ax_aload_n (pc := 0) (i := 0) (q := 0) (ax_dd KX9_judge 0 rfl) rfl rfl ?_
  refine ax_iload_n (pc := 1) (i := 1) (q := 1) (ax_dd KX9_judge 1 rfl) rfl rfl ?_
  refine ax_iload_n (pc := 2) (i := 2) (q := 2) (ax_dd KX9_judge 2 rfl) rfl rfl ?_
  obtain ⟨v1, b2, h⟩ := ob_bind h
  refine ax_kV (pc := 3) (ci := 9) (k := 0) (As := [.int x1, .int x2]) (rest := []) (st1 := [.int v1]) (μ1 := μ) (ax_dd KX9_judge 3 rfl) (c_X9_refusesFines hs b2) kV_X9_244 e_X9_refusesFines (hs 0 _ rfl) cl_X9 (by decide) rfl rfl (by decide) (by decide) (Nat.le_of_ble_eq_true rfl) rfl ?_
  refine ax_istore_n (pc := 6) (i := 3) (lv' := [(3, .int v1), (0, .ref (G.1 + 0)), (1, .int x1), (2, .int x2)]) (ax_dd KX9_judge 4 rfl) rfl (by decide) rfl ?_
  refine ax_iload_n (pc := 7) (i := 3) (q := 0) (ax_dd KX9_judge 5 rfl) rfl rfl ?_
  by_cases c3 : v1 = 0
  · rw [if_pos c3] at h
    refine ax_if_eq_t (pc := 8) (tgt := 15) (ax_dd KX9_judge 6 rfl) (by decide) c3 ?_
    refine ax_aload_n (pc := 15) (i := 0) (q := 1) (ax_dd KX9_judge 9 rfl) rfl rfl ?_
    refine ax_getR (pc := 16) (k := 0) (q := 25) (ax_dd KX9_judge 10 rfl) f_X9_37 (hs 0 _ rfl) rfl ?_
    refine ax_aload_n (pc := 19) (i := 0) (q := 1) (ax_dd KX9_judge 11 rfl) rfl rfl ?_
    refine ax_getR (pc := 20) (k := 0) (q := 43) (ax_dd KX9_judge 12 rfl) f_X9_74 (hs 0 _ rfl) rfl ?_
    refine ax_getR (pc := 23) (k := 43) (q := 44) (ax_dd KX9_judge 13 rfl) f_X9_247 (hs 43 _ rfl) rfl ?_
    refine ax_iload_n (pc := 26) (i := 1) (q := 2) (ax_dd KX9_judge 14 rfl) rfl rfl ?_
    obtain ⟨j4, b5, h⟩ := ob_bind h
    refine ax_ald (pc := 27) (k := 44) (b0 := 45) (N := 4) (j := j4) (ax_dd KX9_judge 15 rfl) (hs 44 _ rfl) b5 ?_
    refine ax_aload_n (pc := 28) (i := 0) (q := 1) (ax_dd KX9_judge 16 rfl) rfl rfl ?_
    refine ax_getR (pc := 29) (k := 0) (q := 43) (ax_dd KX9_judge 17 rfl) f_X9_74 (hs 0 _ rfl) rfl ?_
    refine ax_getR (pc := 32) (k := 43) (q := 50) (ax_dd KX9_judge 18 rfl) f_X9_251 (hs 43 _ rfl) rfl ?_
    refine ax_iload_n (pc := 35) (i := 1) (q := 2) (ax_dd KX9_judge 19 rfl) rfl rfl ?_
    obtain ⟨j6, b7, h⟩ := ob_bind h
    refine ax_ild (pc := 36) (k := 50) (N := 4) (j := j6) (ax_dd KX9_judge 20 rfl) (hs 50 _ rfl) b7 ?_
    refine ax_iload_n (pc := 37) (i := 2) (q := 3) (ax_dd KX9_judge 21 rfl) rfl rfl ?_
    obtain ⟨v8, μ10, b9, h⟩ := ob_bind2 h
    refine ax_kV (pc := 38) (ci := 0) (k := 25) (As := [.ref (G.1 + (45 + j4)), .int (μ 50 j6), .int x2]) (rest := []) (st1 := [.int v8]) (μ1 := μ10) (ax_dd KX9_judge 22 rfl) (c_X0_firstOther hs b9) kV_X9_252 e_X0_firstOther (hs 25 _ rfl) cl_X0 (by decide) rfl rfl (by decide) (by decide) (Nat.le_of_ble_eq_true rfl) rfl ?_
    obtain rfl := Option.some.inj h
    exact ax_ireti (pc := 41) (ax_dd KX9_judge 23 rfl) ⟨_, rfl, rfl⟩ rfl
  · rw [if_neg c3] at h
    refine ax_if_eq_f (pc := 8) (tgt := 15) (ax_dd KX9_judge 6 rfl) (by decide) c3 ?_
    refine ax_iload_n (pc := 11) (i := 3) (q := 0) (ax_dd KX9_judge 7 rfl) rfl rfl ?_
    refine ax_goto (pc := 12) (tgt := 41) (ax_dd KX9_judge 8 rfl) (by decide) ?_
    obtain rfl := Option.some.inj h
    exact ax_ireti (pc := 41) (ax_dd KX9_judge 23 rfl) ⟨_, rfl, rfl⟩ rfl
def m_X9_kinds_94 (x1 : Int32) (x2 : Int32) (x3 : Int32) (x6 : Nat) (x7 : Int32) (x8 : Int32) : Nat → Int32 → Int32 → ax_M → Option (Int32 × ax_M)
  | 0, _, _, _ => none
  | n + 1, x9, x10, μ =>
    if x7 ≤ x10 then
      (q_st μ x6 x3 x8).bind fun μ4 =>
      some (x9, μ4)
    else
      (q_st μ x6 x3 x10).bind fun μ7 =>
      (ix 4 x1).bind fun j8 =>
      (ix 4 x1).bind fun j10 =>
      bind2 (m_X0_firstOther (45 + j8) (μ7 50 j10) x2 μ7) fun v12 μ14 =>
      if v12 = (-1) then
        m_X9_kinds_94 x1 x2 x3 x6 x7 x8 n (x9 ||| (shI (1 : Int32) x10)) (x10 + 1) μ14
      else
        m_X9_kinds_94 x1 x2 x3 x6 x7 x8 n x9 (x10 + 1) μ14
set_option maxRecDepth 100000 in
set_option maxHeartbeats 8000000 in
theorem a_X9_kinds_94 {G : ax_G} {l : Launch} {sh : List ax_E} {x1 : Int32} {x2 : Int32} {x3 : Int32} {x6 : Nat} {x7 : Int32} {x8 : Int32} (hs : ∀ (k : Nat) (e : ax_E), SHc[k]? = some e → sh[k]? = some e) : ∀ (n : Nat) (x9 : Int32) (x10 : Int32) (μ : ax_M) (v : Int32 × ax_M), m_X9_kinds_94 x1 x2 x3 x6 x7 x8 n x9 x10 μ = some v → ax_X G l RX9 cX9_kinds 11 (some .int) false 8 (some (.int v.1), sh, v.2) 94 [(0, .ref (G.1 + 0)), (1, .int x1), (2, .int x2), (3, .int x3), (6, .ref (G.1 + (x6))), (7, .int x7), (8, .int x8), (9, .int x9), (10, .int x10)] [] sh μ := by
  intro n
  induction n with
  | zero =>
    intro x9 x10 μ v h
    rw [m_X9_kinds_94] at h
    cases h
  | succ n ih =>
    intro x9 x10 μ v h
    rw [m_X9_kinds_94] at h
    refine ax_iload (pc := 94) (q := 8) (ax_dd KX9_kinds 47 rfl) rfl ?_
    refine ax_iload (pc := 96) (q := 5) (ax_dd KX9_kinds 48 rfl) rfl ?_
    by_cases c1 : x7 ≤ x10
    · rw [if_pos c1] at h
      refine ax_icmp_ge_t (pc := 98) (tgt := 152) (ax_dd KX9_kinds 49 rfl) (by decide) c1 ?_
      refine ax_aload (pc := 152) (q := 4) (ax_dd KX9_kinds 78 rfl) rfl ?_
      refine ax_iload_n (pc := 154) (i := 3) (q := 3) (ax_dd KX9_kinds 79 rfl) rfl rfl ?_
      refine ax_iload (pc := 155) (q := 6) (ax_dd KX9_kinds 80 rfl) rfl ?_
      obtain ⟨μ4, b3, h⟩ := ob_bind h
      refine ax_qst (pc := 157) (ax_dd KX9_kinds 81 rfl) hs b3 ?_
      refine ax_iload (pc := 158) (q := 7) (ax_dd KX9_kinds 82 rfl) rfl ?_
      obtain rfl := Option.some.inj h
      exact ax_ireti (pc := 160) (ax_dd KX9_kinds 83 rfl) ⟨_, rfl, rfl⟩ rfl
    · rw [if_neg c1] at h
      refine ax_icmp_ge_f (pc := 98) (tgt := 152) (ax_dd KX9_kinds 49 rfl) (by decide) c1 ?_
      refine ax_aload (pc := 101) (q := 4) (ax_dd KX9_kinds 50 rfl) rfl ?_
      refine ax_iload_n (pc := 103) (i := 3) (q := 3) (ax_dd KX9_kinds 51 rfl) rfl rfl ?_
      refine ax_iload (pc := 104) (q := 8) (ax_dd KX9_kinds 52 rfl) rfl ?_
      obtain ⟨μ7, b6, h⟩ := ob_bind h
      refine ax_qst (pc := 106) (ax_dd KX9_kinds 53 rfl) hs b6 ?_
      refine ax_aload_n (pc := 107) (i := 0) (q := 0) (ax_dd KX9_kinds 54 rfl) rfl rfl ?_
      refine ax_getR (pc := 108) (k := 0) (q := 25) (ax_dd KX9_kinds 55 rfl) f_X9_37 (hs 0 _ rfl) rfl ?_
      refine ax_aload_n (pc := 111) (i := 0) (q := 0) (ax_dd KX9_kinds 56 rfl) rfl rfl ?_
      refine ax_getR (pc := 112) (k := 0) (q := 43) (ax_dd KX9_kinds 57 rfl) f_X9_74 (hs 0 _ rfl) rfl ?_
      refine ax_getR (pc := 115) (k := 43) (q := 44) (ax_dd KX9_kinds 58 rfl) f_X9_247 (hs 43 _ rfl) rfl ?_
      refine ax_iload_n (pc := 118) (i := 1) (q := 1) (ax_dd KX9_kinds 59 rfl) rfl rfl ?_
      obtain ⟨j8, b9, h⟩ := ob_bind h
      refine ax_ald (pc := 119) (k := 44) (b0 := 45) (N := 4) (j := j8) (ax_dd KX9_kinds 60 rfl) (hs 44 _ rfl) b9 ?_
      refine ax_aload_n (pc := 120) (i := 0) (q := 0) (ax_dd KX9_kinds 61 rfl) rfl rfl ?_
      refine ax_getR (pc := 121) (k := 0) (q := 43) (ax_dd KX9_kinds 62 rfl) f_X9_74 (hs 0 _ rfl) rfl ?_
      refine ax_getR (pc := 124) (k := 43) (q := 50) (ax_dd KX9_kinds 63 rfl) f_X9_251 (hs 43 _ rfl) rfl ?_
      refine ax_iload_n (pc := 127) (i := 1) (q := 1) (ax_dd KX9_kinds 64 rfl) rfl rfl ?_
      obtain ⟨j10, b11, h⟩ := ob_bind h
      refine ax_ild (pc := 128) (k := 50) (N := 4) (j := j10) (ax_dd KX9_kinds 65 rfl) (hs 50 _ rfl) b11 ?_
      refine ax_iload_n (pc := 129) (i := 2) (q := 2) (ax_dd KX9_kinds 66 rfl) rfl rfl ?_
      obtain ⟨v12, μ14, b13, h⟩ := ob_bind2 h
      refine ax_kV (pc := 130) (ci := 0) (k := 25) (As := [.ref (G.1 + (45 + j8)), .int (μ7 50 j10), .int x2]) (rest := []) (st1 := [.int v12]) (μ1 := μ14) (ax_dd KX9_kinds 67 rfl) (c_X0_firstOther hs b13) kV_X9_252 e_X0_firstOther (hs 25 _ rfl) cl_X0 (by decide) rfl rfl (by decide) (by decide) (Nat.le_of_ble_eq_true rfl) rfl ?_
      refine ax_iconst (pc := 133) (v := (-1)) (ax_dd KX9_kinds 68 rfl) (by decide) ?_
      by_cases c15 : v12 = (-1)
      · rw [if_pos c15] at h
        refine ax_icmp_ne_f (pc := 134) (tgt := 146) (ax_dd KX9_kinds 69 rfl) (by decide) (fun z => z c15) ?_
        refine ax_iload (pc := 137) (q := 7) (ax_dd KX9_kinds 70 rfl) rfl ?_
        refine ax_iconst (pc := 139) (v := 1) (ax_dd KX9_kinds 71 rfl) (by decide) ?_
        refine ax_iload (pc := 140) (q := 8) (ax_dd KX9_kinds 72 rfl) rfl ?_
        refine ax_ishl (pc := 142) (ax_dd KX9_kinds 73 rfl) ?_
        refine ax_ior (pc := 143) (ax_dd KX9_kinds 74 rfl) ?_
        refine ax_istore (pc := 144) (lv' := [(9, .int (x9 ||| (shI (1 : Int32) x10))), (0, .ref (G.1 + 0)), (1, .int x1), (2, .int x2), (3, .int x3), (6, .ref (G.1 + (x6))), (7, .int x7), (8, .int x8), (10, .int x10)]) (ax_dd KX9_kinds 75 rfl) (by decide) rfl ?_
        refine ax_iinc (pc := 146) (q := 8) (v := (x10 + 1)) (lv' := [(10, .int (x10 + 1)), (9, .int (x9 ||| (shI (1 : Int32) x10))), (0, .ref (G.1 + 0)), (1, .int x1), (2, .int x2), (3, .int x3), (6, .ref (G.1 + (x6))), (7, .int x7), (8, .int x8)]) (ax_dd KX9_kinds 76 rfl) rfl rfl (by decide) rfl ?_
        refine ax_goto (pc := 149) (tgt := 94) (ax_dd KX9_kinds 77 rfl) (by decide) ?_
        refine ax_sub (lv' := [(0, .ref (G.1 + 0)), (1, .int x1), (2, .int x2), (3, .int x3), (6, .ref (G.1 + (x6))), (7, .int x7), (8, .int x8), (9, .int (x9 ||| (shI (1 : Int32) x10))), (10, .int (x10 + 1))]) [2, 3, 4, 5, 6, 7, 8, 1, 0] rfl ?_
        exact ih _ _ _ _ h
      · rw [if_neg c15] at h
        refine ax_icmp_ne_t (pc := 134) (tgt := 146) (ax_dd KX9_kinds 69 rfl) (by decide) c15 ?_
        refine ax_iinc (pc := 146) (q := 8) (v := (x10 + 1)) (lv' := [(10, .int (x10 + 1)), (0, .ref (G.1 + 0)), (1, .int x1), (2, .int x2), (3, .int x3), (6, .ref (G.1 + (x6))), (7, .int x7), (8, .int x8), (9, .int x9)]) (ax_dd KX9_kinds 76 rfl) rfl rfl (by decide) rfl ?_
        refine ax_goto (pc := 149) (tgt := 94) (ax_dd KX9_kinds 77 rfl) (by decide) ?_
        refine ax_sub (lv' := [(0, .ref (G.1 + 0)), (1, .int x1), (2, .int x2), (3, .int x3), (6, .ref (G.1 + (x6))), (7, .int x7), (8, .int x8), (9, .int x9), (10, .int (x10 + 1))]) [1, 2, 3, 4, 5, 6, 7, 8, 0] rfl ?_
        exact ih _ _ _ _ h
def m_X9_kinds_80 (x1 : Int32) (x2 : Int32) (x3 : Int32) (x6 : Nat) (s0 : Int32) (μ : ax_M) : Option (Int32 × ax_M) :=
  (q_ld μ x6 x3).bind fun j1 =>
  m_X9_kinds_94 x1 x2 x3 x6 s0 j1 fu 0 0 μ
set_option maxRecDepth 100000 in
set_option maxHeartbeats 8000000 in
theorem a_X9_kinds_80 {G : ax_G} {l : Launch} {sh : List ax_E} {x1 : Int32} {x2 : Int32} {x3 : Int32} {x6 : Nat} {s0 : Int32} {μ : ax_M} (hs : ∀ (k : Nat) (e : ax_E), SHc[k]? = some e → sh[k]? = some e) {v : Int32 × ax_M} (h : m_X9_kinds_80 x1 x2 x3 x6 s0 μ = some v) : ax_X G l RX9 cX9_kinds 11 (some .int) false 8 (some (.int v.1), sh, v.2) 80 [(0, .ref (G.1 + 0)), (1, .int x1), (2, .int x2), (3, .int x3), (6, .ref (G.1 + (x6)))] [.int s0] sh μ := by
  unfold m_X9_kinds_80 at h
  refine ax_istore (pc := 80) (lv' := [(7, .int s0), (0, .ref (G.1 + 0)), (1, .int x1), (2, .int x2), (3, .int x3), (6, .ref (G.1 + (x6)))]) (ax_dd KX9_kinds 38 rfl) (by decide) rfl ?_
  refine ax_aload (pc := 82) (q := 5) (ax_dd KX9_kinds 39 rfl) rfl ?_
  refine ax_iload_n (pc := 84) (i := 3) (q := 4) (ax_dd KX9_kinds 40 rfl) rfl rfl ?_
  obtain ⟨j1, b2, h⟩ := ob_bind h
  refine ax_qld (pc := 85) (ax_dd KX9_kinds 41 rfl) hs b2 ?_
  refine ax_istore (pc := 86) (lv' := [(8, .int j1), (7, .int s0), (0, .ref (G.1 + 0)), (1, .int x1), (2, .int x2), (3, .int x3), (6, .ref (G.1 + (x6)))]) (ax_dd KX9_kinds 42 rfl) (by decide) rfl ?_
  refine ax_iconst (pc := 88) (v := 0) (ax_dd KX9_kinds 43 rfl) (by decide) ?_
  refine ax_istore (pc := 89) (lv' := [(9, .int 0), (8, .int j1), (7, .int s0), (0, .ref (G.1 + 0)), (1, .int x1), (2, .int x2), (3, .int x3), (6, .ref (G.1 + (x6)))]) (ax_dd KX9_kinds 44 rfl) (by decide) rfl ?_
  refine ax_iconst (pc := 91) (v := 0) (ax_dd KX9_kinds 45 rfl) (by decide) ?_
  refine ax_istore (pc := 92) (lv' := [(10, .int 0), (9, .int 0), (8, .int j1), (7, .int s0), (0, .ref (G.1 + 0)), (1, .int x1), (2, .int x2), (3, .int x3), (6, .ref (G.1 + (x6)))]) (ax_dd KX9_kinds 46 rfl) (by decide) rfl ?_
  refine ax_sub (lv' := [(0, .ref (G.1 + 0)), (1, .int x1), (2, .int x2), (3, .int x3), (6, .ref (G.1 + (x6))), (7, .int s0), (8, .int j1), (9, .int 0), (10, .int 0)]) [4, 5, 6, 7, 8, 3, 2, 1, 0] rfl ?_
  exact a_X9_kinds_94 hs fu _ _ _ _ h
def m_X9_kinds_66 (x1 : Int32) (x2 : Int32) (x3 : Int32) (x4 : Int32) (s0 : Nat) (μ : ax_M) : Option (Int32 × ax_M) :=
  if x4 = 0 then
    m_X9_kinds_80 x1 x2 x3 s0 6 μ
  else
    m_X9_kinds_80 x1 x2 x3 s0 10 μ
set_option maxRecDepth 100000 in
set_option maxHeartbeats 8000000 in
theorem a_X9_kinds_66 {G : ax_G} {l : Launch} {sh : List ax_E} {x1 : Int32} {x2 : Int32} {x3 : Int32} {x4 : Int32} {s0 : Nat} {μ : ax_M} (hs : ∀ (k : Nat) (e : ax_E), SHc[k]? = some e → sh[k]? = some e) {v : Int32 × ax_M} (h : m_X9_kinds_66 x1 x2 x3 x4 s0 μ = some v) : ax_X G l RX9 cX9_kinds 11 (some .int) false 8 (some (.int v.1), sh, v.2) 66 [(0, .ref (G.1 + 0)), (1, .int x1), (2, .int x2), (3, .int x3), (4, .int x4)] [.ref (G.1 + (s0))] sh μ := by
  unfold m_X9_kinds_66 at h
  refine ax_astore (pc := 66) (lv' := [(6, .ref (G.1 + (s0))), (0, .ref (G.1 + 0)), (1, .int x1), (2, .int x2), (3, .int x3), (4, .int x4)]) (ax_dd KX9_kinds 32 rfl) (by decide) rfl ?_
  refine ax_iload (pc := 68) (q := 5) (ax_dd KX9_kinds 33 rfl) rfl ?_
  by_cases c1 : x4 = 0
  · rw [if_pos c1] at h
    refine ax_if_ne_f (pc := 70) (tgt := 78) (ax_dd KX9_kinds 34 rfl) (by decide) (fun z => z c1) ?_
    refine ax_bipush (pc := 73) (v := 6) (ax_dd KX9_kinds 35 rfl) (by decide) ?_
    refine ax_goto (pc := 75) (tgt := 80) (ax_dd KX9_kinds 36 rfl) (by decide) ?_
    refine ax_sub (lv' := [(0, .ref (G.1 + 0)), (1, .int x1), (2, .int x2), (3, .int x3), (6, .ref (G.1 + (s0)))]) [1, 2, 3, 4, 0] rfl ?_
    exact a_X9_kinds_80 hs h
  · rw [if_neg c1] at h
    refine ax_if_ne_t (pc := 70) (tgt := 78) (ax_dd KX9_kinds 34 rfl) (by decide) c1 ?_
    refine ax_bipush (pc := 78) (v := 10) (ax_dd KX9_kinds 37 rfl) (by decide) ?_
    refine ax_sub (lv' := [(0, .ref (G.1 + 0)), (1, .int x1), (2, .int x2), (3, .int x3), (6, .ref (G.1 + (s0)))]) [1, 2, 3, 4, 0] rfl ?_
    exact a_X9_kinds_80 hs h
def m_X9_kinds_44 (x1 : Int32) (x2 : Int32) (x3 : Int32) (x4 : Int32) (μ : ax_M) : Option (Int32 × ax_M) :=
  if x4 = 0 then
    m_X9_kinds_66 x1 x2 x3 x4 26 μ
  else
    m_X9_kinds_66 x1 x2 x3 x4 27 μ
set_option maxRecDepth 100000 in
set_option maxHeartbeats 8000000 in
theorem a_X9_kinds_44 {G : ax_G} {l : Launch} {sh : List ax_E} {x1 : Int32} {x2 : Int32} {x3 : Int32} {x4 : Int32} {μ : ax_M} (hs : ∀ (k : Nat) (e : ax_E), SHc[k]? = some e → sh[k]? = some e) {v : Int32 × ax_M} (h : m_X9_kinds_44 x1 x2 x3 x4 μ = some v) : ax_X G l RX9 cX9_kinds 11 (some .int) false 8 (some (.int v.1), sh, v.2) 44 [(0, .ref (G.1 + 0)), (1, .int x1), (2, .int x2), (3, .int x3), (4, .int x4)] [] sh μ := by
  unfold m_X9_kinds_44 at h
  refine ax_iload (pc := 44) (q := 4) (ax_dd KX9_kinds 23 rfl) rfl ?_
  by_cases c1 : x4 = 0
  · rw [if_pos c1] at h
    refine ax_if_ne_f (pc := 46) (tgt := 59) (ax_dd KX9_kinds 24 rfl) (by decide) (fun z => z c1) ?_
    refine ax_aload_n (pc := 49) (i := 0) (q := 0) (ax_dd KX9_kinds 25 rfl) rfl rfl ?_
    refine ax_getR (pc := 50) (k := 0) (q := 25) (ax_dd KX9_kinds 26 rfl) f_X9_37 (hs 0 _ rfl) rfl ?_
    refine ax_getR (pc := 53) (k := 25) (q := 26) (ax_dd KX9_kinds 27 rfl) f_X9_145 (hs 25 _ rfl) rfl ?_
    refine ax_goto (pc := 56) (tgt := 66) (ax_dd KX9_kinds 28 rfl) (by decide) ?_
    exact a_X9_kinds_66 hs h
  · rw [if_neg c1] at h
    refine ax_if_ne_t (pc := 46) (tgt := 59) (ax_dd KX9_kinds 24 rfl) (by decide) c1 ?_
    refine ax_aload_n (pc := 59) (i := 0) (q := 0) (ax_dd KX9_kinds 29 rfl) rfl rfl ?_
    refine ax_getR (pc := 60) (k := 0) (q := 25) (ax_dd KX9_kinds 30 rfl) f_X9_37 (hs 0 _ rfl) rfl ?_
    refine ax_getR (pc := 63) (k := 25) (q := 27) (ax_dd KX9_kinds 31 rfl) f_X9_148 (hs 25 _ rfl) rfl ?_
    exact a_X9_kinds_66 hs h
def m_X9_kinds (x1 : Int32) (x2 : Int32) (x3 : Int32) (x4 : Int32) (μ : ax_M) : Option (Int32 × ax_M) :=
  (m_X9_refusesFines x1 x2 μ).bind fun v1 =>
  if v1 = 0 then
    (m_X0_isRug x3 μ).bind fun v4 =>
    if v4 = 0 then
      some ((-6), μ)
    else
      if x4 = 0 then
        m_X9_kinds_44 x1 x2 x3 x4 μ
      else
        if x4 = 1 then
          m_X9_kinds_44 x1 x2 x3 x4 μ
        else
          some ((-7), μ)
  else
    some (v1, μ)
set_option maxRecDepth 100000 in
set_option maxHeartbeats 8000000 in
theorem c_X9_kinds {G : ax_G} {l : Launch} {sh : List ax_E} {x1 : Int32} {x2 : Int32} {x3 : Int32} {x4 : Int32} {μ : ax_M} (hs : ∀ (k : Nat) (e : ax_E), SHc[k]? = some e → sh[k]? = some e) {v : Int32 × ax_M} (h : m_X9_kinds x1 x2 x3 x4 μ = some v) : ax_A G l yX9_kinds cX9_kinds 11 (some .int) 8 [.ref (G.1 + 0), .int x1, .int x2, .int x3, .int x4] sh μ (some (.int v.1), sh, v.2) := by
  refine ax_A.of false (by decide +kernel) (fun h9 => by cases h9) (Nat.le_of_ble_eq_true rfl) (?_ : ax_X G l RX9 cX9_kinds 11 (some .int) false 8 (some (.int v.1), sh, v.2) 0 [(0, .ref (G.1 + 0)), (1, .int x1), (2, .int x2), (3, .int x3), (4, .int x4)] [] sh μ)
  unfold m_X9_kinds at h
  refine ax_aload_n (pc := 0) (i := 0) (q := 0) (ax_dd KX9_kinds 0 rfl) rfl rfl ?_
  refine ax_iload_n (pc := 1) (i := 1) (q := 1) (ax_dd KX9_kinds 1 rfl) rfl rfl ?_
  refine ax_iload_n (pc := 2) (i := 2) (q := 2) (ax_dd KX9_kinds 2 rfl) rfl rfl ?_
  obtain ⟨v1, b2, h⟩ := ob_bind h
  refine ax_kV (pc := 3) (ci := 9) (k := 0) (As := [.int x1, .int x2]) (rest := []) (st1 := [.int v1]) (μ1 := μ) (ax_dd KX9_kinds 3 rfl) (c_X9_refusesFines hs b2) kV_X9_244 e_X9_refusesFines (hs 0 _ rfl) cl_X9 (by decide) rfl rfl (by decide) (by decide) (Nat.le_of_ble_eq_true rfl) rfl ?_
  refine ax_istore (pc := 6) (lv' := [(5, .int v1), (0, .ref (G.1 + 0)), (1, .int x1), (2, .int x2), (3, .int x3), (4, .int x4)]) (ax_dd KX9_kinds 4 rfl) (by decide) rfl ?_
  refine ax_iload (pc := 8) (q := 0) (ax_dd KX9_kinds 5 rfl) rfl ?_
  by_cases c3 : v1 = 0
  · rw [if_pos c3] at h
    refine ax_if_eq_t (pc := 10) (tgt := 16) (ax_dd KX9_kinds 6 rfl) (by decide) c3 ?_
    refine ax_aload_n (pc := 16) (i := 0) (q := 1) (ax_dd KX9_kinds 9 rfl) rfl rfl ?_
    refine ax_getR (pc := 17) (k := 0) (q := 25) (ax_dd KX9_kinds 10 rfl) f_X9_37 (hs 0 _ rfl) rfl ?_
    refine ax_iload_n (pc := 20) (i := 3) (q := 4) (ax_dd KX9_kinds 11 rfl) rfl rfl ?_
    obtain ⟨v4, b5, h⟩ := ob_bind h
    refine ax_kV (pc := 21) (ci := 0) (k := 25) (As := [.int x3]) (rest := []) (st1 := [.int v4]) (μ1 := μ) (ax_dd KX9_kinds 12 rfl) (c_X0_isRug hs b5) kV_X9_117 e_X0_isRug (hs 25 _ rfl) cl_X0 (by decide) rfl rfl (by decide) (by decide) (Nat.le_of_ble_eq_true rfl) rfl ?_
    by_cases c6 : v4 = 0
    · rw [if_pos c6] at h
      refine ax_if_ne_f (pc := 24) (tgt := 30) (ax_dd KX9_kinds 13 rfl) (by decide) (fun z => z c6) ?_
      refine ax_bipush (pc := 27) (v := (-6)) (ax_dd KX9_kinds 14 rfl) (by decide) ?_
      obtain rfl := Option.some.inj h
      exact ax_ireti (pc := 29) (ax_dd KX9_kinds 15 rfl) ⟨_, rfl, rfl⟩ rfl
    · rw [if_neg c6] at h
      refine ax_if_ne_t (pc := 24) (tgt := 30) (ax_dd KX9_kinds 13 rfl) (by decide) c6 ?_
      refine ax_iload (pc := 30) (q := 5) (ax_dd KX9_kinds 16 rfl) rfl ?_
      by_cases c7 : x4 = 0
      · rw [if_pos c7] at h
        refine ax_if_eq_t (pc := 32) (tgt := 44) (ax_dd KX9_kinds 17 rfl) (by decide) c7 ?_
        refine ax_sub (lv' := [(0, .ref (G.1 + 0)), (1, .int x1), (2, .int x2), (3, .int x3), (4, .int x4)]) [1, 2, 3, 4, 5] rfl ?_
        exact a_X9_kinds_44 hs h
      · rw [if_neg c7] at h
        refine ax_if_eq_f (pc := 32) (tgt := 44) (ax_dd KX9_kinds 17 rfl) (by decide) c7 ?_
        refine ax_iload (pc := 35) (q := 5) (ax_dd KX9_kinds 18 rfl) rfl ?_
        refine ax_iconst (pc := 37) (v := 1) (ax_dd KX9_kinds 19 rfl) (by decide) ?_
        by_cases c8 : x4 = 1
        · rw [if_pos c8] at h
          refine ax_icmp_eq_t (pc := 38) (tgt := 44) (ax_dd KX9_kinds 20 rfl) (by decide) c8 ?_
          refine ax_sub (lv' := [(0, .ref (G.1 + 0)), (1, .int x1), (2, .int x2), (3, .int x3), (4, .int x4)]) [1, 2, 3, 4, 5] rfl ?_
          exact a_X9_kinds_44 hs h
        · rw [if_neg c8] at h
          refine ax_icmp_eq_f (pc := 38) (tgt := 44) (ax_dd KX9_kinds 20 rfl) (by decide) c8 ?_
          refine ax_bipush (pc := 41) (v := (-7)) (ax_dd KX9_kinds 21 rfl) (by decide) ?_
          obtain rfl := Option.some.inj h
          exact ax_ireti (pc := 43) (ax_dd KX9_kinds 22 rfl) ⟨_, rfl, rfl⟩ rfl
  · rw [if_neg c3] at h
    refine ax_if_eq_f (pc := 10) (tgt := 16) (ax_dd KX9_kinds 6 rfl) (by decide) c3 ?_
    refine ax_iload (pc := 13) (q := 0) (ax_dd KX9_kinds 7 rfl) rfl ?_
    obtain rfl := Option.some.inj h
    exact ax_ireti (pc := 15) (ax_dd KX9_kinds 8 rfl) ⟨_, rfl, rfl⟩ rfl
def m_X9_crowds_65 (x1 : Int32) (x2 : Int32) (x3 : Int32) (x4 : Int32) (x6 : Int32) : Nat → Int32 → Int32 → Int32 → ax_M → Option (Int32 × ax_M)
  | 0, _, _, _, _ => none
  | n + 1, x7, x8, x9, μ =>
    if x9 < 0 then
      (ix 6 x3).bind fun j2 =>
      if x4 = 0 then
        some (x7, ax_w μ 31 j2 x6)
      else
        some (x8, ax_w μ 31 j2 x6)
    else
      (ix 6 x3).bind fun j5 =>
      (ix 4 x1).bind fun j7 =>
      (ix 4 x1).bind fun j9 =>
      bind2 (m_X0_firstOther (45 + j7) ((ax_w μ 31 j5 x9) 50 j9) x2 (ax_w μ 31 j5 x9)) fun v11 μ13 =>
      if v11 = (-1) then
        m_X9_crowds_65 x1 x2 x3 x4 x6 n (x7 + 1) x9 (x9 + (-1)) μ13
      else
        m_X9_crowds_65 x1 x2 x3 x4 x6 n x7 x8 (x9 + (-1)) μ13
set_option maxRecDepth 100000 in
set_option maxHeartbeats 8000000 in
theorem a_X9_crowds_65 {G : ax_G} {l : Launch} {sh : List ax_E} {x1 : Int32} {x2 : Int32} {x3 : Int32} {x4 : Int32} {x6 : Int32} (hs : ∀ (k : Nat) (e : ax_E), SHc[k]? = some e → sh[k]? = some e) : ∀ (n : Nat) (x7 : Int32) (x8 : Int32) (x9 : Int32) (μ : ax_M) (v : Int32 × ax_M), m_X9_crowds_65 x1 x2 x3 x4 x6 n x7 x8 x9 μ = some v → ax_X G l RX9 cX9_crowds 10 (some .int) false 8 (some (.int v.1), sh, v.2) 65 [(0, .ref (G.1 + 0)), (1, .int x1), (2, .int x2), (3, .int x3), (4, .int x4), (6, .int x6), (7, .int x7), (8, .int x8), (9, .int x9)] [] sh μ := by
  intro n
  induction n with
  | zero =>
    intro x7 x8 x9 μ v h
    rw [m_X9_crowds_65] at h
    cases h
  | succ n ih =>
    intro x7 x8 x9 μ v h
    rw [m_X9_crowds_65] at h
    refine ax_iload (pc := 65) (q := 8) (ax_dd KX9_crowds 35 rfl) rfl ?_
    by_cases c1 : x9 < 0
    · rw [if_pos c1] at h
      refine ax_if_lt_t (pc := 67) (tgt := 124) (ax_dd KX9_crowds 36 rfl) (by decide) c1 ?_
      refine ax_aload_n (pc := 124) (i := 0) (q := 0) (ax_dd KX9_crowds 64 rfl) rfl rfl ?_
      refine ax_getR (pc := 125) (k := 0) (q := 25) (ax_dd KX9_crowds 65 rfl) f_X9_37 (hs 0 _ rfl) rfl ?_
      refine ax_getR (pc := 128) (k := 25) (q := 31) (ax_dd KX9_crowds 66 rfl) f_X9_141 (hs 25 _ rfl) rfl ?_
      refine ax_iload_n (pc := 131) (i := 3) (q := 3) (ax_dd KX9_crowds 67 rfl) rfl rfl ?_
      refine ax_iload (pc := 132) (q := 5) (ax_dd KX9_crowds 68 rfl) rfl ?_
      obtain ⟨j2, b3, h⟩ := ob_bind h
      refine ax_ist (pc := 134) (k := 31) (N := 6) (j := j2) (ax_dd KX9_crowds 69 rfl) (hs 31 _ rfl) b3 ?_
      refine ax_iload (pc := 135) (q := 4) (ax_dd KX9_crowds 70 rfl) rfl ?_
      by_cases c4 : x4 = 0
      · rw [if_pos c4] at h
        refine ax_if_ne_f (pc := 137) (tgt := 145) (ax_dd KX9_crowds 71 rfl) (by decide) (fun z => z c4) ?_
        refine ax_iload (pc := 140) (q := 6) (ax_dd KX9_crowds 72 rfl) rfl ?_
        refine ax_goto (pc := 142) (tgt := 147) (ax_dd KX9_crowds 73 rfl) (by decide) ?_
        obtain rfl := Option.some.inj h
        exact ax_ireti (pc := 147) (ax_dd KX9_crowds 75 rfl) ⟨_, rfl, rfl⟩ rfl
      · rw [if_neg c4] at h
        refine ax_if_ne_t (pc := 137) (tgt := 145) (ax_dd KX9_crowds 71 rfl) (by decide) c4 ?_
        refine ax_iload (pc := 145) (q := 7) (ax_dd KX9_crowds 74 rfl) rfl ?_
        obtain rfl := Option.some.inj h
        exact ax_ireti (pc := 147) (ax_dd KX9_crowds 75 rfl) ⟨_, rfl, rfl⟩ rfl
    · rw [if_neg c1] at h
      refine ax_if_lt_f (pc := 67) (tgt := 124) (ax_dd KX9_crowds 36 rfl) (by decide) c1 ?_
      refine ax_aload_n (pc := 70) (i := 0) (q := 0) (ax_dd KX9_crowds 37 rfl) rfl rfl ?_
      refine ax_getR (pc := 71) (k := 0) (q := 25) (ax_dd KX9_crowds 38 rfl) f_X9_37 (hs 0 _ rfl) rfl ?_
      refine ax_getR (pc := 74) (k := 25) (q := 31) (ax_dd KX9_crowds 39 rfl) f_X9_141 (hs 25 _ rfl) rfl ?_
      refine ax_iload_n (pc := 77) (i := 3) (q := 3) (ax_dd KX9_crowds 40 rfl) rfl rfl ?_
      refine ax_iload (pc := 78) (q := 8) (ax_dd KX9_crowds 41 rfl) rfl ?_
      obtain ⟨j5, b6, h⟩ := ob_bind h
      refine ax_ist (pc := 80) (k := 31) (N := 6) (j := j5) (ax_dd KX9_crowds 42 rfl) (hs 31 _ rfl) b6 ?_
      refine ax_aload_n (pc := 81) (i := 0) (q := 0) (ax_dd KX9_crowds 43 rfl) rfl rfl ?_
      refine ax_getR (pc := 82) (k := 0) (q := 25) (ax_dd KX9_crowds 44 rfl) f_X9_37 (hs 0 _ rfl) rfl ?_
      refine ax_aload_n (pc := 85) (i := 0) (q := 0) (ax_dd KX9_crowds 45 rfl) rfl rfl ?_
      refine ax_getR (pc := 86) (k := 0) (q := 43) (ax_dd KX9_crowds 46 rfl) f_X9_74 (hs 0 _ rfl) rfl ?_
      refine ax_getR (pc := 89) (k := 43) (q := 44) (ax_dd KX9_crowds 47 rfl) f_X9_247 (hs 43 _ rfl) rfl ?_
      refine ax_iload_n (pc := 92) (i := 1) (q := 1) (ax_dd KX9_crowds 48 rfl) rfl rfl ?_
      obtain ⟨j7, b8, h⟩ := ob_bind h
      refine ax_ald (pc := 93) (k := 44) (b0 := 45) (N := 4) (j := j7) (ax_dd KX9_crowds 49 rfl) (hs 44 _ rfl) b8 ?_
      refine ax_aload_n (pc := 94) (i := 0) (q := 0) (ax_dd KX9_crowds 50 rfl) rfl rfl ?_
      refine ax_getR (pc := 95) (k := 0) (q := 43) (ax_dd KX9_crowds 51 rfl) f_X9_74 (hs 0 _ rfl) rfl ?_
      refine ax_getR (pc := 98) (k := 43) (q := 50) (ax_dd KX9_crowds 52 rfl) f_X9_251 (hs 43 _ rfl) rfl ?_
      refine ax_iload_n (pc := 101) (i := 1) (q := 1) (ax_dd KX9_crowds 53 rfl) rfl rfl ?_
      obtain ⟨j9, b10, h⟩ := ob_bind h
      refine ax_ild (pc := 102) (k := 50) (N := 4) (j := j9) (ax_dd KX9_crowds 54 rfl) (hs 50 _ rfl) b10 ?_
      refine ax_iload_n (pc := 103) (i := 2) (q := 2) (ax_dd KX9_crowds 55 rfl) rfl rfl ?_
      obtain ⟨v11, μ13, b12, h⟩ := ob_bind2 h
      refine ax_kV (pc := 104) (ci := 0) (k := 25) (As := [.ref (G.1 + (45 + j7)), .int ((ax_w μ 31 j5 x9) 50 j9), .int x2]) (rest := []) (st1 := [.int v11]) (μ1 := μ13) (ax_dd KX9_crowds 56 rfl) (c_X0_firstOther hs b12) kV_X9_252 e_X0_firstOther (hs 25 _ rfl) cl_X0 (by decide) rfl rfl (by decide) (by decide) (Nat.le_of_ble_eq_true rfl) rfl ?_
      refine ax_iconst (pc := 107) (v := (-1)) (ax_dd KX9_crowds 57 rfl) (by decide) ?_
      by_cases c14 : v11 = (-1)
      · rw [if_pos c14] at h
        refine ax_icmp_ne_f (pc := 108) (tgt := 118) (ax_dd KX9_crowds 58 rfl) (by decide) (fun z => z c14) ?_
        refine ax_iinc (pc := 111) (q := 6) (v := (x7 + 1)) (lv' := [(7, .int (x7 + 1)), (0, .ref (G.1 + 0)), (1, .int x1), (2, .int x2), (3, .int x3), (4, .int x4), (6, .int x6), (8, .int x8), (9, .int x9)]) (ax_dd KX9_crowds 59 rfl) rfl rfl (by decide) rfl ?_
        refine ax_iload (pc := 114) (q := 8) (ax_dd KX9_crowds 60 rfl) rfl ?_
        refine ax_istore (pc := 116) (lv' := [(8, .int x9), (7, .int (x7 + 1)), (0, .ref (G.1 + 0)), (1, .int x1), (2, .int x2), (3, .int x3), (4, .int x4), (6, .int x6), (9, .int x9)]) (ax_dd KX9_crowds 61 rfl) (by decide) rfl ?_
        refine ax_iinc (pc := 118) (q := 8) (v := (x9 + (-1))) (lv' := [(9, .int (x9 + (-1))), (8, .int x9), (7, .int (x7 + 1)), (0, .ref (G.1 + 0)), (1, .int x1), (2, .int x2), (3, .int x3), (4, .int x4), (6, .int x6)]) (ax_dd KX9_crowds 62 rfl) rfl rfl (by decide) rfl ?_
        refine ax_goto (pc := 121) (tgt := 65) (ax_dd KX9_crowds 63 rfl) (by decide) ?_
        refine ax_sub (lv' := [(0, .ref (G.1 + 0)), (1, .int x1), (2, .int x2), (3, .int x3), (4, .int x4), (6, .int x6), (7, .int (x7 + 1)), (8, .int x9), (9, .int (x9 + (-1)))]) [3, 4, 5, 6, 7, 8, 2, 1, 0] rfl ?_
        exact ih _ _ _ _ _ h
      · rw [if_neg c14] at h
        refine ax_icmp_ne_t (pc := 108) (tgt := 118) (ax_dd KX9_crowds 58 rfl) (by decide) c14 ?_
        refine ax_iinc (pc := 118) (q := 8) (v := (x9 + (-1))) (lv' := [(9, .int (x9 + (-1))), (0, .ref (G.1 + 0)), (1, .int x1), (2, .int x2), (3, .int x3), (4, .int x4), (6, .int x6), (7, .int x7), (8, .int x8)]) (ax_dd KX9_crowds 62 rfl) rfl rfl (by decide) rfl ?_
        refine ax_goto (pc := 121) (tgt := 65) (ax_dd KX9_crowds 63 rfl) (by decide) ?_
        refine ax_sub (lv' := [(0, .ref (G.1 + 0)), (1, .int x1), (2, .int x2), (3, .int x3), (4, .int x4), (6, .int x6), (7, .int x7), (8, .int x8), (9, .int (x9 + (-1)))]) [1, 2, 3, 4, 5, 6, 7, 8, 0] rfl ?_
        exact ih _ _ _ _ _ h
