def m_J0_coder_7d493 (i : Nat) : Option (Int32) :=
  some 0
set_option maxRecDepth 100000 in
set_option maxHeartbeats 8000000 in
theorem c_J0_coder_7d493 {G : ax_G} {l : Launch} {sh : List ax_E} {i : Nat} {μ : ax_M} (hi : i < ax_strs.length) {v : Int32} (h : m_J0_coder_7d493 i = some v) : ax_A G l yJ0_coder_7d493 cJ0_coder_7d493 1 (some .byte) 2 [.ref (G.2.2.2.1 (i))] sh μ (some (.int v), sh, μ) := by
  refine ax_A.of false (by decide +kernel) (fun h9 => by cases h9) (Nat.le_of_ble_eq_true rfl) (?_ : ax_X G l RJ0 cJ0_coder_7d493 1 (some .byte) false 2 (some (.int v), sh, μ) 0 [(0, .ref (G.2.2.2.1 (i)))] [] sh μ)
  unfold m_J0_coder_7d493 at h
  refine ax_gets1 (pc := 0) (ax_dd KJ0_coder_7d493 0 rfl) w_J0_38 ?_
  refine ax_if_eq_f (pc := 3) (tgt := 13) (ax_dd KJ0_coder_7d493 1 rfl) (by decide) (by decide) ?_
  refine ax_aload_n (pc := 6) (i := 0) (q := 0) (ax_dd KJ0_coder_7d493 2 rfl) rfl rfl ?_
  refine ax_sgetf (pc := 7) (i := i) (ax_dd KJ0_coder_7d493 3 rfl) hi w_J0_15 (Or.inl ⟨rfl, rfl, rfl⟩) ?_
  refine ax_goto (pc := 10) (tgt := 14) (ax_dd KJ0_coder_7d493 4 rfl) (by decide) ?_
  obtain rfl := Option.some.inj h
  exact ax_ireti (pc := 14) (ax_dd KJ0_coder_7d493 6 rfl) ⟨_, rfl, rfl⟩ rfl
def m_J0_length_8abf5 (i : Nat) : Option (Int32) :=
  (m_J0_coder_7d493 i).bind fun v1 =>
  some (srI (Int32.ofNat (ax_len.getD i 0)) v1)
set_option maxRecDepth 100000 in
set_option maxHeartbeats 8000000 in
theorem c_J0_length_8abf5 {G : ax_G} {l : Launch} {sh : List ax_E} {i : Nat} {μ : ax_M} (hi : i < ax_strs.length) {v : Int32} (h : m_J0_length_8abf5 i = some v) : ax_A G l yJ0_length_8abf5 cJ0_length_8abf5 1 (some .int) 3 [.ref (G.2.2.2.1 (i))] sh μ (some (.int v), sh, μ) := by
  refine ax_A.of false (by decide +kernel) (fun h9 => by cases h9) (Nat.le_of_ble_eq_true rfl) (?_ : ax_X G l RJ0 cJ0_length_8abf5 1 (some .int) false 3 (some (.int v), sh, μ) 0 [(0, .ref (G.2.2.2.1 (i)))] [] sh μ)
  unfold m_J0_length_8abf5 at h
  refine ax_aload_n (pc := 0) (i := 0) (q := 0) (ax_dd KJ0_length_8abf5 0 rfl) rfl rfl ?_
  refine ax_sgetf (pc := 1) (i := i) (ax_dd KJ0_length_8abf5 1 rfl) hi w_J0_9 (Or.inr ⟨rfl, rfl, rfl⟩) ?_
  refine ax_slen (pc := 4) (ax_dd KJ0_length_8abf5 2 rfl) hi rfl ?_
  refine ax_aload_n (pc := 5) (i := 0) (q := 0) (ax_dd KJ0_length_8abf5 3 rfl) rfl rfl ?_
  obtain ⟨v1, b2, h⟩ := ob_bind h
  refine ax_kVS (pc := 6) (i := i) (As := []) (rest := [.int (Int32.ofNat (ax_len.getD i 0))]) (st1 := [.int v1, .int (Int32.ofNat (ax_len.getD i 0))]) (μ1 := μ) (ax_dd KJ0_length_8abf5 4 rfl) (c_J0_coder_7d493 hi b2) hi kV_J0_335 e_J0_coder_7d493 rfl rfl rfl (by decide) (by decide) (Nat.le_of_ble_eq_true rfl) rfl ?_
  refine ax_ishr (pc := 9) (ax_dd KJ0_length_8abf5 5 rfl) ?_
  obtain rfl := Option.some.inj h
  exact ax_ireti (pc := 10) (ax_dd KJ0_length_8abf5 6 rfl) ⟨_, rfl, rfl⟩ rfl
def m_J0_isLatin1_aae02 (i : Nat) : Option (Int32) :=
  some 1
set_option maxRecDepth 100000 in
set_option maxHeartbeats 8000000 in
theorem c_J0_isLatin1_aae02 {G : ax_G} {l : Launch} {sh : List ax_E} {i : Nat} {μ : ax_M} (hi : i < ax_strs.length) {v : Int32} (h : m_J0_isLatin1_aae02 i = some v) : ax_A G l yJ0_isLatin1_aae02 cJ0_isLatin1_aae02 1 (some .boolean) 2 [.ref (G.2.2.2.1 (i))] sh μ (some (.int v), sh, μ) := by
  refine ax_A.of false (by decide +kernel) (fun h9 => by cases h9) (Nat.le_of_ble_eq_true rfl) (?_ : ax_X G l RJ0 cJ0_isLatin1_aae02 1 (some .boolean) false 2 (some (.int v), sh, μ) 0 [(0, .ref (G.2.2.2.1 (i)))] [] sh μ)
  unfold m_J0_isLatin1_aae02 at h
  refine ax_gets1 (pc := 0) (ax_dd KJ0_isLatin1_aae02 0 rfl) w_J0_38 ?_
  refine ax_if_eq_f (pc := 3) (tgt := 17) (ax_dd KJ0_isLatin1_aae02 1 rfl) (by decide) (by decide) ?_
  refine ax_aload_n (pc := 6) (i := 0) (q := 0) (ax_dd KJ0_isLatin1_aae02 2 rfl) rfl rfl ?_
  refine ax_sgetf (pc := 7) (i := i) (ax_dd KJ0_isLatin1_aae02 3 rfl) hi w_J0_15 (Or.inl ⟨rfl, rfl, rfl⟩) ?_
  refine ax_if_ne_f (pc := 10) (tgt := 17) (ax_dd KJ0_isLatin1_aae02 4 rfl) (by decide) (by decide) ?_
  refine ax_iconst (pc := 13) (v := 1) (ax_dd KJ0_isLatin1_aae02 5 rfl) (by decide) ?_
  refine ax_goto (pc := 14) (tgt := 18) (ax_dd KJ0_isLatin1_aae02 6 rfl) (by decide) ?_
  obtain rfl := Option.some.inj h
  exact ax_ireti (pc := 18) (ax_dd KJ0_isLatin1_aae02 8 rfl) ⟨_, rfl, rfl⟩ rfl
def m_J3_checkIndex_8e157 (x0 x1 : Int32) : Option Int32 := if x0 < 0 ∨ ¬ x0 < x1 then none else some x0
set_option maxRecDepth 100000 in
theorem c_J3_checkIndex_8e157 {G : ax_G} {l : Launch} {sh : List ax_E} {x0 x1 : Int32} {w : Value} (hw : w = .null ∨ ∃ a, w = .ref a) {μ : ax_M} {v : Int32} (h : m_J3_checkIndex_8e157 x0 x1 = some v) : ax_A G l yJ3_checkIndex_8e157 cJ3_checkIndex_8e157 3 (some .int) 2 [.int x0, .int x1, w] sh μ (some (.int v), sh, μ) := by
  unfold m_J3_checkIndex_8e157 at h
  by_cases c : x0 < 0 ∨ ¬ x0 < x1
  · rw [if_pos c] at h
    cases h
  rw [if_neg c] at h
  cases h
  have c1 : ¬ x0 < 0 := fun z => c (Or.inl z)
  have c2 : x0 < x1 := Decidable.byContradiction fun z => c (Or.inr z)
  have hl : (lg_sl [.int x0, .int x1, w]).length ≤ 3 := by rcases hw with rfl | ⟨a, rfl⟩ <;> exact Nat.le_of_ble_eq_true rfl
  refine ax_A.of false (by decide +kernel) (fun h9 => by cases h9) hl (?_ : ax_X G l RJ3 cJ3_checkIndex_8e157 3 (some .int) false 2 (some (.int x0), sh, μ) 0 [(0, .int x0), (1, .int x1), (2, w)] [] sh μ)
  refine ax_iload_n (pc := 0) (i := 0) (q := 0) (ax_dd KJ3_checkIndex_8e157 0 rfl) rfl rfl ?_
  refine ax_if_lt_f (pc := 1) (tgt := 9) (ax_dd KJ3_checkIndex_8e157 1 rfl) (by decide) c1 ?_
  refine ax_iload_n (pc := 4) (i := 0) (q := 0) (ax_dd KJ3_checkIndex_8e157 2 rfl) rfl rfl ?_
  refine ax_iload_n (pc := 5) (i := 1) (q := 1) (ax_dd KJ3_checkIndex_8e157 3 rfl) rfl rfl ?_
  refine ax_icmp_lt_t (pc := 6) (tgt := 16) (ax_dd KJ3_checkIndex_8e157 4 rfl) (by decide) c2 ?_
  refine ax_iload_n (pc := 16) (i := 0) (q := 0) (ax_dd KJ3_checkIndex_8e157 10 rfl) rfl rfl ?_
  exact ax_ireti (pc := 17) (ax_dd KJ3_checkIndex_8e157 11 rfl) ⟨_, rfl, rfl⟩ rfl
def m_J0_checkIndex_df160 (x0 x1 : Int32) : Option Unit := (m_J3_checkIndex_8e157 x0 x1).bind fun _ => some ()
set_option maxRecDepth 100000 in
theorem c_J0_checkIndex_df160 {G : ax_G} {l : Launch} {sh : List ax_E} {x0 x1 : Int32} {μ : ax_M} {v : Unit} (h : m_J0_checkIndex_df160 x0 x1 = some v) : ax_A G l yJ0_checkIndex_df160 cJ0_checkIndex_df160 2 none 3 [.int x0, .int x1] sh μ (none, sh, μ) := by
  unfold m_J0_checkIndex_df160 at h
  obtain ⟨v1, b1, h⟩ := ob_bind h
  refine ax_A.of false (by decide +kernel) (fun h9 => by cases h9) (Nat.le_of_ble_eq_true rfl) (?_ : ax_X G l RJ0 cJ0_checkIndex_df160 2 none false 3 (none, sh, μ) 0 [(0, .int x0), (1, .int x1)] [] sh μ)
  refine ax_iload_n (pc := 0) (i := 0) (q := 0) (ax_dd KJ0_checkIndex_df160 0 rfl) rfl rfl ?_
  refine ax_iload_n (pc := 1) (i := 1) (q := 1) (ax_dd KJ0_checkIndex_df160 1 rfl) rfl rfl ?_
  refine ax_gets2 (pc := 2) (ax_dd KJ0_checkIndex_df160 2 rfl) w_J0_1053 ⟨Nat.le_refl _, Nat.le_refl _⟩ (fun w hw => ?_)
  refine ax_kS (pc := 5) (As := [.int x0, .int x1, w]) (rest := []) (st1 := [.int v1]) (μ1 := μ) (ax_dd KJ0_checkIndex_df160 3 rfl) (c_J3_checkIndex_8e157 hw b1) kS_J0_1059 e_J3_checkIndex_8e157 rfl rfl (by decide) (by decide) (Nat.le_of_ble_eq_true rfl) rfl ?_
  refine ax_pop (pc := 8) (ax_dd KJ0_checkIndex_df160 4 rfl) rfl ?_
  exact ax_vret (pc := 9) (ax_dd KJ0_checkIndex_df160 5 rfl) rfl rfl

def m_J1_charAt_3b067 (i : Nat) (x1 : Int32) : Option (Int32) :=
  (m_J0_checkIndex_df160 x1 (Int32.ofNat (ax_len.getD i 0))).bind fun _ =>
  (ix (ax_len.getD i 0) x1).bind fun j3 =>
  if vp_nar .char (((((ax_byt.getD i []).getD j3 0) &&& 255).toUInt32 % 65536).toInt32) = ((((ax_byt.getD i []).getD j3 0) &&& 255).toUInt32 % 65536).toInt32 then
    some (((((ax_byt.getD i []).getD j3 0) &&& 255).toUInt32 % 65536).toInt32)
  else
    none
set_option maxRecDepth 100000 in
set_option maxHeartbeats 8000000 in
theorem c_J1_charAt_3b067 {G : ax_G} {l : Launch} {sh : List ax_E} {i : Nat} {x1 : Int32} {μ : ax_M} (hi : i < ax_strs.length) {v : Int32} (h : m_J1_charAt_3b067 i x1 = some v) : ax_A G l yJ1_charAt_3b067 cJ1_charAt_3b067 2 (some .char) 4 [.ref (G.2.2.2.2.1 (i)), .int x1] sh μ (some (.int v), sh, μ) := by
  refine ax_A.of false (by decide +kernel) (fun h9 => by cases h9) (Nat.le_of_ble_eq_true rfl) (?_ : ax_X G l RJ1 cJ1_charAt_3b067 2 (some .char) false 4 (some (.int v), sh, μ) 0 [(0, .ref (G.2.2.2.2.1 (i))), (1, .int x1)] [] sh μ)
  unfold m_J1_charAt_3b067 at h
  refine ax_iload_n (pc := 0) (i := 1) (q := 1) (ax_dd KJ1_charAt_3b067 0 rfl) rfl rfl ?_
  refine ax_aload_n (pc := 1) (i := 0) (q := 0) (ax_dd KJ1_charAt_3b067 1 rfl) rfl rfl ?_
  refine ax_slen (pc := 2) (ax_dd KJ1_charAt_3b067 2 rfl) hi rfl ?_
  obtain ⟨v1, b2, h⟩ := ob_bind h
  refine ax_kS (pc := 3) (As := [.int x1, .int (Int32.ofNat (ax_len.getD i 0))]) (rest := []) (st1 := []) (μ1 := μ) (ax_dd KJ1_charAt_3b067 3 rfl) (c_J0_checkIndex_df160 b2) kS_J1_9 e_J0_checkIndex_df160 rfl rfl (by decide) (by decide) (Nat.le_of_ble_eq_true rfl) rfl ?_
  refine ax_aload_n (pc := 6) (i := 0) (q := 0) (ax_dd KJ1_charAt_3b067 4 rfl) rfl rfl ?_
  refine ax_iload_n (pc := 7) (i := 1) (q := 1) (ax_dd KJ1_charAt_3b067 5 rfl) rfl rfl ?_
  obtain ⟨j3, b4, h⟩ := ob_bind h
  refine ax_sbl (pc := 8) (j := j3) (ax_dd KJ1_charAt_3b067 6 rfl) hi b4 ?_
  refine ax_sipush (pc := 9) (v := 255) (ax_dd KJ1_charAt_3b067 7 rfl) (by decide) ?_
  refine ax_iand (pc := 12) (ax_dd KJ1_charAt_3b067 8 rfl) ?_
  refine ax_i2c (pc := 13) (ax_dd KJ1_charAt_3b067 9 rfl) ?_
  by_cases c5 : vp_nar .char (((((ax_byt.getD i []).getD j3 0) &&& 255).toUInt32 % 65536).toInt32) = ((((ax_byt.getD i []).getD j3 0) &&& 255).toUInt32 % 65536).toInt32
  · rw [if_pos c5] at h
    obtain rfl := Option.some.inj h
    exact ax_ireti (pc := 14) (ax_dd KJ1_charAt_3b067 10 rfl) ⟨_, rfl, ax_nn rfl c5⟩ rfl
  · rw [if_neg c5] at h
    cases h
def m_J0_charAt_5068e (i : Nat) (x1 : Int32) : Option (Int32) :=
  (m_J0_isLatin1_aae02 i).bind fun v1 =>
  if v1 = 0 then
    none
  else
    (m_J1_charAt_3b067 i x1).bind fun v4 =>
    if vp_nar .char v4 = v4 then
      some v4
    else
      none
set_option maxRecDepth 100000 in
set_option maxHeartbeats 8000000 in
theorem c_J0_charAt_5068e {G : ax_G} {l : Launch} {sh : List ax_E} {i : Nat} {x1 : Int32} {μ : ax_M} (hi : i < ax_strs.length) {v : Int32} (h : m_J0_charAt_5068e i x1 = some v) : ax_A G l yJ0_charAt_5068e cJ0_charAt_5068e 2 (some .char) 6 [.ref (G.2.2.2.1 (i)), .int x1] sh μ (some (.int v), sh, μ) := by
  refine ax_A.of false (by decide +kernel) (fun h9 => by cases h9) (Nat.le_of_ble_eq_true rfl) (?_ : ax_X G l RJ0 cJ0_charAt_5068e 2 (some .char) false 6 (some (.int v), sh, μ) 0 [(0, .ref (G.2.2.2.1 (i))), (1, .int x1)] [] sh μ)
  unfold m_J0_charAt_5068e at h
  refine ax_aload_n (pc := 0) (i := 0) (q := 0) (ax_dd KJ0_charAt_5068e 0 rfl) rfl rfl ?_
  obtain ⟨v1, b2, h⟩ := ob_bind h
  refine ax_kVS (pc := 1) (i := i) (As := []) (rest := []) (st1 := [.int v1]) (μ1 := μ) (ax_dd KJ0_charAt_5068e 1 rfl) (c_J0_isLatin1_aae02 hi b2) hi kV_J0_492 e_J0_isLatin1_aae02 rfl rfl rfl (by decide) (by decide) (Nat.le_of_ble_eq_true rfl) rfl ?_
  by_cases c3 : v1 = 0
  · rw [if_pos c3] at h
    refine ax_if_eq_t (pc := 4) (tgt := 16) (ax_dd KJ0_charAt_5068e 2 rfl) (by decide) c3 ?_
    refine ax_aload_n (pc := 16) (i := 0) (q := 0) (ax_dd KJ0_charAt_5068e 8 rfl) rfl rfl ?_
    refine ax_sgetf (pc := 17) (i := i) (ax_dd KJ0_charAt_5068e 9 rfl) hi w_J0_9 (Or.inr ⟨rfl, rfl, rfl⟩) ?_
    refine ax_iload_n (pc := 20) (i := 1) (q := 1) (ax_dd KJ0_charAt_5068e 10 rfl) rfl rfl ?_
    cases h
  · rw [if_neg c3] at h
    refine ax_if_eq_f (pc := 4) (tgt := 16) (ax_dd KJ0_charAt_5068e 2 rfl) (by decide) c3 ?_
    refine ax_aload_n (pc := 7) (i := 0) (q := 0) (ax_dd KJ0_charAt_5068e 3 rfl) rfl rfl ?_
    refine ax_sgetf (pc := 8) (i := i) (ax_dd KJ0_charAt_5068e 4 rfl) hi w_J0_9 (Or.inr ⟨rfl, rfl, rfl⟩) ?_
    refine ax_iload_n (pc := 11) (i := 1) (q := 1) (ax_dd KJ0_charAt_5068e 5 rfl) rfl rfl ?_
    obtain ⟨v4, b5, h⟩ := ob_bind h
    refine ax_kS (pc := 12) (As := [.ref (G.2.2.2.2.1 (i)), .int x1]) (rest := []) (st1 := [.int v4]) (μ1 := μ) (ax_dd KJ0_charAt_5068e 6 rfl) (c_J1_charAt_3b067 hi b5) kS_J0_495 e_J1_charAt_3b067 rfl rfl (by decide) (by decide) (Nat.le_of_ble_eq_true rfl) rfl ?_
    by_cases c6 : vp_nar .char v4 = v4
    · rw [if_pos c6] at h
      obtain rfl := Option.some.inj h
      exact ax_ireti (pc := 15) (ax_dd KJ0_charAt_5068e 7 rfl) ⟨_, rfl, ax_nn rfl c6⟩ rfl
    · rw [if_neg c6] at h
      cases h
def m_J1_canEncode_9a6ad (x0 : Int32) : Option (Int32) :=
  if x0 < 0 then
    some 0
  else
    if 255 < x0 then
      some 0
    else
      some 1
set_option maxRecDepth 100000 in
set_option maxHeartbeats 8000000 in
theorem c_J1_canEncode_9a6ad {G : ax_G} {l : Launch} {sh : List ax_E} {x0 : Int32} {μ : ax_M} {v : Int32} (h : m_J1_canEncode_9a6ad x0 = some v) : ax_A G l yJ1_canEncode_9a6ad cJ1_canEncode_9a6ad 1 (some .boolean) 2 [.int x0] sh μ (some (.int v), sh, μ) := by
  refine ax_A.of false (by decide +kernel) (fun h9 => by cases h9) (Nat.le_of_ble_eq_true rfl) (?_ : ax_X G l RJ1 cJ1_canEncode_9a6ad 1 (some .boolean) false 2 (some (.int v), sh, μ) 0 [(0, .int x0)] [] sh μ)
  unfold m_J1_canEncode_9a6ad at h
  refine ax_iload_n (pc := 0) (i := 0) (q := 0) (ax_dd KJ1_canEncode_9a6ad 0 rfl) rfl rfl ?_
  by_cases c1 : x0 < 0
  · rw [if_pos c1] at h
    refine ax_if_lt_t (pc := 1) (tgt := 15) (ax_dd KJ1_canEncode_9a6ad 1 rfl) (by decide) c1 ?_
    refine ax_iconst (pc := 15) (v := 0) (ax_dd KJ1_canEncode_9a6ad 7 rfl) (by decide) ?_
    obtain rfl := Option.some.inj h
    exact ax_ireti (pc := 16) (ax_dd KJ1_canEncode_9a6ad 8 rfl) ⟨_, rfl, rfl⟩ rfl
  · rw [if_neg c1] at h
    refine ax_if_lt_f (pc := 1) (tgt := 15) (ax_dd KJ1_canEncode_9a6ad 1 rfl) (by decide) c1 ?_
    refine ax_iload_n (pc := 4) (i := 0) (q := 0) (ax_dd KJ1_canEncode_9a6ad 2 rfl) rfl rfl ?_
    refine ax_sipush (pc := 5) (v := 255) (ax_dd KJ1_canEncode_9a6ad 3 rfl) (by decide) ?_
    by_cases c2 : 255 < x0
    · rw [if_pos c2] at h
      refine ax_icmp_gt_t (pc := 8) (tgt := 15) (ax_dd KJ1_canEncode_9a6ad 4 rfl) (by decide) c2 ?_
      refine ax_iconst (pc := 15) (v := 0) (ax_dd KJ1_canEncode_9a6ad 7 rfl) (by decide) ?_
      obtain rfl := Option.some.inj h
      exact ax_ireti (pc := 16) (ax_dd KJ1_canEncode_9a6ad 8 rfl) ⟨_, rfl, rfl⟩ rfl
    · rw [if_neg c2] at h
      refine ax_icmp_gt_f (pc := 8) (tgt := 15) (ax_dd KJ1_canEncode_9a6ad 4 rfl) (by decide) c2 ?_
      refine ax_iconst (pc := 11) (v := 1) (ax_dd KJ1_canEncode_9a6ad 5 rfl) (by decide) ?_
      refine ax_goto (pc := 12) (tgt := 16) (ax_dd KJ1_canEncode_9a6ad 6 rfl) (by decide) ?_
      obtain rfl := Option.some.inj h
      exact ax_ireti (pc := 16) (ax_dd KJ1_canEncode_9a6ad 8 rfl) ⟨_, rfl, rfl⟩ rfl
def m_J1_indexOfChar_4cfef_7 (i : Nat) (x3 : Int32) (x4 : Int32) : Nat → Int32 → Option (Int32)
  | 0, _ => none
  | n + 1, x5 =>
    if x3 ≤ x5 then
      some (-1)
    else
      (ix (ax_len.getD i 0) x5).bind fun j2 =>
      if ((ax_byt.getD i []).getD j2 0) = x4 then
        some x5
      else
        m_J1_indexOfChar_4cfef_7 i x3 x4 n (x5 + 1)
set_option maxRecDepth 100000 in
set_option maxHeartbeats 8000000 in
theorem a_J1_indexOfChar_4cfef_7 {G : ax_G} {l : Launch} {sh : List ax_E} {i : Nat} {x3 : Int32} {x4 : Int32} {μ : ax_M} (hi : i < ax_strs.length) : ∀ (n : Nat) (x5 : Int32) (v : Int32), m_J1_indexOfChar_4cfef_7 i x3 x4 n x5 = some v → ax_X G l RJ1 cJ1_indexOfChar_4cfef 6 (some .int) false 2 (some (.int v), sh, μ) 7 [(0, .ref (G.2.2.2.2.1 (i))), (3, .int x3), (4, .int x4), (5, .int x5)] [] sh μ := by
  intro n
  induction n with
  | zero =>
    intro x5 v h
    rw [m_J1_indexOfChar_4cfef_7] at h
    cases h
  | succ n ih =>
    intro x5 v h
    rw [m_J1_indexOfChar_4cfef_7] at h
    refine ax_iload (pc := 7) (q := 3) (ax_dd KJ1_indexOfChar_4cfef 5 rfl) rfl ?_
    refine ax_iload_n (pc := 9) (i := 3) (q := 1) (ax_dd KJ1_indexOfChar_4cfef 6 rfl) rfl rfl ?_
    by_cases c1 : x3 ≤ x5
    · rw [if_pos c1] at h
      refine ax_icmp_ge_t (pc := 10) (tgt := 31) (ax_dd KJ1_indexOfChar_4cfef 7 rfl) (by decide) c1 ?_
      refine ax_iconst (pc := 31) (v := (-1)) (ax_dd KJ1_indexOfChar_4cfef 17 rfl) (by decide) ?_
      obtain rfl := Option.some.inj h
      exact ax_ireti (pc := 32) (ax_dd KJ1_indexOfChar_4cfef 18 rfl) ⟨_, rfl, rfl⟩ rfl
    · rw [if_neg c1] at h
      refine ax_icmp_ge_f (pc := 10) (tgt := 31) (ax_dd KJ1_indexOfChar_4cfef 7 rfl) (by decide) c1 ?_
      refine ax_aload_n (pc := 13) (i := 0) (q := 0) (ax_dd KJ1_indexOfChar_4cfef 8 rfl) rfl rfl ?_
      refine ax_iload (pc := 14) (q := 3) (ax_dd KJ1_indexOfChar_4cfef 9 rfl) rfl ?_
      obtain ⟨j2, b3, h⟩ := ob_bind h
      refine ax_sbl (pc := 16) (j := j2) (ax_dd KJ1_indexOfChar_4cfef 10 rfl) hi b3 ?_
      refine ax_iload (pc := 17) (q := 2) (ax_dd KJ1_indexOfChar_4cfef 11 rfl) rfl ?_
      by_cases c4 : ((ax_byt.getD i []).getD j2 0) = x4
      · rw [if_pos c4] at h
        refine ax_icmp_ne_f (pc := 19) (tgt := 25) (ax_dd KJ1_indexOfChar_4cfef 12 rfl) (by decide) (fun z => z c4) ?_
        refine ax_iload (pc := 22) (q := 3) (ax_dd KJ1_indexOfChar_4cfef 13 rfl) rfl ?_
        obtain rfl := Option.some.inj h
        exact ax_ireti (pc := 24) (ax_dd KJ1_indexOfChar_4cfef 14 rfl) ⟨_, rfl, rfl⟩ rfl
      · rw [if_neg c4] at h
        refine ax_icmp_ne_t (pc := 19) (tgt := 25) (ax_dd KJ1_indexOfChar_4cfef 12 rfl) (by decide) c4 ?_
        refine ax_iinc (pc := 25) (q := 3) (v := (x5 + 1)) (lv' := [(5, .int (x5 + 1)), (0, .ref (G.2.2.2.2.1 (i))), (3, .int x3), (4, .int x4)]) (ax_dd KJ1_indexOfChar_4cfef 15 rfl) rfl rfl (by decide) rfl ?_
        refine ax_goto (pc := 28) (tgt := 7) (ax_dd KJ1_indexOfChar_4cfef 16 rfl) (by decide) ?_
        refine ax_sub (lv' := [(0, .ref (G.2.2.2.2.1 (i))), (3, .int x3), (4, .int x4), (5, .int (x5 + 1))]) [1, 2, 3, 0] rfl ?_
        exact ih _ _ h
def m_J1_indexOfChar_4cfef (i : Nat) (x1 : Int32) (x2 : Int32) (x3 : Int32) : Option (Int32) :=
  m_J1_indexOfChar_4cfef_7 i x3 (x1.toInt8.toInt32) fu x2
set_option maxRecDepth 100000 in
set_option maxHeartbeats 8000000 in
theorem c_J1_indexOfChar_4cfef {G : ax_G} {l : Launch} {sh : List ax_E} {i : Nat} {x1 : Int32} {x2 : Int32} {x3 : Int32} {μ : ax_M} (hi : i < ax_strs.length) {v : Int32} (h : m_J1_indexOfChar_4cfef i x1 x2 x3 = some v) : ax_A G l yJ1_indexOfChar_4cfef cJ1_indexOfChar_4cfef 6 (some .int) 2 [.ref (G.2.2.2.2.1 (i)), .int x1, .int x2, .int x3] sh μ (some (.int v), sh, μ) := by
  refine ax_A.of false (by decide +kernel) (fun h9 => by cases h9) (Nat.le_of_ble_eq_true rfl) (?_ : ax_X G l RJ1 cJ1_indexOfChar_4cfef 6 (some .int) false 2 (some (.int v), sh, μ) 0 [(0, .ref (G.2.2.2.2.1 (i))), (1, .int x1), (2, .int x2), (3, .int x3)] [] sh μ)
  unfold m_J1_indexOfChar_4cfef at h
  refine ax_iload_n (pc := 0) (i := 1) (q := 1) (ax_dd KJ1_indexOfChar_4cfef 0 rfl) rfl rfl ?_
  refine ax_i2b (pc := 1) (ax_dd KJ1_indexOfChar_4cfef 1 rfl) ?_
  refine ax_istore (pc := 2) (lv' := [(4, .int (x1.toInt8.toInt32)), (0, .ref (G.2.2.2.2.1 (i))), (1, .int x1), (2, .int x2), (3, .int x3)]) (ax_dd KJ1_indexOfChar_4cfef 2 rfl) (by decide) rfl ?_
  refine ax_iload_n (pc := 4) (i := 2) (q := 3) (ax_dd KJ1_indexOfChar_4cfef 3 rfl) rfl rfl ?_
  refine ax_istore (pc := 5) (lv' := [(5, .int x2), (4, .int (x1.toInt8.toInt32)), (0, .ref (G.2.2.2.2.1 (i))), (1, .int x1), (2, .int x2), (3, .int x3)]) (ax_dd KJ1_indexOfChar_4cfef 4 rfl) (by decide) rfl ?_
  refine ax_sub (lv' := [(0, .ref (G.2.2.2.2.1 (i))), (3, .int x3), (4, .int (x1.toInt8.toInt32)), (5, .int x2)]) [2, 5, 1, 0] rfl ?_
  exact a_J1_indexOfChar_4cfef_7 hi fu _ _ h
def m_J1_indexOf_4cfef (i : Nat) (x1 : Int32) (x2 : Int32) (x3 : Int32) : Option (Int32) :=
  (m_J1_canEncode_9a6ad x1).bind fun v1 =>
  if v1 = 0 then
    some (-1)
  else
    if (mxI x2 0) < (mnI x3 (Int32.ofNat (ax_len.getD i 0))) then
      (m_J1_indexOfChar_4cfef i x1 (mxI x2 0) (mnI x3 (Int32.ofNat (ax_len.getD i 0)))).bind fun v5 =>
      some v5
    else
      some (-1)
set_option maxRecDepth 100000 in
set_option maxHeartbeats 8000000 in
theorem c_J1_indexOf_4cfef {G : ax_G} {l : Launch} {sh : List ax_E} {i : Nat} {x1 : Int32} {x2 : Int32} {x3 : Int32} {μ : ax_M} (hi : i < ax_strs.length) {v : Int32} (h : m_J1_indexOf_4cfef i x1 x2 x3 = some v) : ax_A G l yJ1_indexOf_4cfef cJ1_indexOf_4cfef 4 (some .int) 3 [.ref (G.2.2.2.2.1 (i)), .int x1, .int x2, .int x3] sh μ (some (.int v), sh, μ) := by
  refine ax_A.of false (by decide +kernel) (fun h9 => by cases h9) (Nat.le_of_ble_eq_true rfl) (?_ : ax_X G l RJ1 cJ1_indexOf_4cfef 4 (some .int) false 3 (some (.int v), sh, μ) 0 [(0, .ref (G.2.2.2.2.1 (i))), (1, .int x1), (2, .int x2), (3, .int x3)] [] sh μ)
  unfold m_J1_indexOf_4cfef at h
  refine ax_iload_n (pc := 0) (i := 1) (q := 1) (ax_dd KJ1_indexOf_4cfef 0 rfl) rfl rfl ?_
  obtain ⟨v1, b2, h⟩ := ob_bind h
  refine ax_kS (pc := 1) (As := [.int x1]) (rest := []) (st1 := [.int v1]) (μ1 := μ) (ax_dd KJ1_indexOf_4cfef 1 rfl) (c_J1_canEncode_9a6ad b2) kS_J1_88 e_J1_canEncode_9a6ad rfl rfl (by decide) (by decide) (Nat.le_of_ble_eq_true rfl) rfl ?_
  by_cases c3 : v1 = 0
  · rw [if_pos c3] at h
    refine ax_if_ne_f (pc := 4) (tgt := 9) (ax_dd KJ1_indexOf_4cfef 2 rfl) (by decide) (fun z => z c3) ?_
    refine ax_iconst (pc := 7) (v := (-1)) (ax_dd KJ1_indexOf_4cfef 3 rfl) (by decide) ?_
    obtain rfl := Option.some.inj h
    exact ax_ireti (pc := 8) (ax_dd KJ1_indexOf_4cfef 4 rfl) ⟨_, rfl, rfl⟩ rfl
  · rw [if_neg c3] at h
    refine ax_if_ne_t (pc := 4) (tgt := 9) (ax_dd KJ1_indexOf_4cfef 2 rfl) (by decide) c3 ?_
    refine ax_iload_n (pc := 9) (i := 2) (q := 2) (ax_dd KJ1_indexOf_4cfef 5 rfl) rfl rfl ?_
    refine ax_iconst (pc := 10) (v := 0) (ax_dd KJ1_indexOf_4cfef 6 rfl) (by decide) ?_
    refine ax_max (pc := 11) (ax_dd KJ1_indexOf_4cfef 7 rfl) mt_J1_92 (by decide) (Nat.le_of_ble_eq_true rfl) ?_
    refine ax_istore_n (pc := 14) (i := 2) (lv' := [(2, .int (mxI x2 0)), (0, .ref (G.2.2.2.2.1 (i))), (1, .int x1), (3, .int x3)]) (ax_dd KJ1_indexOf_4cfef 8 rfl) rfl (by decide) rfl ?_
    refine ax_iload_n (pc := 15) (i := 3) (q := 3) (ax_dd KJ1_indexOf_4cfef 9 rfl) rfl rfl ?_
    refine ax_aload_n (pc := 16) (i := 0) (q := 1) (ax_dd KJ1_indexOf_4cfef 10 rfl) rfl rfl ?_
    refine ax_slen (pc := 17) (ax_dd KJ1_indexOf_4cfef 11 rfl) hi rfl ?_
    refine ax_min (pc := 18) (ax_dd KJ1_indexOf_4cfef 12 rfl) mt_J1_38 (by decide) (Nat.le_of_ble_eq_true rfl) ?_
    refine ax_istore_n (pc := 21) (i := 3) (lv' := [(3, .int (mnI x3 (Int32.ofNat (ax_len.getD i 0)))), (2, .int (mxI x2 0)), (0, .ref (G.2.2.2.2.1 (i))), (1, .int x1)]) (ax_dd KJ1_indexOf_4cfef 13 rfl) rfl (by decide) rfl ?_
    refine ax_iload_n (pc := 22) (i := 2) (q := 1) (ax_dd KJ1_indexOf_4cfef 14 rfl) rfl rfl ?_
    refine ax_iload_n (pc := 23) (i := 3) (q := 0) (ax_dd KJ1_indexOf_4cfef 15 rfl) rfl rfl ?_
    by_cases c4 : (mxI x2 0) < (mnI x3 (Int32.ofNat (ax_len.getD i 0)))
    · rw [if_pos c4] at h
      refine ax_icmp_lt_t (pc := 24) (tgt := 29) (ax_dd KJ1_indexOf_4cfef 16 rfl) (by decide) c4 ?_
      refine ax_aload_n (pc := 29) (i := 0) (q := 2) (ax_dd KJ1_indexOf_4cfef 19 rfl) rfl rfl ?_
      refine ax_iload_n (pc := 30) (i := 1) (q := 3) (ax_dd KJ1_indexOf_4cfef 20 rfl) rfl rfl ?_
      refine ax_iload_n (pc := 31) (i := 2) (q := 1) (ax_dd KJ1_indexOf_4cfef 21 rfl) rfl rfl ?_
      refine ax_iload_n (pc := 32) (i := 3) (q := 0) (ax_dd KJ1_indexOf_4cfef 22 rfl) rfl rfl ?_
      obtain ⟨v5, b6, h⟩ := ob_bind h
      refine ax_kS (pc := 33) (As := [.ref (G.2.2.2.2.1 (i)), .int x1, .int (mxI x2 0), .int (mnI x3 (Int32.ofNat (ax_len.getD i 0)))]) (rest := []) (st1 := [.int v5]) (μ1 := μ) (ax_dd KJ1_indexOf_4cfef 23 rfl) (c_J1_indexOfChar_4cfef hi b6) kS_J1_95 e_J1_indexOfChar_4cfef rfl rfl (by decide) (by decide) (Nat.le_of_ble_eq_true rfl) rfl ?_
      obtain rfl := Option.some.inj h
      exact ax_ireti (pc := 36) (ax_dd KJ1_indexOf_4cfef 24 rfl) ⟨_, rfl, rfl⟩ rfl
    · rw [if_neg c4] at h
      refine ax_icmp_lt_f (pc := 24) (tgt := 29) (ax_dd KJ1_indexOf_4cfef 16 rfl) (by decide) c4 ?_
      refine ax_iconst (pc := 27) (v := (-1)) (ax_dd KJ1_indexOf_4cfef 17 rfl) (by decide) ?_
      obtain rfl := Option.some.inj h
      exact ax_ireti (pc := 28) (ax_dd KJ1_indexOf_4cfef 18 rfl) ⟨_, rfl, rfl⟩ rfl
def m_J0_indexOf_7cf53 (i : Nat) (x1 : Int32) (x2 : Int32) : Option (Int32) :=
  (m_J0_isLatin1_aae02 i).bind fun v1 =>
  if v1 = 0 then
    (m_J0_length_8abf5 i).bind fun v4 =>
    none
  else
    (m_J0_length_8abf5 i).bind fun v6 =>
    (m_J1_indexOf_4cfef i x1 x2 v6).bind fun v8 =>
    some v8
set_option maxRecDepth 100000 in
set_option maxHeartbeats 8000000 in
theorem c_J0_indexOf_7cf53 {G : ax_G} {l : Launch} {sh : List ax_E} {i : Nat} {x1 : Int32} {x2 : Int32} {μ : ax_M} (hi : i < ax_strs.length) {v : Int32} (h : m_J0_indexOf_7cf53 i x1 x2 = some v) : ax_A G l yJ0_indexOf_7cf53 cJ0_indexOf_7cf53 3 (some .int) 7 [.ref (G.2.2.2.1 (i)), .int x1, .int x2] sh μ (some (.int v), sh, μ) := by
  refine ax_A.of false (by decide +kernel) (fun h9 => by cases h9) (Nat.le_of_ble_eq_true rfl) (?_ : ax_X G l RJ0 cJ0_indexOf_7cf53 3 (some .int) false 7 (some (.int v), sh, μ) 0 [(0, .ref (G.2.2.2.1 (i))), (1, .int x1), (2, .int x2)] [] sh μ)
  unfold m_J0_indexOf_7cf53 at h
  refine ax_aload_n (pc := 0) (i := 0) (q := 0) (ax_dd KJ0_indexOf_7cf53 0 rfl) rfl rfl ?_
  obtain ⟨v1, b2, h⟩ := ob_bind h
  refine ax_kVS (pc := 1) (i := i) (As := []) (rest := []) (st1 := [.int v1]) (μ1 := μ) (ax_dd KJ0_indexOf_7cf53 1 rfl) (c_J0_isLatin1_aae02 hi b2) hi kV_J0_492 e_J0_isLatin1_aae02 rfl rfl rfl (by decide) (by decide) (Nat.le_of_ble_eq_true rfl) rfl ?_
  by_cases c3 : v1 = 0
  · rw [if_pos c3] at h
    refine ax_if_eq_t (pc := 4) (tgt := 23) (ax_dd KJ0_indexOf_7cf53 2 rfl) (by decide) c3 ?_
    refine ax_aload_n (pc := 23) (i := 0) (q := 0) (ax_dd KJ0_indexOf_7cf53 11 rfl) rfl rfl ?_
    refine ax_sgetf (pc := 24) (i := i) (ax_dd KJ0_indexOf_7cf53 12 rfl) hi w_J0_9 (Or.inr ⟨rfl, rfl, rfl⟩) ?_
    refine ax_iload_n (pc := 27) (i := 1) (q := 1) (ax_dd KJ0_indexOf_7cf53 13 rfl) rfl rfl ?_
    refine ax_iload_n (pc := 28) (i := 2) (q := 2) (ax_dd KJ0_indexOf_7cf53 14 rfl) rfl rfl ?_
    refine ax_aload_n (pc := 29) (i := 0) (q := 0) (ax_dd KJ0_indexOf_7cf53 15 rfl) rfl rfl ?_
    obtain ⟨v4, b5, h⟩ := ob_bind h
    refine ax_kVS (pc := 30) (i := i) (As := []) (rest := [.int x2, .int x1, .ref (G.2.2.2.2.1 (i))]) (st1 := [.int v4, .int x2, .int x1, .ref (G.2.2.2.2.1 (i))]) (μ1 := μ) (ax_dd KJ0_indexOf_7cf53 16 rfl) (c_J0_length_8abf5 hi b5) hi kV_J0_505 e_J0_length_8abf5 rfl rfl rfl (by decide) (by decide) (Nat.le_of_ble_eq_true rfl) rfl ?_
    cases h
  · rw [if_neg c3] at h
    refine ax_if_eq_f (pc := 4) (tgt := 23) (ax_dd KJ0_indexOf_7cf53 2 rfl) (by decide) c3 ?_
    refine ax_aload_n (pc := 7) (i := 0) (q := 0) (ax_dd KJ0_indexOf_7cf53 3 rfl) rfl rfl ?_
    refine ax_sgetf (pc := 8) (i := i) (ax_dd KJ0_indexOf_7cf53 4 rfl) hi w_J0_9 (Or.inr ⟨rfl, rfl, rfl⟩) ?_
    refine ax_iload_n (pc := 11) (i := 1) (q := 1) (ax_dd KJ0_indexOf_7cf53 5 rfl) rfl rfl ?_
    refine ax_iload_n (pc := 12) (i := 2) (q := 2) (ax_dd KJ0_indexOf_7cf53 6 rfl) rfl rfl ?_
    refine ax_aload_n (pc := 13) (i := 0) (q := 0) (ax_dd KJ0_indexOf_7cf53 7 rfl) rfl rfl ?_
    obtain ⟨v6, b7, h⟩ := ob_bind h
    refine ax_kVS (pc := 14) (i := i) (As := []) (rest := [.int x2, .int x1, .ref (G.2.2.2.2.1 (i))]) (st1 := [.int v6, .int x2, .int x1, .ref (G.2.2.2.2.1 (i))]) (μ1 := μ) (ax_dd KJ0_indexOf_7cf53 8 rfl) (c_J0_length_8abf5 hi b7) hi kV_J0_505 e_J0_length_8abf5 rfl rfl rfl (by decide) (by decide) (Nat.le_of_ble_eq_true rfl) rfl ?_
    obtain ⟨v8, b9, h⟩ := ob_bind h
    refine ax_kS (pc := 17) (As := [.ref (G.2.2.2.2.1 (i)), .int x1, .int x2, .int v6]) (rest := []) (st1 := [.int v8]) (μ1 := μ) (ax_dd KJ0_indexOf_7cf53 9 rfl) (c_J1_indexOf_4cfef hi b9) kS_J0_637 e_J1_indexOf_4cfef rfl rfl (by decide) (by decide) (Nat.le_of_ble_eq_true rfl) rfl ?_
    refine ax_goto (pc := 20) (tgt := 36) (ax_dd KJ0_indexOf_7cf53 10 rfl) (by decide) ?_
    obtain rfl := Option.some.inj h
    exact ax_ireti (pc := 36) (ax_dd KJ0_indexOf_7cf53 18 rfl) ⟨_, rfl, rfl⟩ rfl
def m_J0_indexOf_0f7a4 (i : Nat) (x1 : Int32) : Option (Int32) :=
  (m_J0_indexOf_7cf53 i x1 0).bind fun v1 =>
  some v1
set_option maxRecDepth 100000 in
set_option maxHeartbeats 8000000 in
theorem c_J0_indexOf_0f7a4 {G : ax_G} {l : Launch} {sh : List ax_E} {i : Nat} {x1 : Int32} {μ : ax_M} (hi : i < ax_strs.length) {v : Int32} (h : m_J0_indexOf_0f7a4 i x1 = some v) : ax_A G l yJ0_indexOf_0f7a4 cJ0_indexOf_0f7a4 2 (some .int) 8 [.ref (G.2.2.2.1 (i)), .int x1] sh μ (some (.int v), sh, μ) := by
  refine ax_A.of false (by decide +kernel) (fun h9 => by cases h9) (Nat.le_of_ble_eq_true rfl) (?_ : ax_X G l RJ0 cJ0_indexOf_0f7a4 2 (some .int) false 8 (some (.int v), sh, μ) 0 [(0, .ref (G.2.2.2.1 (i))), (1, .int x1)] [] sh μ)
  unfold m_J0_indexOf_0f7a4 at h
  refine ax_aload_n (pc := 0) (i := 0) (q := 0) (ax_dd KJ0_indexOf_0f7a4 0 rfl) rfl rfl ?_
  refine ax_iload_n (pc := 1) (i := 1) (q := 1) (ax_dd KJ0_indexOf_0f7a4 1 rfl) rfl rfl ?_
  refine ax_iconst (pc := 2) (v := 0) (ax_dd KJ0_indexOf_0f7a4 2 rfl) (by decide) ?_
  obtain ⟨v1, b2, h⟩ := ob_bind h
  refine ax_kVS (pc := 3) (i := i) (As := [.int x1, .int 0]) (rest := []) (st1 := [.int v1]) (μ1 := μ) (ax_dd KJ0_indexOf_0f7a4 3 rfl) (c_J0_indexOf_7cf53 hi b2) hi kV_J0_633 e_J0_indexOf_7cf53 rfl rfl rfl (by decide) (by decide) (Nat.le_of_ble_eq_true rfl) rfl ?_
  obtain rfl := Option.some.inj h
  exact ax_ireti (pc := 6) (ax_dd KJ0_indexOf_0f7a4 4 rfl) ⟨_, rfl, rfl⟩ rfl
