/-! ===== the objects, new; the law ===== -/
theorem k_mono {T : Nat → Nat} {r : Option (List Nat) × Nat} : ∀ (n j : Nat) (w mn : Bool) (H X : List Nat), k_mach T n j w mn H X = some r → k_mach T (n + 1) j w mn H X = some r := by
  intro n
  induction n with
  | zero => intro j w mn H X h; cases w <;> cases h
  | succ n ih =>
    intro j w mn H X h
    cases w with
    | true =>
      rw [k_mach] at h ⊢
      split
      · rename_i z
        rw [if_pos z] at h
        exact ih _ _ _ _ _ h
      · rename_i z
        rw [if_neg z] at h
        split
        · rename_i z2
          rw [if_pos z2] at h
          split
          · rename_i z3
            rw [if_pos z3] at h
            exact h
          · rename_i z3
            rw [if_neg z3] at h
            exact ih _ _ _ _ _ h
        · rename_i z2
          rw [if_neg z2] at h
          split
          · rename_i z3
            rw [if_pos z3] at h
            split
            · rename_i z4
              rw [if_pos z4] at h
              exact h
            · rename_i z4
              rw [if_neg z4] at h
              exact ih _ _ _ _ _ h
          · rename_i z3
            rw [if_neg z3] at h
            split
            · rename_i z4
              rw [if_pos z4] at h
              split
              · rename_i z5
                rw [if_pos z5] at h
                exact h
              · rename_i z5
                rw [if_neg z5] at h
                exact ih _ _ _ _ _ h
            · rename_i z4
              rw [if_neg z4] at h
              exact h
    | false =>
      rw [k_mach] at h ⊢
      by_cases z : T j = 19
      · rw [if_pos z] at h ⊢
        exact h
      · rw [if_neg z] at h ⊢
        by_cases z2 : T j = 18
        · rw [if_pos z2] at h ⊢
          cases hp : k_un 1 H X with
          | mk P X2 =>
            rw [hp] at h
            cases P with
            | nil => exact h
            | cons q P => exact ih _ _ _ _ _ h
        · rw [if_neg z2] at h ⊢
          by_cases z3 : k_bn (T j) = true
          · rw [if_pos z3] at h ⊢
            by_cases z4 : k_rk (T j) = 4 ∧ k_h4 (k_un (if k_rk (T j) = 4 then 5 else k_rk (T j)) H X).1 = true
            · rw [if_pos z4] at h ⊢
              exact h
            · rw [if_neg z4] at h ⊢
              exact ih _ _ _ _ _ h
          · rw [if_neg z3] at h ⊢
            exact h
theorem k_det {T : Nat → Nat} {r r2 : Option (List Nat) × Nat} {n m j : Nat} {w mn : Bool} {H X : List Nat} (h : k_mach T n j w mn H X = some r) (h2 : k_mach T m j w mn H X = some r2) : r = r2 := by
  have up : ∀ (a n : Nat) (r : Option (List Nat) × Nat), k_mach T n j w mn H X = some r → k_mach T (n + a) j w mn H X = some r := by
    intro a
    induction a with
    | zero => intro n r h; exact h
    | succ a ih => intro n r h; exact k_mono _ _ _ _ _ _ (ih n r h)
  have a := up m n r h
  have b := up n m r2 h2
  rw [Nat.add_comm] at b
  rw [a] at b
  cases b
  rfl
theorem ft_255 : ∀ i : Fin 57, ft i.val ≤ 255 := by decide +kernel
theorem ft_T : kT ft 57 0 = 9 ∧ kT ft 57 5 = 10 ∧ kT ft 57 10 = 11 ∧ kT ft 57 15 = 21 := by decide +kernel
theorem ft_m1 : k_mach (kT ft 57) 9 1 true true [] [] = some (some [14, 3, 24], 5) := by decide +kernel
theorem ft_m2 : k_mach (kT ft 57) 9 6 true true [] [14, 3, 24] = some (some [12, 43, 3, 14, 3, 24], 10) := by decide +kernel
theorem ft_m3 : k_mach (kT ft 57) 9 11 true true [] [12, 43, 3, 14, 3, 24] = some (some [12, 29, 2, 12, 43, 3, 14, 3, 24], 15) := by decide +kernel
theorem ft_k0 {j : Nat} {c : List Nat} (h : PK (kT ft 57) 0 0 [] j c) : j = 5 ∧ c = [14, 3, 24] := by
  obtain ⟨-, n, -, hm⟩ := h
  have := k_det hm ft_m1
  rw [List.append_nil] at this
  cases this
  exact ⟨rfl, rfl⟩
theorem ft_k1 {j : Nat} {c : List Nat} (h : PK (kT ft 57) 1 5 [14, 3, 24] j c) : j = 10 ∧ c ++ [14, 3, 24] = [12, 43, 3, 14, 3, 24] := by
  obtain ⟨-, n, -, hm⟩ := h
  have := k_det hm ft_m2
  rw [Prod.mk.injEq, Option.some.injEq] at this
  exact ⟨this.2, this.1⟩
theorem ft_k2 {j : Nat} {c : List Nat} (h : PK (kT ft 57) 2 10 [12, 43, 3, 14, 3, 24] j c) : j = 15 := by
  obtain ⟨-, n, -, hm⟩ := h
  have := k_det hm ft_m3
  rw [Prod.mk.injEq] at this
  exact this.2
theorem ft_bf (jf : Nat) : ¬ BF (kT ft 57) jf := by
  have no : ∀ (p j : Nat) (O : List Nat) (r : List Nat × Nat), kT ft 57 j = 9 + p → k_mach (kT ft 57) 9 (j + 1) true true [] O = some (some r.1, r.2) → ¬ PF (kT ft 57) p j O jf := by
    intro p j O r h1 h2 h
    rcases h with ⟨h, -⟩ | ⟨-, n, -, hm⟩
    · exact h h1
    · have := k_det hm h2
      cases this
  intro h
  rcases h with h | ⟨j1, c1, g1, h⟩ | ⟨j1, c1, j2, c2, g1, g2, h⟩ | ⟨j1, c1, j2, c2, j3, c3, g1, g2, g3, h, -⟩
  · exact no 0 0 [] ([14, 3, 24], 5) ft_T.1 ft_m1 h
  · obtain ⟨rfl, rfl⟩ := ft_k0 g1
    exact no 1 5 _ ([12, 43, 3, 14, 3, 24], 10) ft_T.2.1 ft_m2 h
  · obtain ⟨rfl, rfl⟩ := ft_k0 g1
    obtain ⟨rfl, e⟩ := ft_k1 g2
    rw [e] at h
    exact no 2 10 _ ([12, 29, 2, 12, 43, 3, 14, 3, 24], 15) ft_T.2.2.1 ft_m3 h
  · obtain ⟨rfl, rfl⟩ := ft_k0 g1
    obtain ⟨rfl, e⟩ := ft_k1 g2
    rw [e] at g3
    have := ft_k2 g3
    subst this
    exact h ft_T.2.2.2
theorem ft_js : ∀ i : Fin 57, m_J0_charAt_5068e 0 (nI i.val) = some (nI (ft i.val)) := by decide +kernel
theorem ft_jl : m_J0_length_8abf5 0 = some (nI 57) := by decide +kernel
/-- the class' object, ahead of its first text -/
def ini_C (μ : ax_M) : ax_M := ax_w (ax_w (ax_w (ax_w (ax_z (ax_z (ax_zz (ax_z (ax_z (ax_z (ax_z (ax_z (ax_z (ax_z (ax_z (ax_z (ax_z (ax_z (ax_z (ax_z (ax_z (ax_z (ax_z (ax_z (ax_z (ax_w (ax_z (ax_z (ax_z (ax_z (ax_z (ax_z (ax_z (ax_z (ax_z (ax_z (ax_zz (ax_zz (ax_z μ 1) 2 7) 9 7) 16) 17) 18) 19) 20) 21) 22) 23) 24) 25) 25 2 12) 26) 27) 28) 29) 30) 31) 32) 33) 34) 35) 36) 37) 38) 39) 40) 41) 42) 43) 44 5) 49) 50) 49 0 (-1)) 49 1 (-1)) 49 2 (-1)) 49 3 (-1)
theorem iniC_eq (μ : ax_M) : m_X9_init μ = m_X9_init_125 fu 0 (ini_C μ) := by
  have hx4 : ∀ μ : ax_M, m_X4_init_31 fu 0 μ = some (ax_w (ax_w (ax_w (ax_w μ 49 0 (-1)) 49 1 (-1)) 49 2 (-1)) 49 3 (-1)) := fun μ => by
    rw [show fu = 999995 + 1 + 1 + 1 + 1 + 1 from rfl, m_X4_init_31, if_neg (by decide), show ix 4 0 = some 0 from by decide, ob_some, m_X4_init_31, if_neg (by decide), show ix 4 (0 + 1) = some 1 from by decide, ob_some, m_X4_init_31, if_neg (by decide), show ix 4 (0 + 1 + 1) = some 2 from by decide, ob_some, m_X4_init_31, if_neg (by decide), show ix 4 (0 + 1 + 1 + 1) = some 3 from by decide, ob_some, m_X4_init_31, if_pos (by decide)]
  unfold m_X9_init m_X7_init m_X6_init m_X3_init m_X0_init m_X5_init m_X8_init m_X2_init m_X1_init m_X4_init
  rw [ob_some, ob_some, ob_some, ob_some, ob_some, ob_some, ob_some, ob_some, hx4, ob_some]
  rfl
theorem iniC_f (μ : ax_M) : ini_C μ 1 0 = 0 ∧ ini_C μ 18 1 = 0 ∧ ini_C μ 25 1 = 0 ∧ ini_C μ 25 2 = 12 ∧ ini_C μ 25 3 = 0 ∧ ini_C μ 39 0 = 0 ∧ ∀ s, s < 4 → ini_C μ 49 s = -1 ∧ ini_C μ 50 s = 0 := by
  refine ⟨by simp [ini_C, ax_w, ax_z, ax_zz], by simp [ini_C, ax_w, ax_z, ax_zz], by simp [ini_C, ax_w, ax_z, ax_zz], by simp [ini_C, ax_w, ax_z, ax_zz], by simp [ini_C, ax_w, ax_z, ax_zz], by simp [ini_C, ax_w, ax_z, ax_zz], fun s hs => ?_⟩
  have : s = 0 ∨ s = 1 ∨ s = 2 ∨ s = 3 := by omega
  rcases this with rfl | rfl | rfl | rfl <;> simp [ini_C, ax_w, ax_z, ax_zz]
theorem iniC_125 (μ : ax_M) (h18 : μ 18 1 = 0) : ∃ μ2, m_X9_init_125 fu 0 μ = (bind2 (m_X9_readTape μ2) fun v4 μ6 => some μ6) ∧ μ2 18 1 = nI 57 ∧ (∀ i, i < 57 → μ2 19 i = nI (ft i)) ∧ Ch Sta μ μ2 := by
  obtain ⟨b, hb, hq⟩ := loopK (N := 57) (fun k i (a : ax_M) => m_X9_init_125 k (nI i) a) (fun i a => a 18 1 = nI i ∧ (∀ q, q < i → a 19 q = nI (ft q)) ∧ Ch Sta μ a) (fun a => bind2 (m_X9_readTape a) fun v4 μ6 => some μ6) (by omega)
    (fun k i a hi hI => by
      obtain ⟨h1, h2, h3⟩ := hI
      show ∃ a2, m_X9_init_125 (k + 1) (nI i) a = _ ∧ _
      have hadd : m_X6_add (nI (ft i)) a = some (ax_w (ax_w a 18 1 (nI (i + 1))) 19 i (nI (ft i))) := by
        unfold m_X6_add
        rw [h1, if_neg (i160 (by omega)), ix_nI (show i < 160 by omega) (by decide), ob_some, na1]
      rw [m_X9_init_125, ft_jl, ob_some, if_neg (by rw [nleL (by omega) (by omega)]; omega), ft_js ⟨i, hi⟩, ob_some, hadd, ob_some, na1]
      refine ⟨_, rfl, by rw [w_k (by decide), w_ss], fun q hq => ?_, (h3.w rfl).w rfl⟩
      by_cases e : q = i
      · rw [e, w_ss]
      · rw [w_i e, w_k (by decide)]
        exact h2 q (by omega))
    (fun k a hI => by
      show m_X9_init_125 (k + 1) (nI 57) a = _
      rw [m_X9_init_125, ft_jl, ob_some, if_pos (Int32.le_refl _)])
    μ ⟨h18, fun q hq => by omega, Ch.rf⟩
  exact ⟨b, hq, hb.1, hb.2.1, hb.2.2⟩
theorem iniM_1088 (μ : ax_M) : ∃ μ2, m_X10_init_1088 fu 0 μ = (bind2 (m_X10_text (ax_w μ2 51 6 57)) fun v2 μ4 => some μ4) ∧ (∀ i, i < 57 → μ2 55 i = μ 63 i) ∧ ∀ k i, k ≠ 55 → μ2 k i = μ k i := by
  obtain ⟨b, hb, hq⟩ := loopK (N := 57) (fun k i (a : ax_M) => m_X10_init_1088 k (nI i) a) (fun i a => (∀ q, q < i → a 55 q = μ 63 q) ∧ ∀ k i, k ≠ 55 → a k i = μ k i) (fun a => bind2 (m_X10_text (ax_w a 51 6 57)) fun v2 μ4 => some μ4) (by omega)
    (fun k i a hi hI => by
      obtain ⟨h2, h3⟩ := hI
      show ∃ a2, m_X10_init_1088 (k + 1) (nI i) a = _ ∧ _
      rw [m_X10_init_1088, if_neg (by rw [show (57 : Int32) = nI 57 from rfl, nleL (by omega) (by omega)]; omega), ix_nI hi (by decide), ob_some, ix_nI (show i < 160 by omega) (by decide), ob_some, na1]
      refine ⟨_, rfl, fun q hq => ?_, fun k j hk => by rw [w_k hk]; exact h3 k j hk⟩
      by_cases e : q = i
      · rw [e, w_ss]
        exact h3 63 i (by decide)
      · rw [w_i e]
        exact h2 q (by omega))
    (fun k a hI => by
      show m_X10_init_1088 (k + 1) (nI 57) a = _
      rw [m_X10_init_1088, if_pos (by decide)])
    μ ⟨fun q hq => by omega, fun k i _ => rfl⟩
  exact ⟨b, hq, hb.1, hb.2⟩
theorem law_ini (μ : ax_M) : ∃ μ3 μ6, m_X9_init (ax_z μ 0) = some μ3 ∧ m_X10_init (ax_z μ3 51) = some μ6 ∧ Kx μ6 := by
  obtain ⟨f1, f2, f3, f4, f5, f6, f7⟩ := iniC_f (ax_z μ 0)
  obtain ⟨μ1, a1, a2, a3, a4⟩ := iniC_125 (ini_C (ax_z μ 0)) f2
  have hTB : TB 57 ft μ1 := ⟨a2, by omega, a3, fun i hi => ft_255 ⟨i, hi⟩⟩
  obtain ⟨μ2, b1, b2, b3⟩ := c_rtp (t := 0) hTB (by omega) ((a4 1 0 rfl).trans f1)
  have e : ∀ k i, SRX 0 k i = false → μ2 k i = μ1 k i := b1
  rcases b3 with ⟨jf, c1, -⟩ | ⟨c1, c2, c3, g1, g2, g3, g4, g5, g6, g7, g8⟩
  · exact absurd c1 (ft_bf jf)
  · obtain ⟨μ4, m1, m2, m3⟩ := iniM_1088 (ini_M (ax_z μ2 51))
    have z51 : ∀ i, (ax_z μ2 51) 51 i = 0 := fun i => by simp [ax_z]
    have q51 : ∀ i, i ≠ 4 → μ4 51 i = 0 := fun i hi => by rw [m3 51 i (by decide), ini_51 _ i hi, z51]
    have hlo : ∀ k i, k < 51 → μ4 k i = μ2 k i := fun k i hk => by
      rw [m3 k i (by omega), ini_fr (ax_z μ2 51) k i (by simp [S51]; omega)]
      show (if k = 51 then 0 else μ2 k i) = _
      rw [if_neg (by omega)]
    have hMB : MB 57 ft (ax_w μ4 51 6 57) := ⟨w_ss, by omega, fun i hi => by rw [w_k (by decide), m2 i hi]; exact ini_63 _ i hi, fun i hi => ft_255 ⟨i, hi⟩, fun i hi => by rw [w_k (by decide), m3 64 i (by decide)]; exact ini_64 _ i hi⟩
    obtain ⟨μ5, d1, d2, d3, d4, d5⟩ := m_rtp (t := 0) hMB (by omega) (by rw [w_i (by decide)]; exact q51 9 (by decide)) g1 g2 g3 g4 g5
    have e' : ∀ k i, TX 0 k i = false → μ5 k i = (ax_w μ4 51 6 57) k i := d5
    have hlo5 : ∀ k i, k < 51 → μ5 k i = μ2 k i := fun k i hk => by
      rw [e' k i (by simp [TX]; omega), w_k (by omega)]
      exact hlo k i hk
    have c25 : ∀ i, μ2 25 i = ini_C (ax_z μ 0) 25 i := fun i => (e 25 i (by simp [SRX, SG2])).trans (a4 25 i rfl)
    have c39 : μ2 39 0 = 0 := ((e 39 0 (by simp [SRX, SG2])).trans (a4 39 0 rfl)).trans f6
    have c49 : ∀ s, s < 4 → μ2 49 s = -1 ∧ μ2 50 s = 0 := fun s hs => ⟨((e 49 s (by simp [SRX, SG2])).trans (a4 49 s rfl)).trans (f7 s hs).1, ((e 50 s (by simp [SRX, SG2])).trans (a4 50 s rfl)).trans (f7 s hs).2⟩
    have m51 : ∀ i, i ≠ 4 → TX 0 51 i = false → μ5 51 i = 0 := fun i hi ht => by
      rw [e' 51 i ht]
      have : i ≠ 6 := fun z => by rw [z] at ht; cases ht
      rw [w_i this]
      exact q51 i hi
    have m60 : ∀ s, s < 4 → μ5 60 s = -1 ∧ μ5 61 s = 0 := fun s hs => by
      obtain ⟨i1, i2⟩ := ini_60 (ax_z μ2 51) s hs
      exact ⟨by rw [e' 60 s (by simp [TX]), w_k (by decide), m3 60 s (by decide)]; exact i1, by rw [e' 61 s (by simp [TX]), w_k (by decide), m3 61 s (by decide)]; exact i2⟩
    refine ⟨μ2, μ5, ?_, ?_, 0, (k_tv (k_W c1 c2 c3), fun _ => 0, fun _ => 0, fun _ => 0, fun _ => 0, fun _ => 0), 12, 0, 1, fun _ => k_tv (k_W c1 c2 c3), 0, fun _ => 0, (0, 0, 0, 0, fun _ => 0, fun _ => 0, fun _ => 0), (fun _ => -1, fun _ => 0, fun _ _ => 0), ⟨by omega, by omega, by omega, rfl, fun r hr => by omega, by omega, fun i hi => by omega, Or.inl rfl, fun k hk => ⟨Or.inl rfl, Nat.zero_le _⟩⟩, ?_, ?_⟩
    · rw [iniC_eq, a1, g6, bind2_some]
    · rw [ini_eq, m1, d1, bind2_some]
    · have hCC : KC 0 (k_tv (k_W c1 c2 c3), fun _ => 0, fun _ => 0, fun _ => 0, fun _ => 0, fun _ => 0) 12 0 1 (fun _ => k_tv (k_W c1 c2 c3)) 0 (fun _ => 0) (0, 0, 0, 0, fun _ => 0, fun _ => 0, fun _ => 0) (fun _ => -1, fun _ => 0, fun _ _ => 0) μ2 := by
        refine ⟨⟨⟨by omega, (c25 1).trans f3, fun r hr => by omega⟩, (c25 2).trans f4, (c25 3).trans f5⟩, ⟨g7, fun t ht => ?_⟩, ⟨b2, fun i hi => by omega⟩, ⟨c39, fun z => ?_⟩, fun k hk => ⟨(c49 k hk).1, (c49 k hk).2, fun i hi => ?_⟩⟩
        · have : t = 0 := by omega
          rw [this]
          exact g8
        · cases z
        · exact absurd hi (Nat.not_lt_zero i)
      exact hCC.fr (by omega) fun k i hk => hlo5 k i hk
    · refine ⟨⟨⟨by omega, m51 0 (by decide) rfl, fun r hr => by omega⟩, ?_, m51 10 (by decide) rfl⟩, ⟨d3, fun t ht => ?_, fun i hi => ?_⟩, ⟨d2, fun i hi => by omega⟩, ⟨m51 11 (by decide) rfl, fun z => ?_⟩, fun k hk => ⟨(m60 k hk).1, (m60 k hk).2, fun i hi => ?_⟩⟩
      · rw [e' 51 4 rfl, w_i (by decide), m3 51 4 (by decide)]
        exact ini_51h _
      · have : t = 0 := by omega
        rw [this]
        exact d4
      · rw [e' 64 i (by simp [TX])]
        exact hMB.2.2.2.2 i hi
      · cases z
      · exact absurd hi (Nat.not_lt_zero i)
theorem law_pure (xs : Nat → Int32) (L : Nat) (hL : L ≤ 3584) (μ : ax_M) : ∃ μ2 : ax_M, m_L_law xs L μ = some (1, μ2) := by
  obtain ⟨μ3, μ6, e1, e2, hK⟩ := law_ini μ
  have hfu : 4000 ≤ fu := by decide
  unfold m_L_law
  rw [e1, ob_some, e2, ob_some]
  exact law_loop xs hL 3600 0 fu μ6 rfl (by omega) hK
