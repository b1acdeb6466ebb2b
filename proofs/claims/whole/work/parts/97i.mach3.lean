/-! ===== texts: the model's reading is the machine, whole ===== -/
section
variable {ts t : Nat} {tb : Nat → Nat} {μ μ2 : ax_M}
/-- what the reading's end means in the model -/
def ER (t ts : Nat) (tb : Nat → Nat) (μ : ax_M) (o : Option (Int32 × ax_M)) (r : Option (List Nat) × Nat) : Prop := ∃ μ2, o = some (bI r.1.isSome, μ2) ∧ Ch (TR t) μ μ2 ∧ match r.1 with
  | none => μ2 51 19 = nI (kP tb ts r.2)
  | some X2 => μ2 51 18 = nI (k_ps tb ts r.2) ∧ MS t [] X2 μ2
theorem ER.tr {o : Option (Int32 × ax_M)} {r : Option (List Nat) × Nat} (h : ER t ts tb μ2 o r) (hc : Ch (TR t) μ μ2) : ER t ts tb μ o r := by
  obtain ⟨μ3, a1, a2, a3⟩ := h
  exact ⟨μ3, a1, hc.tr a2, a3⟩
theorem m_er : ∀ (n j : Nat) (w mn : Bool) (H X : List Nat) (μ : ax_M) (fl : Nat) (r : Option (List Nat) × Nat), k_mach (kT tb ts) n j w mn H X = some r → n ≤ fl → MB ts tb μ → MS t H X μ → μ 51 18 = nI (k_ps tb ts j) → H.length + X.length + n < 180 → ER t ts tb μ (m_X10_eRead_14 fl (bI w) (bI mn) μ) r := by
  intro n
  induction n with
  | zero => intro j w mn H X μ fl r h; cases w <;> cases h
  | succ n ih =>
    intro j w mn H X μ fl r hm hfl hB hS h18 hlen
    obtain ⟨fl, rfl⟩ : ∃ k2, fl = k2 + 1 := ⟨fl - 1, by omega⟩
    have hfu : 1000 ≤ fu := by decide
    obtain ⟨μ3, n1, n2, n3, n4, n5, n6⟩ := m_nxt hB h18 (ps_b j)
    have n2' : μ3 51 18 = nI (k_ps tb ts (j + 1)) := n2
    have n3' : μ3 51 19 = nI (kP tb ts j) := n3
    have n4' : μ3 51 20 = k_mt (kT tb ts j) := n4
    have n5' : VT (kT tb ts j) (μ3 51 21) := n5
    have hS3 := hS.tn n6
    have hB3 := hB.tn n6
    have hR3 : Ch (TR t) μ μ3 := tnR n6
    have hT := tk_v tb ts j
    obtain ⟨q1, q2, q6, q45, q40, q59, q41, -, -⟩ := mt_eq hT
    -- a failure here
    have hno : ∀ μ4, Ch (TU t) μ3 μ4 → ER t ts tb μ (some (0, μ4)) (none, j) := fun μ4 hc => ⟨μ4, rfl, hR3.tr (tuR hc), (hc 51 19 rfl).trans n3'⟩
    -- going on
    have hgo : ∀ (μ4 : ax_M) (w mn : Bool) (H X : List Nat), Ch (TU t) μ3 μ4 → MS t H X μ4 → H.length + X.length + n < 180 → k_mach (kT tb ts) n (j + 1) w mn H X = some r → ER t ts tb μ (m_X10_eRead_14 fl (bI w) (bI mn) μ4) r := fun μ4 w mn H X hc hS4 hl hk =>
      (ih (j + 1) w mn H X μ4 fl r hk (by omega) (hB3.tr (tuR hc)) hS4 ((hc 51 18 rfl).trans n2') hl).tr (hR3.tr (tuR hc))
    cases w with
    | true =>
      rw [k_mach] at hm
      rw [m_X10_eRead_14, n1, ob_some, if_neg (by decide), n4']
      simp only [q1, q2, q6]
      -- a number or a name
      have hnum : (kT tb ts j < 6 ∨ 23 ≤ kT tb ts j) → ER t ts tb μ (m_X10_eRead_38 (bI mn) (m_X10_eRead_14 fl) μ3) r := fun z => by
        rw [if_pos z] at hm
        have hput : m_X10_eRead_38 (bI mn) (m_X10_eRead_14 fl) μ3 = m_X10_eRead_61 (bI mn) (nI (k_mc (kT tb ts j))) (m_X10_eRead_14 fl) μ3 := by
          unfold m_X10_eRead_38
          rw [n4']
          simp only [q1]
          by_cases z2 : 23 ≤ kT tb ts j
          · rw [if_pos z2, n5'.2.2 z2, show (100000 : Int32) + nI (kT tb ts j - 23) = nI (100000 + (kT tb ts j - 23)) from nI_add 100000 _]
            unfold k_mc
            repeat' rw [if_neg (show ¬ _ by omega)]
          · have z3 : kT tb ts j < 6 := by omega
            rw [if_neg z2, n5'.1 z3]
            unfold k_mc
            rw [if_pos z3]
        obtain ⟨μ4, a1, a2, a3⟩ := m_put (c := kT tb ts j) hS3 (by omega)
        obtain ⟨μ5, b1, b2, b3⟩ := m_unw (t := t) (r := 7) (by omega) (by omega) (X := X) H (kT tb ts j :: X) fu μ4 (by omega) a2
        have hl := (un_b (r := 7) H (kT tb ts j :: X)).1
        rw [hput]
        unfold m_X10_eRead_61 m_X10_unwinds
        rw [a1, ob_some, show (7 : Int32) = nI 7 from rfl, b1, ob_some]
        exact hgo μ5 false mn _ _ (a3.tr b3) b2 (by simp at hl; omega) hm
      by_cases z1 : 23 ≤ kT tb ts j
      · rw [if_pos z1]
        exact hnum (Or.inr z1)
      · rw [if_neg z1]
        by_cases z2 : kT tb ts j < 6
        · rw [if_pos z2]
          exact hnum (Or.inl z2)
        · rw [if_neg z2]
          rw [if_neg (by omega)] at hm
          -- an opening
          have hop : ∀ (s : Nat) (mn2 : Bool), (s = 8 ∨ s = 17 ∨ s = 20) → (if k_cn H = 5 then some (none, j) else k_mach (kT tb ts) n (j + 1) true mn2 (s :: H) X) = some r → ER t ts tb μ (bind2 (m_X10_opensOne (nI (k_mc s)) μ3) fun v μ4 => if v = 0 then some (0, μ4) else m_X10_eRead_14 fl (bI true) (bI mn2) μ4) r := fun s mn2 hs hk => by
            obtain ⟨o1, o2⟩ := m_opn hS3 hs (show H.length + X.length < 180 by omega)
            by_cases z : k_cn H = 5
            · rw [if_pos z] at hk
              rw [o1 z, bind2_some, if_pos rfl]
              cases hk
              exact hno μ3 Ch.rf
            · rw [if_neg z] at hk
              obtain ⟨μ4, a1, a2, a3⟩ := o2 z
              rw [a1, bind2_some, if_neg (by decide)]
              exact hgo μ4 true mn2 _ _ a3 a2 (by simp; omega) hk
          have h99 : ¬ (kT tb ts j = 8 ∧ mn = true) → ER t ts tb μ (m_X10_eRead_99 (bI true) (m_X10_eRead_14 fl) μ3) r := fun z => by
            rw [if_neg z] at hm
            unfold m_X10_eRead_99
            rw [n4']
            simp only [q45, q40]
            by_cases y1 : kT tb ts j = 15
            · rw [if_pos y1] at hm ⊢
              exact hop 20 false (by omega) hm
            · rw [if_neg y1] at hm ⊢
              by_cases y2 : kT tb ts j = 17
              · rw [if_pos y2] at hm ⊢
                exact hop 17 true (by omega) hm
              · rw [if_neg y2] at hm ⊢
                cases hm
                exact hno μ3 Ch.rf
          by_cases z8 : kT tb ts j = 8
          · rw [if_pos z8]
            cases mn with
            | true =>
              rw [if_pos ⟨z8, rfl⟩] at hm
              rw [if_neg (by decide)]
              exact hop 8 true (by omega) hm
            | false =>
              rw [if_pos (by decide)]
              exact h99 (fun z => by cases z.2)
          · rw [if_neg z8]
            exact h99 (fun z => z8 z.1)
    | false =>
      rw [k_mach] at hm
      rw [m_X10_eRead_14, n1, ob_some, if_pos (by decide), n4']
      simp only [q59, q41]
      obtain ⟨μ4, b1, b2, b3⟩ := m_unw (t := t) (r := 1) (by omega) (by omega) (X := X) H X fu μ3 (by omega) hS3
      have hl := (un_b (r := 1) H X).1
      have hlb := (un_b (r := 1) H X).2.2
      have h24 : μ4 51 24 = nI (k_un 1 H X).1.length := b2.2.2.1
      have b1' : m_X10_unwinds_0 1 fu μ3 = some μ4 := b1
      have z0 : nI ([] : List Nat).length = 0 := rfl
      by_cases z19 : kT tb ts j = 19
      · rw [if_pos z19] at hm ⊢
        unfold m_X10_unwinds
        rw [b1', ob_some, h24]
        cases hp : k_un 1 H X with
        | mk P X2 =>
          rw [hp] at hm b2
          cases P with
          | nil =>
            cases hm
            dsimp only
            rw [if_pos z0]
            exact ⟨μ4, rfl, hR3.tr (tuR b3), (b3 51 18 rfl).trans n2', b2⟩
          | cons q P =>
            cases hm
            rw [hp] at hlb
            have hq : (q :: P).length = P.length + 1 := rfl
            have hlb' : (q :: P).length ≤ H.length := hlb
            dsimp only
            rw [if_neg (show ¬ nI (q :: P).length = 0 by rw [show (0 : Int32) = nI 0 from rfl, neqL (by omega) (by omega)]; omega)]
            exact hno μ4 b3
      · rw [if_neg z19] at hm ⊢
        by_cases z18 : kT tb ts j = 18
        · rw [if_pos z18] at hm ⊢
          unfold m_X10_unwinds
          rw [b1', ob_some, h24]
          cases hp : k_un 1 H X with
          | mk P X2 =>
            rw [hp] at hm b2 hl hlb
            cases P with
            | nil =>
              cases hm
              dsimp only
              rw [if_pos z0]
              exact hno μ4 b3
            | cons q P =>
              have hq17 : q = 17 := un1_hd hS.2.2.2.2.2.2.2.2 hp
              subst hq17
              have hq : (17 :: P).length = P.length + 1 := rfl
              have hlb' : (17 :: P).length ≤ H.length := hlb
              have hl' : (17 :: P).length + X2.length = H.length + X.length := hl
              have b2' : MS t (17 :: P) X2 μ4 := b2
              obtain ⟨m1, m2, m3, m4, m5, m6, m7, m8, m9⟩ := b2'
              have hc17 : k_cn (17 :: P) = k_cn P + 1 := rfl
              dsimp only
              rw [if_neg (show ¬ nI (17 :: P).length = 0 by rw [show (0 : Int32) = nI 0 from rfl, neqL (by omega) (by omega)]; omega)]
              rw [show nI (17 :: P).length - 1 = nI P.length from by rw [hq, nI_pred]]
              have w25 : (ax_w μ4 51 24 (nI P.length)) 51 25 = nI (k_cn P + 1) := by rw [w_i (by decide)]; exact m5
              rw [w25, nI_pred]
              have hS5 : MS t P X2 (ax_w (ax_w μ4 51 24 (nI P.length)) 51 25 (nI (k_cn P))) := ⟨m1, by rw [w_i (by decide), w_i (by decide)]; exact m2, by rw [w_i (by decide), w_ss], m4.2.fr fun i _ => by rw [w_k (by decide), w_k (by decide)], w_ss, by rw [w_i (by decide), w_i (by decide)]; exact m6, m7.fr fun i _ _ => by rw [w_k (by decide), w_k (by decide)], by omega, fun q hq => m9 q (List.mem_cons_of_mem _ hq)⟩
              have hc5 : Ch (TU t) μ4 (ax_w (ax_w μ4 51 24 (nI P.length)) 51 25 (nI (k_cn P))) := (Ch.rf.w rfl).w rfl
              obtain ⟨μ6, c1, c2, c3⟩ := m_unw (t := t) (r := 7) (by omega) (by omega) (X := X) P X2 fu _ (by omega) hS5
              have hl7 := (un_b (r := 7) P X2).1
              rw [show m_X10_unwinds_0 7 fu _ = some μ6 from c1, ob_some]
              exact hgo μ6 false mn _ _ ((b3.tr hc5).tr c3) c2 (by omega) hm
        · rw [if_neg z18] at hm ⊢
          rw [m_sof hT n4', ob_some]
          cases hb : k_bn (kT tb ts j) with
          | false =>
            rw [hb] at hm
            rw [if_neg (show ¬ (false = true) by decide), if_pos rfl]
            rw [if_neg (show ¬ (false = true) by decide)] at hm
            cases hm
            exact hno μ3 Ch.rf
          | true =>
            rw [hb, if_pos rfl] at hm
            rw [if_pos rfl]
            obtain ⟨y1, y2⟩ := m_btw hS3 hb (show H.length + X.length < 180 by omega)
            have hbc : kT tb ts j = 6 ∨ kT tb ts j = 7 ∨ kT tb ts j = 12 ∨ kT tb ts j = 13 ∨ kT tb ts j = 14 ∨ kT tb ts j = 15 ∨ kT tb ts j = 16 := by
              unfold k_bn at hb
              simp at hb
              omega
            have hne : ¬ nI (k_mc (kT tb ts j)) = -1 := by rcases hbc with e | e | e | e | e | e | e <;> rw [e] <;> decide
            have h12 : ((12 : Int32) < nI (k_mc (kT tb ts j))) = ¬ (kT tb ts j = 6 ∨ kT tb ts j = 7) := by rcases hbc with e | e | e | e | e | e | e <;> rw [e] <;> decide
            rw [if_neg hne]
            simp only [h12]
            by_cases z : k_rk (kT tb ts j) = 4 ∧ k_h4 (k_un (if k_rk (kT tb ts j) = 4 then 5 else k_rk (kT tb ts j)) H X).1 = true
            · rw [if_pos z] at hm
              obtain ⟨μ5, d1, d2⟩ := y1 z
              rw [d1, bind2_some, if_pos rfl]
              cases hm
              exact hno μ5 d2
            · rw [if_neg z] at hm
              obtain ⟨μ5, d1, d2, d3⟩ := y2 z
              have hl5 := (un_b (r := if k_rk (kT tb ts j) = 4 then 5 else k_rk (kT tb ts j)) H X).1
              rw [d1, bind2_some, if_neg (by decide)]
              by_cases z6 : kT tb ts j = 6 ∨ kT tb ts j = 7
              · rw [if_neg (fun y => y z6)]
                rw [show decide (kT tb ts j = 6 ∨ kT tb ts j = 7) = true from by simp [z6]] at hm
                exact hgo μ5 true true _ _ d3 d2 (by simp; omega) hm
              · rw [if_pos z6]
                rw [show decide (kT tb ts j = 6 ∨ kT tb ts j = 7) = false from by simp [z6]] at hm
                exact hgo μ5 true false _ _ d3 d2 (by simp; omega) hm
end
