/-! ===== texts: one, and the recursion ===== -/
theorem fa_rel {T : Nat → Nat} {j : Nat} {mn : Bool} {S H X : List Nat} (hE : EX1 (T j) S) (h19 : ¬ T j = 19) (h18 : ¬ T j = 18) : Fl T 1 j false mn (S ++ H) X j := by
  intro k
  rw [k_mach, if_neg h19, if_neg h18]
  cases hb : k_bn (T j) with
  | false => rw [if_neg (by decide)]
  | true =>
    have hc := bn_of hb
    obtain ⟨e6, e7, ⟨e5, e16, -⟩, hr⟩ := hE
    have ht : T j = 12 ∨ T j = 13 := by omega
    obtain ⟨S5, r, S', e, g5, g4⟩ := hr ht
    have hrk : k_rk (T j) = 4 := by rcases ht with z | z <;> rw [z] <;> rfl
    have hun : k_un 5 (S ++ H) X = (r :: (S' ++ H), S5.reverse ++ X) := by
      rw [e, show S5 ++ r :: S' ++ H = S5 ++ (r :: (S' ++ H)) from by simp]
      exact un_app (H := r :: (S' ++ H)) (show k_rk r < 5 by omega) S5 X g5
    rw [if_pos rfl, if_pos]
    refine ⟨hrk, ?_⟩
    rw [if_pos hrk, hun]
    simp [k_h4, g4]
theorem fa_close {T : Nat → Nat} {j : Nat} {mn : Bool} {S H X : List Nat} (hE : EX1 (T j) S) (hS : ∀ s ∈ S, 1 ≤ k_rk s) (h18 : ¬ T j = 18) : Fl T 1 j false mn (S ++ 17 :: H) X j := by
  by_cases h19 : T j = 19
  · intro k
    have hun : k_un 1 (S ++ 17 :: H) X = (17 :: H, S.reverse ++ X) := un_app (H := 17 :: H) (show k_rk 17 < 1 by decide) S X hS
    rw [k_mach, if_pos h19, hun]
  · exact fa_rel hE h19 h18
theorem fa_top {T : Nat → Nat} {j : Nat} {mn : Bool} {S X : List Nat} (hE : EX1 (T j) S) (hS : ∀ s ∈ S, 1 ≤ k_rk s) (h19 : ¬ T j = 19) : Fl T 1 j false mn S X j := by
  by_cases h18 : T j = 18
  · intro k
    have hun : k_un 1 S X = ([], S.reverse ++ X) := by
      have := un_app (H := []) (show HC 1 [] from trivial) S X hS
      rw [List.append_nil] at this
      exact this
    rw [k_mach, if_neg h19, if_pos h18, hun]
  · have := fa_rel (H := []) (mn := mn) (X := X) hE h19 h18
    rw [List.append_nil] at this
    exact this
section
variable {ts K o : Nat} {tb : Nat → Nat} {μ μ2 : ax_M} {kOne kOr kNot : Int32 → ax_M → Option ax_M}
theorem po_one (ho : o ≤ 5) (hA : o < 5 → PO ts tb K (o + 1) kOne) (hO : o < 5 → PL ts tb K 1 SC2 1 EX1 (o + 1) kOr) : PO ts tb K o (m_X3_readOne kOne kOr kNot) := by
  intro j O μ mn H X hC hH hS
  have hT := tk_v tb ts j
  unfold m_X3_readOne
  rw [show (15 : Int32) = nI 15 from rfl, hC.at 15 (by omega), ob_some, show (17 : Int32) = nI 17 from rfl, hC.at 17 (by omega), ob_some]
  by_cases z15 : kT tb ts j = 15
  · rw [if_neg (by simp [z15, bI])]
    obtain ⟨p1, p2⟩ := hC.opn (show kT tb ts j ≠ 21 by omega) ho
    by_cases z5 : o = 5
    · obtain ⟨μ3, a1, a2, a3⟩ := p1 z5
      rw [a1, bind2_some, if_pos rfl]
      refine ⟨μ3, rfl, a3, Or.inr ⟨0, a2, fun k => ?_⟩⟩
      show k_mach (kT tb ts) (k + 1) j true mn H X = _
      rw [k_mach, if_neg (by omega), if_neg (by omega), if_pos z15, if_pos (by omega)]
      rfl
    · obtain ⟨μ3, a1, a2, a3⟩ := p2 (by omega)
      have hcn : k_cn (20 :: H) = o + 1 := by rw [k_cn, hH]; rfl
      obtain ⟨μ4, b1, b2, b3⟩ := hA (by omega) (j + 1) O μ3 false (20 :: H) X a2 hcn (fun w => by cases w)
      have hst : Rch (kT tb ts) 1 j true mn H X true false (20 :: H) X := fun k => by
        rw [k_mach, if_neg (by omega), if_neg (by omega), if_pos z15, if_neg (by omega)]
      rw [a1, bind2_some, if_neg (by decide), na1, b1, ob_some]
      rcases b3 with ⟨a, cs, mn', g0, g1, g2, g3, g7⟩ | ⟨a, g1, g2⟩
      · have hlen : (cs ++ O).length < j + 1 + a := by
          have := hC.2.2.2.2.2.2.2
          simp
          omega
        obtain ⟨μ5, d1, d2, d3⟩ := g1.wr 20 hlen
        rw [show (20 : Int32) = nI 20 from rfl, d1, ob_some]
        refine ⟨μ5, rfl, (a3.tr b2).tr d3, Or.inl ⟨1 + a, 20 :: cs, mn', by omega, ?_, good_u (Or.inr rfl) g2, by simp; omega, ?_⟩⟩
        · rw [show j + (1 + a) = j + 1 + a by omega]
          exact d2
        · exact hst.tr g7
      · obtain ⟨μ5, d1, d2, d3⟩ := g1.wr (nI 20)
        rw [show (20 : Int32) = nI 20 from rfl, d1, ob_some]
        refine ⟨μ5, rfl, (a3.tr b2).tr d3, Or.inr ⟨1 + a, ?_, ?_⟩⟩
        · rw [show j + (1 + a) = j + 1 + a by omega]
          exact d2
        · have := hst.fl g2
          rw [show 1 + (a + 1) = 1 + a + 1 by omega] at this
          rw [show j + (1 + a) = j + 1 + a by omega]
          exact this
  · rw [if_pos (by simp [z15, bI])]
    by_cases z17 : kT tb ts j = 17
    · rw [if_neg (by simp [z17, bI])]
      obtain ⟨p1, p2⟩ := hC.opn (show kT tb ts j ≠ 21 by omega) ho
      by_cases z5 : o = 5
      · obtain ⟨μ3, a1, a2, a3⟩ := p1 z5
        rw [a1, bind2_some, if_pos rfl]
        refine ⟨μ3, rfl, a3, Or.inr ⟨0, a2, fun k => ?_⟩⟩
        show k_mach (kT tb ts) (k + 1) j true mn H X = _
        rw [k_mach, if_neg (by omega), if_neg (by omega), if_neg z15, if_pos z17, if_pos (by omega)]
        rfl
      · obtain ⟨μ3, a1, a2, a3⟩ := p2 (by omega)
        have hcn : k_cn (17 :: H) = o + 1 := by rw [k_cn, hH]; rfl
        obtain ⟨μ4, b1, b2, b3⟩ := hO (by omega) (j + 1) O μ3 true (17 :: H) X a2 hcn rfl (by show k_rk 17 < 1; decide)
        have hst : Rch (kT tb ts) 1 j true mn H X true true (17 :: H) X := fun k => by
          rw [k_mach, if_neg (by omega), if_neg (by omega), if_neg z15, if_pos z17, if_neg (by omega)]
        rw [a1, bind2_some, if_neg (by decide), na1, b1, ob_some, show (18 : Int32) = nI 18 from rfl]
        rcases b3 with ⟨a, cs, mn', S, X1, g0, g1, g2, g3, g4, g5, g6, g7⟩ | ⟨a, g1, g2⟩
        · obtain ⟨r1, r2⟩ := g1.dem 18 (by omega) (by omega)
          by_cases z18 : kT tb ts (j + 1 + a) = 18
          · obtain ⟨μ5, d1, d2, d3⟩ := r1 z18
            rw [d1, ob_some]
            refine ⟨μ5, rfl, (a3.tr b2).tr d3, Or.inl ⟨1 + a + 1, cs, mn', by omega, ?_, g2, by omega, ?_⟩⟩
            · rw [show j + (1 + a + 1) = j + 1 + a + 1 by omega]
              exact d2
            · refine (hst.tr g7).tr (b := 1) fun k => ?_
              have hun : k_un 1 (S ++ 17 :: H) (X1 ++ X) = (17 :: H, cs ++ X) := by
                have := un_app (H := 17 :: H) (show k_rk 17 < 1 by decide) S (X1 ++ X) g5
                rw [this, g4]
                simp
              show k_mach (kT tb ts) (k + 1) (j + (1 + a)) false mn' (S ++ 17 :: H) (X1 ++ X) = _
              rw [show j + (1 + a) = j + 1 + a by omega, k_mach, if_neg (by omega), if_pos z18, hun]
          · obtain ⟨μ5, d1, d2, d3⟩ := r2 z18
            rw [d1, ob_some]
            refine ⟨μ5, rfl, (a3.tr b2).tr d3, Or.inr ⟨1 + a, ?_, ?_⟩⟩
            · rw [show j + (1 + a) = j + 1 + a by omega]
              exact d2
            · refine (hst.tr g7).fl ?_
              rw [show j + (1 + a) = j + 1 + a by omega]
              exact fa_close g6 g5 z18
        · obtain ⟨μ5, d1, d2, d3⟩ := g1.dem (nI 18)
          rw [d1, ob_some]
          refine ⟨μ5, rfl, (a3.tr b2).tr d3, Or.inr ⟨1 + a, ?_, ?_⟩⟩
          · rw [show j + (1 + a) = j + 1 + a by omega]
            exact d2
          · have := hst.fl g2
            rw [show 1 + (a + 1) = 1 + a + 1 by omega] at this
            rw [show j + (1 + a) = j + 1 + a by omega]
            exact this
    · rw [if_pos (by simp [z17, bI]), hC.2.2.2.1, if_pos rfl, hC.2.2.2.2.1]
      have hj : j < 161 := by have := hC.1.2.1; have := hC.2.1; have := hC.2.2.1; omega
      have e20 : μ 20 j = nI (kT tb ts j) := (hC.1.2.2.1 j hC.2.2.1).1
      have hlt := kT_lt (tb := tb) (ts := ts) j
      rw [ix_nI hj (by decide), ob_some, ob_some, e20]
      simp only [show ((23 : Int32) ≤ nI (kT tb ts j)) = (23 ≤ kT tb ts j) from nleL (a := 23) (by decide) (by omega), show ((6 : Int32) ≤ nI (kT tb ts j)) = (6 ≤ kT tb ts j) from nleL (a := 6) (by decide) (by omega)]
      -- a number or a name
      have hnum : (kT tb ts j < 6 ∨ 23 ≤ kT tb ts j) → ∃ μ2, m_X3_readOne_107 kOne kOr kNot μ = some μ2 ∧ Ch SF μ μ2 ∧ ((∃ a cs mn', 0 < a ∧ CS ts tb K (j + a) (cs ++ O) μ2 ∧ Good cs ∧ cs.length ≤ a ∧ Rch (kT tb ts) a j true mn H X false mn' (k_un 7 H (cs ++ X)).1 (k_un 7 H (cs ++ X)).2) ∨ FailR ts tb K j mn H X μ2) := fun z => by
        have hK : j < K := hC.lt (by omega)
        have hh := hC
        obtain ⟨h0, s1, s2, s3, s4, s5, s6, s7⟩ := hh
        have hKts := h0.2.1
        have hc1 : Ch SF μ (ax_w (ax_w μ 22 3 (nI (O.length + 1))) 23 O.length (nI (kT tb ts j))) := (Ch.rf.w rfl).w rfl
        have hc2 : Ch SF μ (ax_w (ax_w (ax_w μ 22 3 (nI (O.length + 1))) 23 O.length (nI (kT tb ts j))) 22 4 (nI (j + 1))) := hc1.w rfl
        refine ⟨ax_w (ax_w (ax_w μ 22 3 (nI (O.length + 1))) 23 O.length (nI (kT tb ts j))) 22 4 (nI (j + 1)), ?_, hc2, Or.inl ⟨1, [kT tb ts j], mn, by omega, ⟨h0.fr hc2, s1, by omega, ?_, w_ss, ?_, ⟨?_, ?_⟩, by simp; omega⟩, good_1 (by omega), by simp, fun k => ?_⟩⟩
        · unfold m_X3_readOne_107 m_X3_write m_X3_goOn
          have w18 : (ax_w (ax_w μ 22 3 (nI (O.length + 1))) 23 O.length (nI (kT tb ts j))) 18 4 = nI (K + 1) := by rw [w_k (by decide), w_k (by decide)]; exact h0.1
          have w22 : (ax_w (ax_w μ 22 3 (nI (O.length + 1))) 23 O.length (nI (kT tb ts j))) 22 4 = nI j := by rw [w_k (by decide), w_i (by decide)]; exact s4
          rw [s4, ix_nI hj (by decide), ob_some, e20, s5, if_neg (by rw [show (160 : Int32) = nI 160 from rfl, nleL (by omega) (by omega)]; omega), ix_nI (show O.length < 160 by omega) (by decide), ob_some, ob_some, na1, w18, w22, nI_pred, if_neg (by rw [nleL (by omega) (by omega)]; omega), na1, ob_some]
        · rw [w_i (by decide), w_k (by decide), w_i (by decide)]; exact s3
        · rw [w_i (by decide), w_k (by decide), w_ss]; rfl
        · rw [w_k (by decide)]; exact w_ss
        · exact s6.fr fun i hi => by rw [w_k (by decide), w_i (by omega), w_k (by decide)]
        · rw [k_mach, if_pos z]
          rfl
      by_cases z23 : 23 ≤ kT tb ts j
      · rw [if_pos z23]
        exact hnum (Or.inr z23)
      · rw [if_neg z23]
        by_cases z6 : 6 ≤ kT tb ts j
        · rw [if_pos z6]
          obtain ⟨w1, w2⟩ := hC.bad
          refine ⟨_, rfl, w2, Or.inr ⟨0, w1, fun k => ?_⟩⟩
          show k_mach (kT tb ts) (k + 1) j true mn H X = _
          rw [k_mach, if_neg (by omega), if_neg (fun w => hS w.2 w.1), if_neg z15, if_neg z17]
          rfl
        · rw [if_neg z6]
          exact hnum (Or.inl (by omega))
theorem rd_all : ∀ (n o : Nat), 6 ≤ n + o → o ≤ 5 → PO ts tb K o (f_rd n 2) ∧ PL ts tb K 1 SC2 1 EX1 o (f_rd n 0) ∧ PL ts tb K 3 SC2 4 EX3 o (f_rd n 1) := by
  intro n
  induction n with
  | zero => intro o h1 h2; omega
  | succ n ih =>
    intro o h1 h2
    have hA : o < 5 → PO ts tb K (o + 1) (f_rd n 2) := fun h => (ih (o + 1) (by omega) (by omega)).1
    have hO : o < 5 → PL ts tb K 1 SC2 1 EX1 (o + 1) (f_rd n 0) := fun h => (ih (o + 1) (by omega) (by omega)).2.1
    have hN : o < 5 → PL ts tb K 3 SC2 4 EX3 (o + 1) (f_rd n 1) := fun h => (ih (o + 1) (by omega) (by omega)).2.2
    have h1' : PO ts tb K o (m_X3_readOne (f_rd n 2) (f_rd n 0) (f_rd n 1)) := po_one h2 hA hO
    have h3 : PL ts tb K 3 SC2 4 EX3 o (m_X3_readNot (f_rd n 2) (f_rd n 0) (f_rd n 1)) := pl_not h2 (pl_sum (pl_term h1')) hN
    have h4 : PL ts tb K 1 SC2 1 EX1 o (m_X3_readOr (f_rd n 2) (f_rd n 0) (f_rd n 1)) := pl_or (pl_and h3)
    exact ⟨h1'.w fun μ => by rw [f_rd, if_neg (by omega), if_neg (by omega)], h4.w fun μ => by rw [f_rd, if_pos rfl], h3.w fun μ => by rw [f_rd, if_neg (by omega), if_pos rfl]⟩
end
