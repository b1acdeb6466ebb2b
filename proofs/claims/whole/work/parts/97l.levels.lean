/-! ===== texts: the class' grammar, level by level ===== -/
def EX6 (t : Nat) (_ : List Nat) : Prop := ¬ t = 16 ∧ True
def EX5 (t : Nat) (S : List Nat) : Prop := ¬ (t = 14 ∨ t = 15) ∧ EX6 t S
def EX3 (t : Nat) (S : List Nat) : Prop := EX5 t S ∧ RelOK t S
def EX2 (t : Nat) (S : List Nat) : Prop := ¬ t = 7 ∧ EX3 t S
def EX1 (t : Nat) (S : List Nat) : Prop := ¬ t = 6 ∧ EX2 t S
theorem RelOK.app {t : Nat} {S : List Nat} (h : RelOK t S) (S' : List Nat) : RelOK t (S ++ S') := by
  intro ht
  obtain ⟨S5, r, S2, e, h5, h4⟩ := h ht
  exact ⟨S5, r, S2 ++ S', by rw [e]; simp, h5, h4⟩
theorem EX3.app {t : Nat} {S : List Nat} (h : EX3 t S) (S' : List Nat) : EX3 t (S ++ S') := ⟨h.1, h.2.app S'⟩
section
variable {ts K o : Nat} {tb : Nat → Nat} {μ μ2 : ax_M} {kOne kOr kNot : Int32 → ax_M → Option ax_M}
theorem PL.w {l hc : Nat} {SC : Bool → Nat → Prop} {EX : Nat → List Nat → Prop} {f g : Int32 → ax_M → Option ax_M} (h : PL ts tb K l SC hc EX o f) (hg : ∀ μ, g (nI o) μ = f (nI o) μ) : PL ts tb K l SC hc EX o g := by
  intro j O μ mn H X hC hH hS
  rw [hg]
  exact h j O μ mn H X hC hH hS
theorem i160 {i : Nat} (hi : i < 160) : ¬ (160 : Int32) ≤ nI i := by rw [show (160 : Int32) = nI 160 from rfl, nleL (by omega) (by omega)]; omega
theorem pl_term (h : PO ts tb K o (m_X3_readOne kOne kOr kNot)) : PL ts tb K 6 SC1 6 EX6 o (m_X3_readTerm kOne kOr kNot) := by
  refine (pl_loop (Sg := fun t => t = 16) (r := 6) (L := m_X3_readTerm_7 kOne kOr kNot (nI o)) (fun t => Decidable.em _) h.l (by omega) (by omega) (by omega) (fun t z => by subst z; exact ⟨rfl, rfl⟩) (fun t u z => by subst z; intro w; cases w) (fun _ _ _ _ => trivial) (fun n i μ j O hC hi => ?_) (fun n i μ j hC => ?_)).w (fun μ => rfl)
  · rw [m_X3_readTerm_7, if_neg (i160 hi), show (16 : Int32) = nI 16 from rfl, hC.at 16 (by omega), ob_some]
    refine ⟨fun z => ?_, fun z => ?_⟩
    · rw [if_pos (by simp [z, bI])]
    · rw [if_neg (by simp [z, bI]), z, na1]
  · rw [m_X3_readTerm_7, hC.at, ob_some, if_pos rfl]
    by_cases z : (160 : Int32) ≤ i
    · rw [if_pos z]
    · rw [if_neg z]
theorem pl_sum (h : PL ts tb K 6 SC1 6 EX6 o (m_X3_readTerm kOne kOr kNot)) : PL ts tb K 5 SC1 5 EX5 o (m_X3_readSum kOne kOr kNot) := by
  refine (pl_loop (Sg := fun t => t = 14 ∨ t = 15) (r := 5) (L := m_X3_readSum_7 kOne kOr kNot (nI o)) (fun t => Decidable.em _) h (by omega) (by omega) (by omega) (fun t z => by rcases z with rfl | rfl <;> exact ⟨rfl, rfl⟩) (fun t u z => by rcases z with rfl | rfl <;> (intro w; cases w)) (fun _ _ _ z => z) (fun n i μ j O hC hi => ?_) (fun n i μ j hC => ?_)).w (fun μ => rfl)
  · rw [m_X3_readSum_7, if_neg (i160 hi), show (14 : Int32) = nI 14 from rfl, hC.at 14 (by omega), ob_some, show (15 : Int32) = nI 15 from rfl, hC.at 15 (by omega), ob_some]
    have e20 : μ 20 j = nI (kT tb ts j) := (hC.1.2.2.1 j hC.2.2.1).1
    have hj : j < 161 := by have := hC.1.2.1; have := hC.2.1; have := hC.2.2.1; omega
    refine ⟨fun z => ?_, fun z => ?_⟩
    · have z1 : ¬ kT tb ts j = 14 := fun w => z (Or.inl w)
      have z2 : ¬ kT tb ts j = 15 := fun w => z (Or.inr w)
      rw [if_pos (by simp [z1, bI]), if_pos (by simp [z2, bI])]
    · unfold m_X3_readSum_32
      rw [hC.2.2.2.2.1, ix_nI hj (by decide), ob_some, e20, na1]
      by_cases z1 : kT tb ts j = 14
      · rw [if_neg (by simp [z1, bI])]
      · have z2 : kT tb ts j = 15 := by omega
        rw [if_pos (by simp [z1, bI]), if_neg (by simp [z2, bI])]
  · rw [m_X3_readSum_7, hC.at, ob_some, if_pos rfl, hC.at, ob_some, if_pos rfl]
    by_cases z : (160 : Int32) ≤ i
    · rw [if_pos z]
    · rw [if_neg z]
theorem pl_and (h : PL ts tb K 3 SC2 4 EX3 o (m_X3_readNot kOne kOr kNot)) : PL ts tb K 2 SC2 2 EX2 o (m_X3_readAnd kOne kOr kNot) := by
  refine (pl_loop (Sg := fun t => t = 7) (r := 2) (L := m_X3_readAnd_7 kOne kOr kNot (nI o)) (fun t => Decidable.em _) h (by omega) (by omega) (by omega) (fun t z => by subst z; exact ⟨rfl, rfl⟩) (fun t u z => by subst z; rfl) (fun _ _ S' z => z.app S') (fun n i μ j O hC hi => ?_) (fun n i μ j hC => ?_)).w (fun μ => rfl)
  · rw [m_X3_readAnd_7, if_neg (i160 hi), show (7 : Int32) = nI 7 from rfl, hC.at 7 (by omega), ob_some]
    refine ⟨fun z => ?_, fun z => ?_⟩
    · rw [if_pos (by simp [z, bI])]
    · rw [if_neg (by simp [z, bI]), z, na1]
  · rw [m_X3_readAnd_7, hC.at, ob_some, if_pos rfl]
    by_cases z : (160 : Int32) ≤ i
    · rw [if_pos z]
    · rw [if_neg z]
theorem pl_or (h : PL ts tb K 2 SC2 2 EX2 o (m_X3_readAnd kOne kOr kNot)) : PL ts tb K 1 SC2 1 EX1 o (m_X3_readOr kOne kOr kNot) := by
  refine (pl_loop (Sg := fun t => t = 6) (r := 1) (L := m_X3_readOr_7 kOne kOr kNot (nI o)) (fun t => Decidable.em _) h (by omega) (by omega) (by omega) (fun t z => by subst z; exact ⟨rfl, rfl⟩) (fun t u z => by subst z; rfl) (fun _ _ S' z => ⟨z.1, z.2.app S'⟩) (fun n i μ j O hC hi => ?_) (fun n i μ j hC => ?_)).w (fun μ => rfl)
  · rw [m_X3_readOr_7, if_neg (i160 hi), show (6 : Int32) = nI 6 from rfl, hC.at 6 (by omega), ob_some]
    refine ⟨fun z => ?_, fun z => ?_⟩
    · rw [if_pos (by simp [z, bI])]
    · rw [if_neg (by simp [z, bI]), z, na1]
  · rw [m_X3_readOr_7, hC.at, ob_some, if_pos rfl]
    by_cases z : (160 : Int32) ≤ i
    · rw [if_pos z]
    · rw [if_neg z]
theorem pl_not (ho : o ≤ 5) (h : PL ts tb K 5 SC1 5 EX5 o (m_X3_readSum kOne kOr kNot)) (hN : o < 5 → PL ts tb K 3 SC2 4 EX3 (o + 1) kNot) : PL ts tb K 3 SC2 4 EX3 o (m_X3_readNot kOne kOr kNot) := by
  intro j O μ mn H X hC hH hS hHC
  have hmn : mn = true := hS
  subst hmn
  unfold m_X3_readNot
  rw [show (8 : Int32) = nI 8 from rfl, hC.at 8 (by omega), ob_some]
  by_cases z8 : kT tb ts j = 8
  · rw [if_neg (by simp [z8, bI])]
    obtain ⟨p1, p2⟩ := hC.opn (show kT tb ts j ≠ 21 by omega) ho
    by_cases z5 : o = 5
    · obtain ⟨μ3, a1, a2, a3⟩ := p1 z5
      rw [a1, bind2_some, if_pos rfl]
      refine ⟨μ3, rfl, a3, Or.inr ⟨0, a2, fun k => ?_⟩⟩
      show k_mach (kT tb ts) (k + 1) j true true H X = _
      rw [k_mach, if_neg (by omega), if_pos ⟨z8, rfl⟩, if_pos (by omega)]
      rfl
    · obtain ⟨μ3, a1, a2, a3⟩ := p2 (by omega)
      have hcn : k_cn (8 :: H) = o + 1 := by rw [k_cn, hH]; rfl
      obtain ⟨μ4, b1, b2, b3⟩ := hN (by omega) (j + 1) O μ3 true (8 :: H) X a2 hcn rfl (by show k_rk 8 < 4; decide)
      have hst : Rch (kT tb ts) 1 j true true H X true true (8 :: H) X := fun k => by
        rw [k_mach, if_neg (by omega), if_pos ⟨z8, rfl⟩, if_neg (by omega)]
      rw [a1, bind2_some, if_neg (by decide), na1, b1, ob_some]
      rcases b3 with ⟨a, cs, mn', S, X1, g0, g1, g2, g3, g4, g5, g6, g7⟩ | ⟨a, g1, g2⟩
      · have hlen : (cs ++ O).length < j + 1 + a := by
          have := hC.2.2.2.2.2.2.2
          simp
          omega
        obtain ⟨μ5, d1, d2, d3⟩ := g1.wr 8 hlen
        rw [d1, ob_some]
        refine ⟨μ5, rfl, (a3.tr b2).tr d3, Or.inl ⟨1 + a, 8 :: cs, mn', S ++ [8], X1, by omega, ?_, good_u (Or.inl rfl) g2, by simp; omega, ?_, ?_, ?_, ?_⟩⟩
        · rw [show j + (1 + a) = j + 1 + a by omega]
          exact d2
        · rw [g4]; simp
        · intro s hs
          rcases List.mem_append.mp hs with y | y
          · exact g5 s y
          · rw [List.mem_singleton] at y
            rw [y]
            decide
        · rw [show j + (1 + a) = j + 1 + a by omega]
          exact g6.app [8]
        · rw [show S ++ [8] ++ H = S ++ 8 :: H from by simp]
          exact hst.tr g7
      · obtain ⟨μ5, d1, d2, d3⟩ := g1.wr (nI 8)
        rw [d1, ob_some]
        refine ⟨μ5, rfl, (a3.tr b2).tr d3, Or.inr ⟨1 + a, ?_, ?_⟩⟩
        · rw [show j + (1 + a) = j + 1 + a by omega]
          exact d2
        · have := hst.fl g2
          rw [show 1 + (a + 1) = 1 + a + 1 by omega] at this
          rw [show j + (1 + a) = j + 1 + a by omega]
          exact this
  · rw [if_pos (by simp [z8, bI])]
    obtain ⟨μ3, a1, hA2, a3⟩ := h j O μ true H X hC hH (fun _ => z8) (hHC.mono (by omega))
    rw [a1, ob_some]
    rcases a3 with ⟨a, cs, mn', S, X1, g0, g1, g2, g3, g4, g5, g6, g7⟩ | ⟨a, g1, g2⟩
    · rw [show (12 : Int32) = nI 12 from rfl, g1.at 12 (by omega), ob_some, show (13 : Int32) = nI 13 from rfl, g1.at 13 (by omega), ob_some]
      by_cases zr : kT tb ts (j + a) = 12 ∨ kT tb ts (j + a) = 13
      · have hj : j + a < 161 := by have := g1.1.2.1; have := g1.2.1; have := g1.2.2.1; omega
        have e20 : μ3 20 (j + a) = nI (kT tb ts (j + a)) := (g1.1.2.2.1 (j + a) g1.2.2.1).1
        obtain ⟨μ5, c1, c2, c3⟩ := g1.go (g1.lt (by omega))
        have hcn : k_cn (kT tb ts (j + a) :: H) = o := by rw [k_cn, if_neg (by omega)]; exact hH
        have hrk : k_rk (kT tb ts (j + a)) = 4 := by rcases zr with e | e <;> rw [e] <;> rfl
        have hbn : k_bn (kT tb ts (j + a)) = true := by rcases zr with e | e <;> rw [e] <;> rfl
        obtain ⟨μ8, d1, d2, d3⟩ := h (j + a + 1) (cs ++ O) μ5 false (kT tb ts (j + a) :: H) (cs ++ X) c2 hcn (fun w => by cases w) (by show k_rk _ < 5; omega)
        have hstep := g7.tr (st_rel (T := kT tb ts) (j := j + a) (mn := mn') (X1 := X1) (X := X) zr g5 hHC)
        rw [show S.reverse ++ X1 ++ X = cs ++ X from by rw [g4]] at hstep
        have h54 : (if bI (decide (kT tb ts (j + a) = 12)) = 0 then (if bI (decide (kT tb ts (j + a) = 13)) = 0 then some μ3 else m_X3_readNot_54 kOne kOr kNot (nI o) μ3) else m_X3_readNot_54 kOne kOr kNot (nI o) μ3) = (m_X3_write (nI (kT tb ts (j + a))) μ8).bind fun μ11 => some μ11 := by
          have : m_X3_readNot_54 kOne kOr kNot (nI o) μ3 = (m_X3_write (nI (kT tb ts (j + a))) μ8).bind fun μ11 => some μ11 := by
            unfold m_X3_readNot_54
            rw [g1.2.2.2.2.1, ix_nI hj (by decide), ob_some, c1, ob_some, d1, ob_some, e20]
          rw [this]
          rcases zr with e | e
          · rw [if_neg (by simp [e, bI])]
          · rw [if_neg (show ¬ bI (decide (kT tb ts (j + a) = 13)) = 0 by simp [e, bI])]
            split <;> rfl
        rw [h54]
        rcases d3 with ⟨a2, cs2, mn2, S2, X2, e0, e1, e2, e3, e4, e5, e6, e7⟩ | ⟨a2, e1, e2⟩
        · have hlen2 : (cs2 ++ (cs ++ O)).length < j + a + 1 + a2 := by
            have := g1.2.2.2.2.2.2.2
            simp at this ⊢
            omega
          obtain ⟨μ13, f1, f2, f3⟩ := e1.wr (kT tb ts (j + a)) hlen2
          have hja : j + (a + 1 + a2) = j + a + 1 + a2 := by omega
          rw [f1, ob_some]
          refine ⟨μ13, rfl, ((hA2.tr c3).tr d2).tr f3, Or.inl ⟨a + 1 + a2, kT tb ts (j + a) :: (cs2 ++ cs), mn2, S2 ++ [kT tb ts (j + a)], X2 ++ cs, by omega, ?_, good_b hbn g2 e2, by simp; omega, by rw [e4]; simp, ?_, ?_, ?_⟩⟩
          · rw [hja]
            have : kT tb ts (j + a) :: (cs2 ++ cs) ++ O = kT tb ts (j + a) :: (cs2 ++ (cs ++ O)) := by simp
            rw [this]
            exact f2
          · intro s hs
            rcases List.mem_append.mp hs with y | y
            · have := e5 s y; omega
            · rw [List.mem_singleton] at y
              rw [y]; omega
          · rw [hja]
            exact ⟨e6, fun _ => ⟨S2, kT tb ts (j + a), [], rfl, e5, hrk⟩⟩
          · rw [show S2 ++ [kT tb ts (j + a)] ++ H = S2 ++ kT tb ts (j + a) :: H from by simp, show X2 ++ cs ++ X = X2 ++ (cs ++ X) from by simp]
            exact hstep.tr e7
        · obtain ⟨μ13, f1, f2, f3⟩ := e1.wr (nI (kT tb ts (j + a)))
          rw [f1, ob_some]
          refine ⟨μ13, rfl, ((hA2.tr c3).tr d2).tr f3, Or.inr ⟨a + 1 + a2, ?_, ?_⟩⟩
          · rw [show j + (a + 1 + a2) = j + a + 1 + a2 by omega]
            exact f2
          · have := hstep.fl (j' := j + a + 1 + a2) e2
            rw [show a + 1 + (a2 + 1) = a + 1 + a2 + 1 by omega] at this
            rw [show j + (a + 1 + a2) = j + a + 1 + a2 by omega]
            exact this
      · have z1 : ¬ kT tb ts (j + a) = 12 := fun w => zr (Or.inl w)
        have z2 : ¬ kT tb ts (j + a) = 13 := fun w => zr (Or.inr w)
        rw [if_pos (by simp [z1, bI]), if_pos (by simp [z2, bI])]
        exact ⟨μ3, rfl, hA2, Or.inl ⟨a, cs, mn', S, X1, g0, g1, g2, g3, g4, fun s hs => by have := g5 s hs; omega, ⟨g6, fun w => absurd w zr⟩, g7⟩⟩
    · rw [g1.at, ob_some, if_pos rfl, g1.at, ob_some, if_pos rfl]
      exact ⟨μ3, rfl, hA2, Or.inr ⟨a, g1, g2⟩⟩
end
