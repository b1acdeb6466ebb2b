/-! ===== texts: the class' grammar beside the machine ===== -/
def Rch (T : Nat → Nat) (a j : Nat) (w mn : Bool) (H X : List Nat) (w' mn' : Bool) (H' X' : List Nat) : Prop := ∀ k, k_mach T (k + a) j w mn H X = k_mach T k (j + a) w' mn' H' X'
def Fl (T : Nat → Nat) (a j : Nat) (w mn : Bool) (H X : List Nat) (j' : Nat) : Prop := ∀ k, k_mach T (k + a) j w mn H X = some (none, j')
theorem Rch.tr {T : Nat → Nat} {a b j : Nat} {w mn w' mn' w2 mn2 : Bool} {H X H' X' H2 X2 : List Nat} (h : Rch T a j w mn H X w' mn' H' X') (h2 : Rch T b (j + a) w' mn' H' X' w2 mn2 H2 X2) : Rch T (a + b) j w mn H X w2 mn2 H2 X2 := fun k => by
  rw [show k + (a + b) = (k + b) + a by omega, h (k + b), h2 k, Nat.add_assoc]
theorem Rch.fl {T : Nat → Nat} {a b j j' : Nat} {w mn w' mn' : Bool} {H X H' X' : List Nat} (h : Rch T a j w mn H X w' mn' H' X') (h2 : Fl T b (j + a) w' mn' H' X' j') : Fl T (a + b) j w mn H X j' := fun k => by
  rw [show k + (a + b) = (k + b) + a by omega, h (k + b), h2 k]
def HC (c : Nat) (H : List Nat) : Prop := match H with
  | [] => True
  | s :: _ => k_rk s < c
theorem HC.mono {c c2 : Nat} {H : List Nat} (h : HC c H) (hc : c ≤ c2) : HC c2 H := by
  cases H with
  | nil => trivial
  | cons s H =>
    have : k_rk s < c := h
    show k_rk s < c2
    omega
theorem un_stay {r : Nat} {H X : List Nat} (h : HC r H) : k_un r H X = (H, X) := by
  cases H with
  | nil => rfl
  | cons s H =>
    have : k_rk s < r := h
    rw [k_un, if_neg (by omega)]
theorem un_app {r : Nat} {H : List Nat} (h : HC r H) : ∀ (S X : List Nat), (∀ s ∈ S, r ≤ k_rk s) → k_un r (S ++ H) X = (H, S.reverse ++ X)
  | [], X, _ => by
    rw [List.nil_append, un_stay h]
    rfl
  | s :: S, X, hs => by
    rw [List.cons_append, k_un, if_pos (hs s (List.mem_cons_self ..)), un_app h S (s :: X) (fun q hq => hs q (List.mem_cons_of_mem _ hq))]
    simp
def SC1 (mn : Bool) (t : Nat) : Prop := mn = true → t ≠ 8
def SC2 (mn : Bool) (_ : Nat) : Prop := mn = true
def RelOK (t : Nat) (S : List Nat) : Prop := (t = 12 ∨ t = 13) → ∃ S5 r S', S = S5 ++ r :: S' ∧ (∀ s ∈ S5, 5 ≤ k_rk s) ∧ k_rk r = 4
section
variable {ts K : Nat} {tb : Nat → Nat} {μ μ2 : ax_M}
def FailR (ts : Nat) (tb : Nat → Nat) (K j : Nat) (mn : Bool) (H X : List Nat) (μ2 : ax_M) : Prop := ∃ a, CW ts tb K (j + a) μ2 ∧ Fl (kT tb ts) (a + 1) j true mn H X (j + a)
def PO (ts : Nat) (tb : Nat → Nat) (K o : Nat) (f : Int32 → ax_M → Option ax_M) : Prop := ∀ (j : Nat) (O : List Nat) (μ : ax_M) (mn : Bool) (H X : List Nat), CS ts tb K j O μ → k_cn H = o → SC1 mn (kT tb ts j) → ∃ μ2, f (nI o) μ = some μ2 ∧ Ch SF μ μ2 ∧ ((∃ a cs mn', 0 < a ∧ CS ts tb K (j + a) (cs ++ O) μ2 ∧ Good cs ∧ cs.length ≤ a ∧ Rch (kT tb ts) a j true mn H X false mn' (k_un 7 H (cs ++ X)).1 (k_un 7 H (cs ++ X)).2) ∨ FailR ts tb K j mn H X μ2)
def PL (ts : Nat) (tb : Nat → Nat) (K l : Nat) (SC : Bool → Nat → Prop) (hc : Nat) (EX : Nat → List Nat → Prop) (o : Nat) (f : Int32 → ax_M → Option ax_M) : Prop := ∀ (j : Nat) (O : List Nat) (μ : ax_M) (mn : Bool) (H X : List Nat), CS ts tb K j O μ → k_cn H = o → SC mn (kT tb ts j) → HC hc H → ∃ μ2, f (nI o) μ = some μ2 ∧ Ch SF μ μ2 ∧ ((∃ a cs mn' S X1, 0 < a ∧ CS ts tb K (j + a) (cs ++ O) μ2 ∧ Good cs ∧ cs.length ≤ a ∧ cs = S.reverse ++ X1 ∧ (∀ s ∈ S, l ≤ k_rk s) ∧ EX (kT tb ts (j + a)) S ∧ Rch (kT tb ts) a j true mn H X false mn' (S ++ H) (X1 ++ X)) ∨ FailR ts tb K j mn H X μ2)
theorem PO.l {o : Nat} {f : Int32 → ax_M → Option ax_M} (h : PO ts tb K o f) : PL ts tb K 7 SC1 7 (fun _ _ => True) o f := by
  intro j O μ mn H X hC hH hS hc
  obtain ⟨μ2, e1, e2, e3⟩ := h j O μ mn H X hC hH hS
  refine ⟨μ2, e1, e2, ?_⟩
  rcases e3 with ⟨a, cs, mn', g1, g2, g3, g4, g5⟩ | e3
  · rw [un_stay hc] at g5
    exact Or.inl ⟨a, cs, mn', [], cs, g1, g2, g3, g4, rfl, (fun s hs => by cases hs), trivial, g5⟩
  · exact Or.inr e3
theorem PO.w {o : Nat} {f : Int32 → ax_M → Option ax_M} (h : PO ts tb K o f) {g : Int32 → ax_M → Option ax_M} (hg : ∀ μ, g (nI o) μ = f (nI o) μ) : PO ts tb K o g := by
  intro j O μ mn H X hC hH hS
  rw [hg]
  exact h j O μ mn H X hC hH hS
/-- a sign between two: the machine's step -/
theorem st_bn {T : Nat → Nat} {r j : Nat} {mn : Bool} {S H X1 X : List Nat} (hb : k_bn (T j) = true) (hr : k_rk (T j) = r) (h4 : r ≠ 4) (hS : ∀ s ∈ S, r ≤ k_rk s) (hH : HC r H) : Rch T 1 j false mn (S ++ H) (X1 ++ X) true (decide (T j = 6 ∨ T j = 7)) (T j :: H) (S.reverse ++ X1 ++ X) := by
  intro k
  have hc := bn_of hb
  show k_mach T (k + 1) j false mn (S ++ H) (X1 ++ X) = _
  rw [k_mach, if_neg (by omega), if_neg (by omega), if_pos hb, hr, if_neg (fun z => h4 z.1), if_neg h4, un_app hH S _ hS, ← List.append_assoc]
theorem st_rel {T : Nat → Nat} {j : Nat} {mn : Bool} {S H X1 X : List Nat} (ht : T j = 12 ∨ T j = 13) (hS : ∀ s ∈ S, 5 ≤ k_rk s) (hH : HC 4 H) : Rch T 1 j false mn (S ++ H) (X1 ++ X) true false (T j :: H) (S.reverse ++ X1 ++ X) := by
  intro k
  have hb : k_bn (T j) = true := by rcases ht with e | e <;> rw [e] <;> rfl
  have hr : k_rk (T j) = 4 := by rcases ht with e | e <;> rw [e] <;> rfl
  have h4 : ¬ k_h4 H = true := by
    cases H with
    | nil => simp [k_h4]
    | cons s H =>
      have : k_rk s < 4 := hH
      simp [k_h4]
      omega
  show k_mach T (k + 1) j false mn (S ++ H) (X1 ++ X) = _
  rw [k_mach, if_neg (by omega), if_neg (by omega), if_pos hb, hr, if_pos rfl, un_app (hH.mono (by omega)) S _ hS, if_neg (fun z => h4 z.2), show decide (T j = 6 ∨ T j = 7) = false from by simp; omega, ← List.append_assoc]
/-- a level's loop -/
theorem pl_loop {l r hc o : Nat} {SC : Bool → Nat → Prop} {EX : Nat → List Nat → Prop} {f : Int32 → ax_M → Option ax_M} {L : Nat → Int32 → ax_M → Option ax_M} {Sg : Nat → Prop} (hsg : ∀ t, Sg t ∨ ¬ Sg t) (hf : PL ts tb K l SC hc EX o f) (hrl : r ≤ l) (hrc : r < hc) (hr4 : r ≠ 4) (hSg : ∀ t, Sg t → k_bn t = true ∧ k_rk t = r) (hSC : ∀ t u, Sg t → SC (decide (t = 6 ∨ t = 7)) u) (hEX : ∀ t S S', EX t S → EX t (S ++ S'))
    (hL : ∀ n i μ j O, CS ts tb K j O μ → i < 160 → (¬ Sg (kT tb ts j) → L (n + 1) (nI i) μ = some μ) ∧ (Sg (kT tb ts j) → L (n + 1) (nI i) μ = (m_X3_goOn μ).bind fun μ7 => (f (nI o) μ7).bind fun μ10 => (m_X3_write (nI (kT tb ts j)) μ10).bind fun μ13 => L n (nI (i + 1)) μ13))
    (hLw : ∀ n i μ j, CW ts tb K j μ → L (n + 1) i μ = some μ) :
    PL ts tb K r SC r (fun t S => ¬ Sg t ∧ EX t S) o (fun x μ => (f x μ).bind fun μ3 => L fu 0 μ3) := by
  have hfu : 1000 ≤ fu := by decide
  intro j O μ mn H X hC hH hS hHC
  have key : ∀ (dd a i fl : Nat) (cs : List Nat) (mn' : Bool) (S X1 : List Nat) (μ1 : ax_M), K - (j + a) = dd → dd + 1 < fl → i < a → CS ts tb K (j + a) (cs ++ O) μ1 → Ch SF μ μ1 → Good cs → cs.length ≤ a → cs = S.reverse ++ X1 → (∀ s ∈ S, r ≤ k_rk s) → EX (kT tb ts (j + a)) S → Rch (kT tb ts) a j true mn H X false mn' (S ++ H) (X1 ++ X) → ∃ μ2, L fl (nI i) μ1 = some μ2 ∧ Ch SF μ μ2 ∧ ((∃ a cs mn' S X1, 0 < a ∧ CS ts tb K (j + a) (cs ++ O) μ2 ∧ Good cs ∧ cs.length ≤ a ∧ cs = S.reverse ++ X1 ∧ (∀ s ∈ S, r ≤ k_rk s) ∧ (¬ Sg (kT tb ts (j + a)) ∧ EX (kT tb ts (j + a)) S) ∧ Rch (kT tb ts) a j true mn H X false mn' (S ++ H) (X1 ++ X)) ∨ FailR ts tb K j mn H X μ2) := by
    intro dd
    induction dd using Nat.strongRecOn with
    | _ dd ih =>
      intro a i fl cs mn' S X1 μ1 hd hfl hi hC1 hch hG hcl hcs hSr hE hR
      obtain ⟨fl, rfl⟩ : ∃ k2, fl = k2 + 1 := ⟨fl - 1, by omega⟩
      have hjK : j + a ≤ K := hC1.2.2.1
      have hK : K ≤ 160 := by have := hC1.1.2.1; have := hC1.2.1; omega
      obtain ⟨q1, q2⟩ := hL fl i μ1 (j + a) (cs ++ O) hC1 (by omega)
      rcases hsg (kT tb ts (j + a)) with z | z
      · obtain ⟨b1, b2⟩ := hSg _ z
        have hbc := bn_of b1
        obtain ⟨μ7, c1, c2, c3⟩ := hC1.go (hC1.lt (by omega))
        have hcn : k_cn (kT tb ts (j + a) :: H) = o := by
          rw [k_cn, if_neg (by omega)]
          exact hH
        obtain ⟨μ10, d1, d2, d3⟩ := hf (j + a + 1) (cs ++ O) μ7 (decide (kT tb ts (j + a) = 6 ∨ kT tb ts (j + a) = 7)) (kT tb ts (j + a) :: H) (cs ++ X) c2 hcn (hSC _ _ z) (by show k_rk _ < hc; omega)
        have hstep := hR.tr (st_bn (T := kT tb ts) (j := j + a) (mn := mn') (X1 := X1) (X := X) b1 b2 hr4 hSr hHC)
        rw [show S.reverse ++ X1 ++ X = cs ++ X from by rw [hcs]] at hstep
        rw [q2 z, c1, ob_some, d1, ob_some]
        rcases d3 with ⟨a2, cs2, mn2, S2, X2, e0, e1, e2, e3, e4, e5, e6, e7⟩ | ⟨a2, e1, e2⟩
        · have hlen2 : (cs2 ++ (cs ++ O)).length < j + a + 1 + a2 := by
            have := hC1.2.2.2.2.2.2.2
            simp at this ⊢
            omega
          obtain ⟨μ13, f1, f2, f3⟩ := e1.wr (kT tb ts (j + a)) hlen2
          rw [f1, ob_some]
          have hja : j + (a + 1 + a2) = j + a + 1 + a2 := by omega
          refine ih (K - (j + (a + 1 + a2))) (by have := f2.2.2.1; omega) (a + 1 + a2) (i + 1) fl (kT tb ts (j + a) :: (cs2 ++ cs)) mn2 (S2 ++ [kT tb ts (j + a)]) (X2 ++ cs) μ13 rfl (by have := f2.2.2.1; omega) (by omega) ?_ (((hch.tr c3).tr d2).tr f3) (good_b b1 hG e2) (by simp; omega) ?_ ?_ ?_ ?_
          · rw [hja]
            have : kT tb ts (j + a) :: (cs2 ++ cs) ++ O = kT tb ts (j + a) :: (cs2 ++ (cs ++ O)) := by simp
            rw [this]
            exact f2
          · rw [e4]
            simp
          · intro s hs
            rcases List.mem_append.mp hs with y | y
            · have := e5 s y; omega
            · rw [List.mem_singleton] at y
              rw [y]; omega
          · rw [hja]
            exact hEX _ _ _ e6
          · rw [show S2 ++ [kT tb ts (j + a)] ++ H = S2 ++ kT tb ts (j + a) :: H from by simp, show X2 ++ cs ++ X = X2 ++ (cs ++ X) from by simp]
            exact hstep.tr e7
        · obtain ⟨μ13, f1, f2, f3⟩ := e1.wr (nI (kT tb ts (j + a)))
          obtain ⟨fl, rfl⟩ : ∃ k2, fl = k2 + 1 := ⟨fl - 1, by omega⟩
          rw [f1, ob_some, hLw fl _ μ13 _ f2]
          refine ⟨μ13, rfl, ((hch.tr c3).tr d2).tr f3, Or.inr ⟨a + 1 + a2, ?_, ?_⟩⟩
          · rw [show j + (a + 1 + a2) = j + a + 1 + a2 by omega]
            exact f2
          · have := hstep.fl (j' := j + a + 1 + a2) e2
            rw [show a + 1 + (a2 + 1) = a + 1 + a2 + 1 by omega] at this
            rw [show j + (a + 1 + a2) = j + a + 1 + a2 by omega]
            exact this
      · rw [q1 z]
        exact ⟨μ1, rfl, hch, Or.inl ⟨a, cs, mn', S, X1, by omega, hC1, hG, hcl, hcs, hSr, ⟨z, hE⟩, hR⟩⟩
  obtain ⟨μ3, a1, a2, a3⟩ := hf j O μ mn H X hC hH hS (hHC.mono (by omega))
  show ∃ μ2, ((f (nI o) μ).bind fun μ3 => L fu 0 μ3) = some μ2 ∧ _
  rw [a1, ob_some]
  rcases a3 with ⟨a, cs, mn', S, X1, b0, b1, b2, b3, b4, b5, b6, b7⟩ | ⟨a, b1, b2⟩
  · exact key _ a 0 fu cs mn' S X1 μ3 rfl (by have := b1.2.2.1; have := b1.1.2.1; have := b1.2.1; omega) b0 b1 a2 b2 b3 b4 (fun s hs => by have := b5 s hs; omega) b6 b7
  · rw [show fu = 999999 + 1 from rfl, hLw _ _ μ3 _ b1]
    exact ⟨μ3, rfl, a2, Or.inr ⟨a, b1, b2⟩⟩
end
