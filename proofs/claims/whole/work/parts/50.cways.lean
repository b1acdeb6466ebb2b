/-! ===== least ways: the class ===== -/
def s_co (z : Nat) (R : Nat → Option Nat) (fn : Nat → Nat) (a c : Nat) : Nat := if z = 0 then fn c else if z = 1 then (if R a = R c then 0 else 1) else 1
theorem s_co_le {z : Nat} {R : Nat → Option Nat} {fn : Nat → Nat} (h : ∀ c, fn c ≤ 250) (a c : Nat) : s_co z R fn a c ≤ 250 := by
  have := h c
  unfold s_co
  repeat' split
  all_goals omega
theorem c_co {n z a c : Nat} {μ : ax_M} {R : Nat → Option Nat} {fn : Nat → Nat} (hn : n ≤ 6) (hR : ∀ c, c < 36 → μ 32 c = rI (R c)) (hF : ∀ c, c < 36 → μ 33 c = nI (fn c)) (hRn : ∀ c r, R c = some r → r < n) (hz : z < 3) (ha : a < 36) (hc : c < 36) : m_X8_stepCost (nI a) (nI c) (nI z) μ = some (nI (s_co z R fn a c)) := by
  have hb : ∀ c r, R c = some r → r < 2 ^ 31 := fun c r h => by have := hRn c r h; omega
  unfold m_X8_stepCost s_co
  rw [ix_nI hc (by decide), ix_nI ha (by decide)]
  simp only [ob_some, hR a ha, hR c hc, rI_inj (hb a) (hb c), hF c hc, show (nI z = 0) = (z = 0) from neqL (k := 0) (by omega) (by decide), show (nI z = 1) = (z = 1) from neqL (k := 1) (by omega) (by decide)]
  repeat' split
  all_goals rfl
def S37 (k : Nat) (_ : Nat) : Bool := k == 37
theorem el_edg {a : Nat} (ha : a < 36) {j : Nat} (hj : j ≤ 4) : ∀ e ∈ s_el a j, Edg e := by
  intro e he
  obtain ⟨w, h1, h2, h3⟩ := (mem_el j).mp he
  subst h2
  exact ⟨ha, w, by omega, h3⟩
theorem els_edg {a : Nat} (ha : a ≤ 36) : ∀ e ∈ s_els a, Edg e := by
  intro e he
  obtain ⟨b, h1, h2⟩ := (mem_els a).mp he
  exact el_edg (by omega) (Nat.le_refl 4) e h2
theorem wi_b {op : Nat → Bool} {co : Nat → Nat → Nat} {st v0 q v : Nat} {D : Nat → Option Nat} (h : WI op co st v0 D) (hq : D q = some v) : v ≤ 9000 := by
  have := (h.1 q v hq).2.2
  have := s_nr_le D
  omega
theorem wi_b2 {op : Nat → Bool} {co : Nat → Nat → Nat} {st v0 q : Nat} {D : Nat → Option Nat} (h : WI op co st v0 D) : ∀ v, D q = some v → v < 2 ^ 31 := fun v hq => by
  have := wi_b h hq
  omega
theorem c_low {n z a st v0 : Nat} {μ : ax_M} {R : Nat → Option Nat} {fn : Nat → Nat} {op : Nat → Bool} {D : Nat → Option Nat} (hn : n ≤ 6) (hR : ∀ c, c < 36 → μ 32 c = rI (R c)) (hF : ∀ c, c < 36 → μ 33 c = nI (fn c)) (hfn : ∀ c, fn c ≤ 250) (hRn : ∀ c r, R c = some r → r < n) (hz : z < 3) (ha : a < 36)
    (ho : ∀ c, c < 36 → μ 36 c = bI (op c)) (hD : ∀ c, c < 36 → μ 37 c = rI (D c)) (hw : WI op (s_co z R fn) st v0 D) (hDa : ∃ u, D a = some u) :
    ∃ μ2, m_X8_lowersBeside (nI a) (nI z) μ = some (bI (rxsf op (s_co z R fn) (s_el a 4) D), μ2) ∧ Ch S37 μ μ2 ∧ ∀ c, c < 36 → μ2 37 c = rI (rxs op (s_co z R fn) (s_el a 4) D c) := by
  have hco := s_co_le (z := z) (R := R) hfn
  obtain ⟨b, hb, hq⟩ := loopK (N := 4) (fun k i (p : Int32 × ax_M) => m_X8_lowersBeside_5 (nI a) (nI z) k p.1 (nI i) p.2) (fun i p => p.1 = bI (rxsf op (s_co z R fn) (s_el a i) D) ∧ Ch S37 μ p.2 ∧ ∀ c, c < 36 → p.2 37 c = rI (rxs op (s_co z R fn) (s_el a i) D c)) (fun p => some p) (by omega)
    (fun k i p hi hI => by
      obtain ⟨x, μ1⟩ := p
      obtain ⟨hx0, hch0, h370⟩ := hI
      have hx : x = _ := hx0
      have hch : Ch S37 μ μ1 := hch0
      have h37 : ∀ c, c < 36 → μ1 37 c = rI (rxs op (s_co z R fn) (s_el a i) D c) := h370
      clear hx0 hch0 h370
      subst hx
      have hwi := rxs_wi hco (s_el a i) D (el_edg ha (by omega)) hw
      show ∃ a2, m_X8_lowersBeside_5 (nI a) (nI z) (k + 1) _ (nI i) μ1 = _ ∧ _
      rw [m_X8_lowersBeside_5, if_neg (by rw [show (4 : Int32) = nI 4 from rfl, nleL (by omega) (by omega)]; omega), c_step ha hi, ob_some, na1]
      cases hs : s_step a i with
      | none =>
        rw [if_pos (show rI none = -1 from rfl)]
        have e : s_el a (i + 1) = s_el a i := by simp [s_el, hs]
        refine ⟨(_, μ1), rfl, ?_⟩
        rw [e]
        exact ⟨rfl, hch, h37⟩
      | some c =>
        have hc := s_step_lt ha hs
        have e : s_el a (i + 1) = s_el a i ++ [(a, c)] := by simp [s_el, hs]
        have e1 : rxs op (s_co z R fn) (s_el a (i + 1)) D = rx op (s_co z R fn) a c (rxs op (s_co z R fn) (s_el a i) D) := by
          rw [e, rxs_app]
          rfl
        have e2 : rxsf op (s_co z R fn) (s_el a (i + 1)) D = (rxsf op (s_co z R fn) (s_el a i) D || rxf op (s_co z R fn) a c (rxs op (s_co z R fn) (s_el a i) D)) := by
          rw [e, rxsf_app]
          simp [rxsf]
        have hwi2 := rx_wi hco hi ha hs hwi
        rw [e1, e2]
        obtain ⟨u0, hu0⟩ := hDa
        obtain ⟨u, hu, -⟩ := rxs_le (op := op) (co := s_co z R fn) (s_el a i) D a u0 hu0
        generalize rxs op (s_co z R fn) (s_el a i) D = D1 at *
        generalize rxsf op (s_co z R fn) (s_el a i) D = f1 at *
        have hsum : nI u + nI (s_co z R fn a c) = nI (u + s_co z R fn a c) := nI_add u _
        have hub := wi_b hwi hu
        have hcb := hco a c
        rw [if_neg (show ¬ rI (some c) = -1 from nm1 (by omega)), show rI (some c) = nI c from rfl, ix_nI hc (by decide)]
        simp only [ob_some]
        rw [hch 36 c rfl, ho c hc, ix_nI ha (by decide), c_co hn (fun c hc => by rw [hch 32 c rfl]; exact hR c hc) (fun c hc => by rw [hch 33 c rfl]; exact hF c hc) hRn hz ha hc]
        simp only [ob_some]
        rw [h37 a ha, hu, show rI (some u) = nI u from rfl, h37 c hc]
        simp only [hsum, rI_m1 (wi_b2 hwi)]
        cases hoc : op c with
        | false =>
          have hf : rxf op (s_co z R fn) a c D1 = false := by unfold rxf; rw [hu]; simp [hoc]
          rw [if_pos (by simp [bI]), hf, rx_no hf]
          exact ⟨(bI f1, μ1), rfl, by rw [Bool.or_false], hch, h37⟩
        | true =>
          rw [if_neg (by simp [bI])]
          have set : rxf op (s_co z R fn) a c D1 = true → ∃ a2 : Int32 × ax_M, m_X8_lowersBeside_75 (nI a) (nI z) (nI i) (nI c) (nI (u + s_co z R fn a c)) (m_X8_lowersBeside_5 (nI a) (nI z) k) μ1 = m_X8_lowersBeside_5 (nI a) (nI z) k a2.1 (nI (i + 1)) a2.2 ∧ a2.1 = bI (f1 || rxf op (s_co z R fn) a c D1) ∧ Ch S37 μ a2.2 ∧ ∀ q, q < 36 → a2.2 37 q = rI (rx op (s_co z R fn) a c D1 q) := by
            intro hf
            obtain ⟨u2, g1, -, -, g4⟩ := rx_yes hf
            rw [hu] at g1
            cases g1
            refine ⟨(1, ax_w μ1 37 c (nI (u + s_co z R fn a c))), ?_, ?_, hch.w rfl, fun q hq => ?_⟩
            · unfold m_X8_lowersBeside_75
              rw [ix_nI hc (by decide), ob_some, na1]
            · rw [hf]
              simp [bI]
            · rw [g4]
              by_cases eq : q = c
              · subst eq
                show ax_w μ1 37 q _ 37 q = _
                rw [w_ss]
                simp [s_up, rI]
              · show ax_w μ1 37 c _ 37 q = _
                rw [w_i eq, h37 q hq]
                simp [s_up, eq]
          cases hDc : D1 c with
          | none =>
            rw [if_pos rfl]
            exact set (by unfold rxf; rw [hu]; simp [hoc, s_lts, hDc])
          | some x =>
            have hxb := wi_b hwi hDc
            rw [if_neg (by simp), show rI (some x) = nI x from rfl]
            simp only [show (nI x ≤ nI (u + s_co z R fn a c)) = (x ≤ u + s_co z R fn a c) from nleL (by omega) (by omega)]
            by_cases hle : x ≤ u + s_co z R fn a c
            · have hf : rxf op (s_co z R fn) a c D1 = false := by unfold rxf; rw [hu]; simp [hoc, s_lts, hDc]; omega
              rw [if_pos hle, hf, rx_no hf]
              exact ⟨(bI f1, μ1), rfl, by rw [Bool.or_false], hch, h37⟩
            · rw [if_neg hle]
              exact set (by unfold rxf; rw [hu]; simp [hoc, s_lts, hDc]; omega))
    (fun k p hI => by
      show m_X8_lowersBeside_5 (nI a) (nI z) (k + 1) p.1 (nI 4) p.2 = _
      rw [m_X8_lowersBeside_5, if_pos (by decide), if_pos (by
        rw [hI.1]
        cases rxsf op (s_co z R fn) (s_el a 4) D <;> simp [bI])])
    (0, μ) ⟨rfl, Ch.rf, hD⟩
  refine ⟨b.2, ?_, hb.2⟩
  unfold m_X8_lowersBeside
  rw [← hb.1]
  exact hq
theorem rxs_nn {op : Nat → Bool} {co : Nat → Nat → Nat} {a : Nat} {D : Nat → Option Nat} (h : D a = none) : ∀ j, rxs op co (s_el a j) D = D ∧ rxsf op co (s_el a j) D = false
  | 0 => ⟨rfl, rfl⟩
  | j + 1 => by
    obtain ⟨h1, h2⟩ := rxs_nn (op := op) (co := co) h j
    unfold s_el
    rw [rxs_app, rxsf_app, h1, h2]
    cases s_step a j with
    | none => exact ⟨rfl, rfl⟩
    | some c =>
      have hf : rxf op co a c D = false := by unfold rxf; rw [h]
      simp only [rxs, rxsf, hf, rx_no hf]
      exact ⟨trivial, by simp⟩
theorem c_l95 {n z st v0 : Nat} {μ : ax_M} {R : Nat → Option Nat} {fn : Nat → Nat} {op : Nat → Bool} {D : Nat → Option Nat} (hn : n ≤ 6) (hR : ∀ c, c < 36 → μ 32 c = rI (R c)) (hF : ∀ c, c < 36 → μ 33 c = nI (fn c)) (hfn : ∀ c, fn c ≤ 250) (hRn : ∀ c r, R c = some r → r < n) (hz : z < 3)
    (ho : ∀ c, c < 36 → μ 36 c = bI (op c)) (hD : ∀ c, c < 36 → μ 37 c = rI (D c)) (hw : WI op (s_co z R fn) st v0 D) (x2 x5 : Int32) (k77 : Int32 → Int32 → ax_M → Option (Int32 × ax_M)) :
    ∃ μ2, m_X8_least_95 x2 (nI z) x5 k77 fu 0 0 μ = k77 (bI (rxsf op (s_co z R fn) (s_els 36) D)) (x5 + 1) μ2 ∧ Ch S37 μ μ2 ∧ ∀ c, c < 36 → μ2 37 c = rI (rxs op (s_co z R fn) (s_els 36) D c) := by
  have hco := s_co_le (z := z) (R := R) hfn
  obtain ⟨b, hb, hq⟩ := loopK (N := 36) (fun k i (p : Int32 × ax_M) => m_X8_least_95 x2 (nI z) x5 k77 k p.1 (nI i) p.2) (fun i p => p.1 = bI (rxsf op (s_co z R fn) (s_els i) D) ∧ Ch S37 μ p.2 ∧ ∀ c, c < 36 → p.2 37 c = rI (rxs op (s_co z R fn) (s_els i) D c)) (fun p => k77 p.1 (x5 + 1) p.2) (by omega)
    (fun k i p hi hI => by
      obtain ⟨x, μ1⟩ := p
      obtain ⟨hx0, hch0, h370⟩ := hI
      have hx : x = _ := hx0
      have hch : Ch S37 μ μ1 := hch0
      have h37 : ∀ c, c < 36 → μ1 37 c = rI (rxs op (s_co z R fn) (s_els i) D c) := h370
      clear hx0 hch0 h370
      subst hx
      have hwi := rxs_wi hco (s_els i) D (els_edg (by omega)) hw
      show ∃ a2, m_X8_least_95 x2 (nI z) x5 k77 (k + 1) _ (nI i) μ1 = _ ∧ _
      rw [m_X8_least_95, if_neg (ge36 hi), ix_nI hi (by decide), ob_some, h37 i hi, na1]
      simp only [rI_m1 (wi_b2 hwi), s_els, rxs_app, rxsf_app]
      generalize rxs op (s_co z R fn) (s_els i) D = D1 at *
      generalize rxsf op (s_co z R fn) (s_els i) D = f1 at *
      cases hDi : D1 i with
      | none =>
        obtain ⟨e1, e2⟩ := rxs_nn (op := op) (co := s_co z R fn) hDi 4
        rw [if_pos rfl, e1, e2]
        refine ⟨(_, μ1), rfl, ?_, hch, h37⟩
        show bI f1 = _
        cases f1 <;> rfl
      | some u =>
        rw [if_neg (by simp)]
        obtain ⟨μ2, g1, g2, g3⟩ := c_low (μ := μ1) hn (fun c hc => by rw [hch 32 c rfl]; exact hR c hc) (fun c hc => by rw [hch 33 c rfl]; exact hF c hc) hfn hRn hz hi (fun c hc => by rw [hch 36 c rfl]; exact ho c hc) h37 hwi ⟨u, hDi⟩
        rw [g1, bind2_some]
        cases rxsf op (s_co z R fn) (s_el i 4) D1 with
        | false =>
          rw [if_pos (by simp [bI])]
          refine ⟨(_, μ2), rfl, ?_, hch.tr g2, g3⟩
          show bI f1 = _
          cases f1 <;> rfl
        | true =>
          rw [if_neg (by simp [bI])]
          refine ⟨(_, μ2), rfl, ?_, hch.tr g2, g3⟩
          show (1 : Int32) = _
          cases f1 <;> rfl)
    (fun k p hI => by
      show m_X8_least_95 x2 (nI z) x5 k77 (k + 1) p.1 (nI 36) p.2 = _
      rw [m_X8_least_95, if_pos (by decide)])
    (0, μ) ⟨rfl, Ch.rf, hD⟩
  refine ⟨b.2, ?_, hb.2⟩
  rw [← hb.1]
  exact hq
theorem c_l77 {n z st v0 g : Nat} {R : Nat → Option Nat} {fn : Nat → Nat} {op : Nat → Bool} (hn : n ≤ 6) (hfn : ∀ c, fn c ≤ 250) (hRn : ∀ c r, R c = some r → r < n) (hz : z < 3) (hg : g < 36) :
    ∀ (m k i : Nat) (μ : ax_M) (D : Nat → Option Nat), i + m = 36 → m < k → (∀ c, c < 36 → μ 32 c = rI (R c)) → (∀ c, c < 36 → μ 33 c = nI (fn c)) → (∀ c, c < 36 → μ 36 c = bI (op c)) → (∀ c, c < 36 → μ 37 c = rI (D c)) → WI op (s_co z R fn) st v0 D →
    ∃ μ2, m_X8_least_77 (nI g) (nI z) k 1 (nI i) μ = some (rI (s_rnds op (s_co z R fn) (s_els 36) m D g), μ2) ∧ Ch S37 μ μ2 := by
  have hco := s_co_le (z := z) (R := R) hfn
  intro m
  induction m with
  | zero =>
    intro k i μ D hi hk hR hF ho hD hw
    obtain ⟨k, rfl⟩ : ∃ k2, k = k2 + 1 := ⟨k - 1, by omega⟩
    have : i = 36 := by omega
    subst this
    refine ⟨μ, ?_, Ch.rf⟩
    rw [m_X8_least_77, if_pos (by decide), ix_nI hg (by decide), ob_some, hD g hg]
    rfl
  | succ m ih =>
    intro k i μ D hi hk hR hF ho hD hw
    obtain ⟨k, rfl⟩ : ∃ k2, k = k2 + 1 := ⟨k - 1, by omega⟩
    obtain ⟨μ1, e1, e2, e3⟩ := c_l95 hn hR hF hfn hRn hz ho hD hw (nI g) (nI i) (m_X8_least_77 (nI g) (nI z) k)
    rw [m_X8_least_77, if_neg (ge36 (by omega)), if_neg (by decide), e1, na1]
    have hwi := rxs_wi hco (s_els 36) D (els_edg (Nat.le_refl 36)) hw
    unfold s_rnds
    cases hf : rxsf op (s_co z R fn) (s_els 36) D with
    | true =>
      obtain ⟨μ2, g1, g2⟩ := ih k (i + 1) μ1 (rxs op (s_co z R fn) (s_els 36) D) (by omega) (by omega) (fun c hc => by rw [e2 32 c rfl]; exact hR c hc) (fun c hc => by rw [e2 33 c rfl]; exact hF c hc) (fun c hc => by rw [e2 36 c rfl]; exact ho c hc) e3 hwi
      exact ⟨μ2, by simpa [bI] using g1, e2.tr g2⟩
    | false =>
      obtain ⟨k, rfl⟩ : ∃ k2, k = k2 + 1 := ⟨k - 1, by omega⟩
      refine ⟨μ1, ?_, e2⟩
      have h1 := e3 g hg
      rw [(rxs_no _ _ hf).1] at h1
      rw [m_X8_least_77, ix_nI hg (by decide)]
      simp only [ob_some, h1]
      simp [bI]

def s_d0 (op : Nat → Bool) (st v0 : Nat) : Nat → Option Nat := fun q => if op st = true ∧ q = st then some v0 else none
theorem d0_wi {op : Nat → Bool} {co : Nat → Nat → Nat} {st v0 : Nat} (hst : st < 36) (hv : v0 ≤ 250) : WI op co st v0 (s_d0 op st v0) := by
  refine ⟨fun q v hq => ?_, fun ho => ⟨v0, by simp [s_d0, ho], Nat.le_refl _⟩⟩
  unfold s_d0 at hq
  split at hq
  · rename_i h
    obtain ⟨ho, rfl⟩ := h
    cases hq
    refine ⟨hst, ⟨0, rfl, rfl, ho⟩, ?_⟩
    have := s_num_up (f := fun _ => false) (g := fun p => (s_d0 op q v0 p).isSome) (c := q) (fun p hp => by simp [s_d0, hp]) rfl (by simp [s_d0, ho]) 36
    rw [if_pos hst] at this
    have e2 : s_nr (s_d0 op q v0) = s_num (fun _ => false) 36 + 1 := this
    omega
  · cases hq
def S6 (k : Nat) (_ : Nat) : Bool := k == 16 || k == 17 || k == 36 || k == 37
theorem S6N (k i : Nat) (h : cN k i = true) : S6 k i = false := by simp [cN, S6] at *; omega
theorem S26 (k i : Nat) (h : S6 k i = false) : S2 k i = false := by simp [S2, S6] at *; omega
theorem S376 (k i : Nat) (h : S6 k i = false) : S37 k i = false := by simp [S37, S6] at *; omega
theorem nar_b (b : Bool) : vp_nar .boolean (bI b) = bI b := by cases b <;> rfl
/-- the least way, as the class finds it -/
theorem c_least {n z st g : Nat} {d : Dt} {μ : ax_M} {R : Nat → Option Nat} {fn : Nat → Nat} (h : RC n d μ) (hl : LC d μ) (hR : ∀ c, c < 36 → μ 32 c = rI (R c)) (hF : ∀ c, c < 36 → μ 33 c = nI (fn c)) (hfn : ∀ c, fn c ≤ 250) (hRn : ∀ c r, R c = some r → r < n) (hz : z < 3) (hg : g < 36) (hst : st < 36) :
    ∃ o μ2, m_X8_least (nI st) (nI g) (nI z) μ = some (rI o, μ2) ∧ Lst (fun c => s_let d (R c) c (μ 25 2)) (s_co z R fn) st (s_co z R fn st st) g o ∧ Ch S6 μ μ2 := by
  have hn := h.1
  have hco := s_co_le (z := z) (R := R) hfn
  obtain ⟨b, hb, hq⟩ := loopK (N := 36) (fun k i (p : ax_M) => m_X8_least_3 (nI st) (nI g) (nI z) k (nI i) p) (fun i p => Ch S6 μ p ∧ ∀ c, c < i → p 36 c = bI (s_let d (R c) c (μ 25 2)) ∧ p 37 c = -1) (fun p => m_X8_least_77 (nI g) (nI z) fu 1 (nI 0) (if s_let d (R st) st (μ 25 2) then ax_w p 37 st (nI (s_co z R fn st st)) else p)) (by omega)
    (fun k i p hi hI => by
      obtain ⟨hch, h3⟩ := hI
      obtain ⟨μ2, e1, e2⟩ := c_let (h.ch hch S6N) (hl.ch hch S6N) (R := R) (fun c hc => by rw [hch 32 c rfl]; exact hR c hc) hRn hi
      refine ⟨ax_w (ax_w μ2 36 i (bI (s_let d (R i) i (μ 25 2)))) 37 i (-1), ?_, ((hch.tr (e2.mono S26)).w rfl).w rfl, fun c hc => ?_⟩
      · show m_X8_least_3 (nI st) (nI g) (nI z) (k + 1) (nI i) p = _
        rw [m_X8_least_3, if_neg (ge36 hi), e1, bind2_some, ix_nI hi (by decide), hch 25 2 rfl]
        simp only [ob_some, nar_b, na1]
      · by_cases e : c = i
        · subst e
          exact ⟨by rw [w_k (by decide), w_ss], w_ss⟩
        · obtain ⟨a1, a2⟩ := h3 c (by omega)
          refine ⟨?_, ?_⟩
          · rw [w_k (by decide), w_i e, e2 36 c rfl]
            exact a1
          · rw [w_i e, w_k (by decide), e2 37 c rfl]
            exact a2)
    (fun k p hI => by
      obtain ⟨hch, h3⟩ := hI
      show m_X8_least_3 (nI st) (nI g) (nI z) (k + 1) (nI 36) p = _
      rw [m_X8_least_3, if_pos (by decide), ix_nI hst (by decide)]
      simp only [ob_some, (h3 st hst).1]
      rw [c_co hn (fun c hc => by rw [hch 32 c rfl]; exact hR c hc) (fun c hc => by rw [hch 33 c rfl]; exact hF c hc) hRn hz hst hst]
      simp only [ob_some]
      cases s_let d (R st) st (μ 25 2) with
      | false => simp [bI]; rfl
      | true =>
        simp only [if_true]
        rw [if_neg (by simp [bI])]
        by_cases e : z = 1
        · subst e
          rw [if_pos (show nI 1 = 1 from rfl)]
          simp [s_co]
          rfl
        · rw [if_neg (by rw [show (nI z = 1) = (z = 1) from neqL (k := 1) (by omega) (by decide)]; exact e)]
          rfl)
    μ ⟨Ch.rf, fun c hc => by omega⟩
  obtain ⟨hch, h3⟩ := hb
  have hwi : WI (fun c => s_let d (R c) c (μ 25 2)) (s_co z R fn) st (s_co z R fn st st) (s_d0 (fun c => s_let d (R c) c (μ 25 2)) st (s_co z R fn st st)) := d0_wi hst (hco st st)
  have fin : ∀ μ1 : ax_M, Ch S37 b μ1 → (∀ c, c < 36 → μ1 37 c = rI (s_d0 (fun c => s_let d (R c) c (μ 25 2)) st (s_co z R fn st st) c)) → ∃ o μ2, m_X8_least_77 (nI g) (nI z) fu 1 (nI 0) μ1 = some (rI o, μ2) ∧ Lst (fun c => s_let d (R c) c (μ 25 2)) (s_co z R fn) st (s_co z R fn st st) g o ∧ Ch S6 μ μ2 := by
    intro μ1 hc1 h37
    have hc2 : Ch S6 μ μ1 := hch.tr (hc1.mono S376)
    obtain ⟨μ2, f1, f2⟩ := c_l77 hn hfn hRn hz hg 36 fu 0 μ1 _ (by omega) (by decide) (fun c hc => by rw [hc2 32 c rfl]; exact hR c hc) (fun c hc => by rw [hc2 33 c rfl]; exact hF c hc) (fun c hc => by rw [hc1 36 c rfl]; exact (h3 c hc).1) h37 hwi
    exact ⟨_, μ2, f1, rnds_lst hco full_els hwi g, hc2.tr (f2.mono S376)⟩
  have hq2 : m_X8_least (nI st) (nI g) (nI z) μ = _ := hq
  rw [hq2]
  cases ho : s_let d (R st) st (μ 25 2) with
  | false =>
    simp only [Bool.false_eq_true, if_false]
    refine fin b Ch.rf (fun c hc => ?_)
    rw [(h3 c hc).2]
    simp [s_d0, ho, rI]
  | true =>
    simp only [if_true]
    refine fin _ (Ch.rf.w rfl) (fun c hc => ?_)
    by_cases e : c = st
    · subst e
      rw [w_ss]
      simp [s_d0, ho, rI]
    · rw [w_i e, (h3 c hc).2]
      simp [s_d0, e, rI]
