/-! ===== least ways: what is least, and that relaxing finds it ===== -/
def Pth (op : Nat → Bool) (co : Nat → Nat → Nat) (st v0 : Nat) : Nat → Nat → Nat → Prop
  | 0, c, v => c = st ∧ v = v0 ∧ op st = true
  | k + 1, c, v => ∃ a u w, Pth op co st v0 k a u ∧ a < 36 ∧ w < 4 ∧ s_step a w = some c ∧ op c = true ∧ v = u + co a c
def s_lts (v : Nat) (o : Option Nat) : Bool := match o with
  | none => true
  | some x => decide (v < x)
def rxf (op : Nat → Bool) (co : Nat → Nat → Nat) (a c : Nat) (D : Nat → Option Nat) : Bool := match D a with
  | none => false
  | some u => op c && s_lts (u + co a c) (D c)
def s_up (D : Nat → Option Nat) (c v : Nat) : Nat → Option Nat := fun q => if q = c then some v else D q
def rx (op : Nat → Bool) (co : Nat → Nat → Nat) (a c : Nat) (D : Nat → Option Nat) : Nat → Option Nat := match D a with
  | none => D
  | some u => if op c && s_lts (u + co a c) (D c) then s_up D c (u + co a c) else D
def rxs (op : Nat → Bool) (co : Nat → Nat → Nat) : List (Nat × Nat) → (Nat → Option Nat) → (Nat → Option Nat)
  | [], D => D
  | e :: L, D => rxs op co L (rx op co e.1 e.2 D)
def rxsf (op : Nat → Bool) (co : Nat → Nat → Nat) : List (Nat × Nat) → (Nat → Option Nat) → Bool
  | [], _ => false
  | e :: L, D => rxf op co e.1 e.2 D || rxsf op co L (rx op co e.1 e.2 D)
theorem rxs_app {op : Nat → Bool} {co : Nat → Nat → Nat} : ∀ (L M : List (Nat × Nat)) (D : Nat → Option Nat), rxs op co (L ++ M) D = rxs op co M (rxs op co L D)
  | [], _, _ => rfl
  | e :: L, M, D => rxs_app L M _
theorem rxsf_app {op : Nat → Bool} {co : Nat → Nat → Nat} : ∀ (L M : List (Nat × Nat)) (D : Nat → Option Nat), rxsf op co (L ++ M) D = (rxsf op co L D || rxsf op co M (rxs op co L D))
  | [], _, _ => by simp [rxsf, rxs]
  | e :: L, M, D => by
    show (rxf op co e.1 e.2 D || rxsf op co (L ++ M) _) = _
    rw [rxsf_app L M]
    simp only [rxsf, rxs, Bool.or_assoc]
theorem rx_no {op : Nat → Bool} {co : Nat → Nat → Nat} {a c : Nat} {D : Nat → Option Nat} (h : rxf op co a c D = false) : rx op co a c D = D := by
  unfold rxf at h
  unfold rx
  cases e : D a with
  | none => rfl
  | some u =>
    rw [e] at h
    simp only at h ⊢
    rw [h]
    simp
theorem rx_yes {op : Nat → Bool} {co : Nat → Nat → Nat} {a c : Nat} {D : Nat → Option Nat} (h : rxf op co a c D = true) : ∃ u, D a = some u ∧ op c = true ∧ s_lts (u + co a c) (D c) = true ∧ rx op co a c D = s_up D c (u + co a c) := by
  unfold rxf at h
  unfold rx
  cases e : D a with
  | none => rw [e] at h; cases h
  | some u =>
    rw [e] at h
    simp only at h ⊢
    rw [if_pos h]
    rw [Bool.and_eq_true] at h
    exact ⟨u, rfl, h.1, h.2, rfl⟩
/-- no more than -/
def ole (o o2 : Option Nat) : Prop := ∀ x, o2 = some x → ∃ y, o = some y ∧ y ≤ x
theorem ole_rf {o : Option Nat} : ole o o := fun x h => ⟨x, h, Nat.le_refl x⟩
theorem ole_tr {o o2 o3 : Option Nat} (h : ole o o2) (h2 : ole o2 o3) : ole o o3 := fun x hx => by
  obtain ⟨y, a, b⟩ := h2 x hx
  obtain ⟨z, c, d⟩ := h y a
  exact ⟨z, c, Nat.le_trans d b⟩
theorem rx_le {op : Nat → Bool} {co : Nat → Nat → Nat} {a c : Nat} {D : Nat → Option Nat} (q : Nat) : ole (rx op co a c D q) (D q) := by
  cases h : rxf op co a c D with
  | false => rw [rx_no h]; exact ole_rf
  | true =>
    obtain ⟨u, h1, h2, h3, h4⟩ := rx_yes h
    rw [h4]
    unfold s_up
    by_cases e : q = c
    · subst e
      rw [if_pos rfl]
      intro x hx
      rw [hx] at h3
      simp [s_lts] at h3
      exact ⟨_, rfl, by omega⟩
    · rw [if_neg e]
      exact ole_rf
theorem rxs_le {op : Nat → Bool} {co : Nat → Nat → Nat} : ∀ (L : List (Nat × Nat)) (D : Nat → Option Nat) (q : Nat), ole (rxs op co L D q) (D q)
  | [], _, _ => ole_rf
  | _ :: L, _, q => ole_tr (rxs_le L _ q) (rx_le q)
theorem rxs_no {op : Nat → Bool} {co : Nat → Nat → Nat} : ∀ (L : List (Nat × Nat)) (D : Nat → Option Nat), rxsf op co L D = false → rxs op co L D = D ∧ ∀ e ∈ L, rxf op co e.1 e.2 D = false
  | [], D, _ => ⟨rfl, fun e he => by cases he⟩
  | e :: L, D, h => by
    simp only [rxsf, Bool.or_eq_false_iff] at h
    obtain ⟨h1, h2⟩ := h
    rw [rx_no h1] at h2
    obtain ⟨h3, h4⟩ := rxs_no L D h2
    refine ⟨?_, fun e2 he => ?_⟩
    · show rxs op co L (rx op co e.1 e.2 D) = D
      rw [rx_no h1, h3]
    · rcases List.mem_cons.mp he with rfl | he
      · exact h1
      · exact h4 e2 he
def s_nr (D : Nat → Option Nat) : Nat := s_num (fun q => (D q).isSome) 36
theorem s_num_up {f g : Nat → Bool} {c : Nat} (h : ∀ q, q ≠ c → g q = f q) (hf : f c = false) (hg : g c = true) : ∀ n, s_num g n = s_num f n + (if c < n then 1 else 0)
  | 0 => by simp [s_num]
  | k + 1 => by
    have ih := s_num_up h hf hg k
    unfold s_num
    rw [ih]
    by_cases e : k = c
    · subst e
      simp [hf, hg]
    · rw [h k e]
      by_cases e2 : c < k
      · have e3 : c < k + 1 := by omega
        simp only [e2, e3, if_true]
        split <;> omega
      · have e3 : ¬ c < k + 1 := by omega
        simp only [e2, e3, if_false]
        split <;> omega
theorem s_num_ext {f g : Nat → Bool} : ∀ n, (∀ q, q < n → f q = g q) → s_num f n = s_num g n
  | 0, _ => rfl
  | k + 1, h => by
    unfold s_num
    rw [s_num_ext k (fun q hq => h q (by omega)), h k (by omega)]
/-- what stays true while relaxing -/
def WI (op : Nat → Bool) (co : Nat → Nat → Nat) (st v0 : Nat) (D : Nat → Option Nat) : Prop := (∀ q v, D q = some v → q < 36 ∧ (∃ k, Pth op co st v0 k q v) ∧ v ≤ 250 * s_nr D) ∧ (op st = true → ∃ v, D st = some v ∧ v ≤ v0)
theorem rx_wi {op : Nat → Bool} {co : Nat → Nat → Nat} {st v0 a c w : Nat} {D : Nat → Option Nat} (hco : ∀ a c, co a c ≤ 250) (hw : w < 4) (ha : a < 36) (hs : s_step a w = some c) (h : WI op co st v0 D) : WI op co st v0 (rx op co a c D) := by
  cases hf : rxf op co a c D with
  | false => rw [rx_no hf]; exact h
  | true =>
    obtain ⟨u, h1, h2, h3, h4⟩ := rx_yes hf
    have hc := s_step_lt ha hs
    obtain ⟨g1, g2⟩ := h
    refine ⟨fun q v hq => ?_, fun ho => ?_⟩
    · have hnr : s_nr D ≤ s_nr (rx op co a c D) ∧ (D c = none → s_nr (rx op co a c D) = s_nr D + 1) := by
        rw [h4]
        cases e : D c with
        | none =>
          have := s_num_up (f := fun q => (D q).isSome) (g := fun q => (s_up D c (u + co a c) q).isSome) (c := c) (fun q hq => by simp [s_up, hq]) (by simp [e]) (by simp [s_up]) 36
          rw [if_pos hc] at this
          have e2 : s_nr (s_up D c (u + co a c)) = s_nr D + 1 := this
          exact ⟨by omega, fun _ => e2⟩
        | some x =>
          have : s_nr (s_up D c (u + co a c)) = s_nr D := s_num_ext 36 (fun q _ => by
            by_cases e2 : q = c
            · subst e2
              simp [s_up, e]
            · simp [s_up, e2])
          exact ⟨by omega, fun z => by cases z⟩
      by_cases e : q = c
      · subst e
        have e3 : v = u + co a q := by
          rw [h4] at hq
          simp [s_up] at hq
          exact hq.symm
        subst e3
        obtain ⟨-, ⟨k, hk⟩, hb⟩ := g1 a u h1
        refine ⟨hc, ⟨k + 1, a, u, w, hk, ha, hw, hs, h2, rfl⟩, ?_⟩
        cases e : D q with
        | none =>
          have := hnr.2 e
          have := hco a q
          omega
        | some x =>
          rw [e] at h3
          simp [s_lts] at h3
          have := (g1 q x e).2.2
          have := hnr.1
          omega
      · have hq2 : D q = some v := by
          rw [h4] at hq
          simpa [s_up, e] using hq
        obtain ⟨b1, b2, b3⟩ := g1 q v hq2
        refine ⟨b1, b2, ?_⟩
        have := hnr.1
        omega
    · obtain ⟨v, b1, b2⟩ := g2 ho
      obtain ⟨y, c1, c2⟩ := rx_le (op := op) (co := co) (a := a) (c := c) (D := D) st v b1
      exact ⟨y, c1, by omega⟩
def Edg (e : Nat × Nat) : Prop := e.1 < 36 ∧ ∃ w, w < 4 ∧ s_step e.1 w = some e.2
theorem rxs_wi {op : Nat → Bool} {co : Nat → Nat → Nat} {st v0 : Nat} (hco : ∀ a c, co a c ≤ 250) : ∀ (L : List (Nat × Nat)) (D : Nat → Option Nat), (∀ e ∈ L, Edg e) → WI op co st v0 D → WI op co st v0 (rxs op co L D)
  | [], _, _, h => h
  | e :: L, D, hL, h => by
    obtain ⟨h1, w, h2, h3⟩ := hL e (List.mem_cons_self ..)
    exact rxs_wi hco L _ (fun e he => hL e (List.mem_cons_of_mem _ he)) (rx_wi hco h2 h1 h3 h)
/-- all edges of the board -/
def Full (L : List (Nat × Nat)) : Prop := ∀ e, Edg e ↔ e ∈ L
def CL (op : Nat → Bool) (co : Nat → Nat → Nat) (D : Nat → Option Nat) : Prop := ∀ e, Edg e → op e.2 = true → ∀ u, D e.1 = some u → ∃ v, D e.2 = some v ∧ v ≤ u + co e.1 e.2
theorem cl_of {op : Nat → Bool} {co : Nat → Nat → Nat} {D : Nat → Option Nat} {L : List (Nat × Nat)} (hL : Full L) (h : rxsf op co L D = false) : CL op co D := by
  intro e he ho u hu
  have h1 := (rxs_no L D h).2 e ((hL e).mp he)
  unfold rxf at h1
  rw [hu] at h1
  simp only [ho, Bool.true_and] at h1
  cases hc : D e.2 with
  | none => rw [hc] at h1; simp [s_lts] at h1
  | some x =>
    rw [hc] at h1
    simp [s_lts] at h1
    exact ⟨x, rfl, h1⟩
def Lst (op : Nat → Bool) (co : Nat → Nat → Nat) (st v0 q : Nat) (o : Option Nat) : Prop := match o with
  | none => ∀ k v, ¬ Pth op co st v0 k q v
  | some x => (∃ k, Pth op co st v0 k q x) ∧ ∀ k v, Pth op co st v0 k q v → x ≤ v
theorem lst_one {op : Nat → Bool} {co : Nat → Nat → Nat} {st v0 q : Nat} {o o2 : Option Nat} (h : Lst op co st v0 q o) (h2 : Lst op co st v0 q o2) : o = o2 := by
  cases o with
  | none =>
    cases o2 with
    | none => rfl
    | some y =>
      obtain ⟨⟨k, hk⟩, -⟩ := h2
      exact absurd hk (h k y)
  | some x =>
    obtain ⟨⟨k, hk⟩, hm⟩ := h
    cases o2 with
    | none => exact absurd hk (h2 k x)
    | some y =>
      obtain ⟨⟨k2, hk2⟩, hm2⟩ := h2
      have := hm k2 y hk2
      have := hm2 k x hk
      rw [show x = y by omega]
theorem cl_lst {op : Nat → Bool} {co : Nat → Nat → Nat} {st v0 : Nat} {D : Nat → Option Nat} (h : WI op co st v0 D) (hc : CL op co D) (q : Nat) : Lst op co st v0 q (D q) := by
  have key : ∀ k q v, Pth op co st v0 k q v → ∃ x, D q = some x ∧ x ≤ v := by
    intro k
    induction k with
    | zero =>
      intro q v hp
      obtain ⟨rfl, rfl, ho⟩ := hp
      exact h.2 ho
    | succ k ih =>
      intro q v hp
      obtain ⟨a, u, w, hk, ha, hw, hs, ho, rfl⟩ := hp
      obtain ⟨x, hx, hxl⟩ := ih a u hk
      obtain ⟨y, hy, hyl⟩ := hc (a, q) ⟨ha, w, hw, hs⟩ ho x hx
      refine ⟨y, hy, ?_⟩
      have : y ≤ x + co a q := hyl
      omega
  cases e : D q with
  | none =>
    intro k v hp
    obtain ⟨x, hx, -⟩ := key k q v hp
    rw [e] at hx
    cases hx
  | some x =>
    refine ⟨(h.1 q x e).2.1, fun k v hp => ?_⟩
    obtain ⟨y, hy, hl⟩ := key k q v hp
    rw [e] at hy
    cases hy
    exact hl
/-- what falls with each change -/
def s_pot (D : Nat → Option Nat) : Nat → Nat
  | 0 => 0
  | k + 1 => s_pot D k + (match D k with
    | none => 9001
    | some v => v)
theorem s_pot_up {D : Nat → Option Nat} {c v : Nat} (h : s_lts v (D c) = true) (hv : v ≤ 9000) : ∀ n, s_pot (s_up D c v) n + (if c < n then 1 else 0) ≤ s_pot D n
  | 0 => by simp [s_pot]
  | k + 1 => by
    have ih := s_pot_up h hv k
    unfold s_pot
    by_cases e : k = c
    · subst e
      simp only [s_up, if_true, Nat.lt_irrefl, if_false, Nat.lt_succ_self] at ih ⊢
      cases e2 : D k with
      | none => simp only; omega
      | some x =>
        rw [e2] at h
        simp [s_lts] at h
        simp only
        omega
    · have e4 : s_up D c v k = D k := by simp [s_up, e]
      rw [e4]
      by_cases e2 : c < k
      · have e3 : c < k + 1 := by omega
        simp only [e2, e3, if_true] at ih ⊢
        omega
      · have e3 : ¬ c < k + 1 := by omega
        simp only [e2, e3, if_false] at ih ⊢
        omega
theorem s_nr_le (D : Nat → Option Nat) : s_nr D ≤ 36 := s_num_le _ 36
theorem rx_pot {op : Nat → Bool} {co : Nat → Nat → Nat} {st v0 a c w : Nat} {D : Nat → Option Nat} (hco : ∀ a c, co a c ≤ 250) (hw : w < 4) (ha : a < 36) (hs : s_step a w = some c) (h : WI op co st v0 D) (hf : rxf op co a c D = true) : s_pot (rx op co a c D) 36 < s_pot D 36 := by
  have hwi := rx_wi hco hw ha hs h
  obtain ⟨u, h1, h2, h3, h4⟩ := rx_yes hf
  have hc := s_step_lt ha hs
  have hv : u + co a c ≤ 9000 := by
    have h5 := (hwi.1 c (u + co a c) (by rw [h4]; simp [s_up])).2.2
    have := s_nr_le (rx op co a c D)
    omega
  rw [h4]
  have := s_pot_up h3 hv 36
  rw [if_pos hc] at this
  omega
theorem rxs_pot {op : Nat → Bool} {co : Nat → Nat → Nat} {st v0 : Nat} (hco : ∀ a c, co a c ≤ 250) : ∀ (L : List (Nat × Nat)) (D : Nat → Option Nat), (∀ e ∈ L, Edg e) → WI op co st v0 D → s_pot (rxs op co L D) 36 ≤ s_pot D 36 ∧ (rxsf op co L D = true → s_pot (rxs op co L D) 36 < s_pot D 36)
  | [], _, _, _ => ⟨Nat.le_refl _, fun z => by cases z⟩
  | e :: L, D, hL, h => by
    obtain ⟨h1, w, h2, h3⟩ := hL e (List.mem_cons_self ..)
    have hw := rx_wi hco h2 h1 h3 h
    obtain ⟨p1, p2⟩ := rxs_pot hco L _ (fun e he => hL e (List.mem_cons_of_mem _ he)) hw
    show s_pot (rxs op co L (rx op co e.1 e.2 D)) 36 ≤ _ ∧ _
    cases hf : rxf op co e.1 e.2 D with
    | false =>
      have e0 := rx_no hf
      refine ⟨by rw [e0] at p1 ⊢; exact p1, fun hx => ?_⟩
      simp only [rxsf, hf, Bool.false_or] at hx
      have := p2 hx
      show s_pot (rxs op co L (rx op co e.1 e.2 D)) 36 < _
      rw [e0] at this ⊢
      exact this
    | true =>
      have := rx_pot hco h2 h1 h3 h hf
      exact ⟨by omega, fun _ => by show s_pot (rxs op co L (rx op co e.1 e.2 D)) 36 < _; omega⟩
