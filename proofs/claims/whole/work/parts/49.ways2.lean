theorem nat_min {P : Nat → Prop} (h : ∃ v, P v) : ∃ v, P v ∧ ∀ u, P u → v ≤ u := by
  have key : ∀ n, (∃ v, v ≤ n ∧ P v) → ∃ v, P v ∧ ∀ u, P u → v ≤ u := by
    intro n
    induction n with
    | zero =>
      rintro ⟨v, hv, hp⟩
      have : v = 0 := by omega
      subst this
      exact ⟨0, hp, fun u _ => Nat.zero_le u⟩
    | succ n ih =>
      rintro ⟨v, hv, hp⟩
      rcases Classical.em (∃ v, v ≤ n ∧ P v) with h2 | h2
      · exact ih h2
      · refine ⟨v, hp, fun u hu => ?_⟩
        rcases Nat.lt_or_ge u v with h3 | h3
        · exact absurd ⟨u, by omega, hu⟩ h2
        · exact h3
  obtain ⟨v, hv⟩ := h
  exact key v ⟨v, Nat.le_refl v, hv⟩
theorem lst_ex (op : Nat → Bool) (co : Nat → Nat → Nat) (st v0 q : Nat) : ∃ o, Lst op co st v0 q o := by
  rcases Classical.em (∃ v, ∃ k, Pth op co st v0 k q v) with h | h
  · obtain ⟨v, h1, h2⟩ := nat_min h
    exact ⟨some v, h1, fun k u hu => h2 u ⟨k, hu⟩⟩
  · exact ⟨none, fun k v hp => h ⟨v, k, hp⟩⟩
theorem s_num_mono {f g : Nat → Bool} (h : ∀ q, f q = true → g q = true) : ∀ n, s_num f n ≤ s_num g n
  | 0 => Nat.le_refl 0
  | k + 1 => by
    have ih := s_num_mono h k
    unfold s_num
    cases hf : f k with
    | false => simp; split <;> omega
    | true => simp [h k hf]; omega
theorem s_num_lt {f g : Nat → Bool} (h : ∀ q, f q = true → g q = true) {c : Nat} (hf : f c = false) (hg : g c = true) : ∀ n, c < n → s_num f n + 1 ≤ s_num g n
  | 0, hc => by omega
  | k + 1, hc => by
    unfold s_num
    by_cases e : c = k
    · subst e
      have := s_num_mono h c
      simp [hf, hg]
      omega
    · have ih := s_num_lt h hf hg k (by omega)
      cases hf : f k with
      | false => simp; split <;> omega
      | true => simp [h k hf]; omega
def s_tn (Z D : Nat → Option Nat) : Nat := s_num (fun q => (Z q).isSome && decide (D q = Z q)) 36
theorem wi_ge {op : Nat → Bool} {co : Nat → Nat → Nat} {st v0 : Nat} {D Z : Nat → Option Nat} (h : WI op co st v0 D) (hZ : ∀ q, Lst op co st v0 q (Z q)) {q y : Nat} (hy : D q = some y) : ∃ x, Z q = some x ∧ x ≤ y := by
  obtain ⟨-, ⟨k, hk⟩, -⟩ := h.1 q y hy
  have h1 := hZ q
  cases e : Z q with
  | none =>
    rw [e] at h1
    exact absurd hk (h1 k y)
  | some x =>
    rw [e] at h1
    exact ⟨x, rfl, h1.2 k y hk⟩
theorem way_find {op : Nat → Bool} {co : Nat → Nat → Nat} {st v0 : Nat} {D Z : Nat → Option Nat} (h : WI op co st v0 D) (hZ : ∀ q, Lst op co st v0 q (Z q)) : ∀ (k q x : Nat), Pth op co st v0 k q x → Z q = some x → D q ≠ Z q →
    ∃ a c u, Edg (a, c) ∧ op c = true ∧ D a = some u ∧ Z a = some u ∧ D c ≠ Z c ∧ Z c = some (u + co a c)
  | 0, q, x, hp, hx, hne => by
    obtain ⟨rfl, rfl, ho⟩ := hp
    obtain ⟨v, hv, hvl⟩ := h.2 ho
    obtain ⟨y, hy, hyl⟩ := wi_ge h hZ hv
    rw [hx] at hy
    cases hy
    have : v = x := by omega
    subst this
    exact absurd (hv.trans hx.symm) hne
  | k + 1, q, x, hp, hx, hne => by
    obtain ⟨a, u, w, hk, ha, hw, hs, ho, rfl⟩ := hp
    have hZa := hZ a
    cases e : Z a with
    | none =>
      rw [e] at hZa
      exact absurd hk (hZa k u)
    | some u2 =>
      rw [e] at hZa
      obtain ⟨⟨k2, hk2⟩, hm⟩ := hZa
      have h1 := hm k u hk
      have h2 : u + co a q ≤ u2 + co a q := by
        have hZq := hZ q
        rw [hx] at hZq
        exact hZq.2 (k2 + 1) _ ⟨a, u2, w, hk2, ha, hw, hs, ho, rfl⟩
      have h3 : u2 = u := by omega
      subst h3
      rcases Classical.em (D a = Z a) with h4 | h4
      · exact ⟨a, q, u2, ⟨ha, w, hw, hs⟩, ho, by rw [h4, e], e, hne, hx⟩
      · exact way_find h hZ k a u2 hk e h4
theorem way_round {op : Nat → Bool} {co : Nat → Nat → Nat} {st v0 : Nat} {D Z : Nat → Option Nat} {L : List (Nat × Nat)} (hco : ∀ a c, co a c ≤ 250) (hL : Full L) (h : WI op co st v0 D) (hZ : ∀ q, Lst op co st v0 q (Z q)) : (∀ q, D q = Z q) ∨ s_tn Z D + 1 ≤ s_tn Z (rxs op co L D) := by
  rcases Classical.em (∀ q, D q = Z q) with h1 | h1
  · exact Or.inl h1
  · right
    obtain ⟨q, hq⟩ : ∃ q, D q ≠ Z q := Classical.byContradiction fun hn => h1 fun q => Classical.byContradiction fun hq => hn ⟨q, hq⟩
    obtain ⟨x, hx⟩ : ∃ x, Z q = some x := by
      cases e : Z q with
      | some x => exact ⟨x, rfl⟩
      | none =>
        cases e2 : D q with
        | none => exact absurd (e2.trans e.symm) hq
        | some y =>
          obtain ⟨z, hz, -⟩ := wi_ge h hZ e2
          rw [e] at hz
          cases hz
    have hZq := hZ q
    rw [hx] at hZq
    obtain ⟨⟨k, hk⟩, -⟩ := hZq
    obtain ⟨a, c, u, he, ho, hDa, hZa, hDc, hZc⟩ := way_find h hZ k q x hk hx hq
    have hLE : ∀ e ∈ L, Edg e := fun e he => (hL e).mpr he
    have hw := rxs_wi hco L D hLE h
    obtain ⟨L1, L2, rfl⟩ := List.append_of_mem ((hL (a, c)).mp he)
    have hw1 : WI op co st v0 (rxs op co L1 D) := rxs_wi hco L1 D (fun e he => hLE e (List.mem_append_left _ he)) h
    have stay : ∀ (D2 : Nat → Option Nat), WI op co st v0 D2 → ∀ q x, ole (D2 q) (some x) → Z q = some x → D2 q = some x := by
      intro D2 hw2 q x hle hz
      obtain ⟨y, hy, hyl⟩ := hle x rfl
      obtain ⟨z, hz2, hzl⟩ := wi_ge hw2 hZ hy
      rw [hz] at hz2
      cases hz2
      rw [hy]
      congr 1
      omega
    have hD1a : rxs op co L1 D a = some u := stay _ hw1 a u (by have := rxs_le (op := op) (co := co) L1 D a; rw [hDa] at this; exact this) hZa
    have hD2c : ole (rx op co a c (rxs op co L1 D) c) (some (u + co a c)) := by
      intro z hz
      cases hz
      unfold rx
      rw [hD1a]
      simp only [ho, Bool.true_and]
      cases e : s_lts (u + co a c) (rxs op co L1 D c) with
      | true => exact ⟨_, by simp [s_up], Nat.le_refl _⟩
      | false =>
        cases e2 : rxs op co L1 D c with
        | none => rw [e2] at e; simp [s_lts] at e
        | some y =>
          rw [e2] at e
          simp [s_lts] at e
          exact ⟨y, by simp [e2], e⟩
    have e5 : rxs op co (L1 ++ (a, c) :: L2) D = rxs op co L2 (rx op co a c (rxs op co L1 D)) := by
      rw [rxs_app]
      rfl
    have hD3c : rxs op co (L1 ++ (a, c) :: L2) D c = some (u + co a c) := by
      refine stay _ hw c _ ?_ hZc
      rw [e5]
      exact ole_tr (rxs_le L2 _ c) hD2c
    refine s_num_lt (c := c) (fun q hq => ?_) ?_ ?_ 36 (by obtain ⟨h1, w, h2, h3⟩ := he; exact s_step_lt h1 h3)
    · simp only [Bool.and_eq_true, decide_eq_true_eq] at hq ⊢
      obtain ⟨q1, q2⟩ := hq
      refine ⟨q1, ?_⟩
      obtain ⟨x, hx⟩ := Option.isSome_iff_exists.mp q1
      rw [hx]
      refine stay _ hw q x ?_ hx
      have := rxs_le (op := op) (co := co) (L1 ++ (a, c) :: L2) D q
      rw [q2, hx] at this
      exact this
    · simp [hDc]
    · simp [hD3c, hZc]
def s_rnds (op : Nat → Bool) (co : Nat → Nat → Nat) (L : List (Nat × Nat)) : Nat → (Nat → Option Nat) → (Nat → Option Nat)
  | 0, D => D
  | m + 1, D => if rxsf op co L D then s_rnds op co L m (rxs op co L D) else D
theorem rnds_36 {op : Nat → Bool} {co : Nat → Nat → Nat} {st v0 : Nat} {Z : Nat → Option Nat} {L : List (Nat × Nat)} (hco : ∀ a c, co a c ≤ 250) (hL : Full L) (hZ : ∀ q, Lst op co st v0 q (Z q)) : ∀ (m : Nat) (D : Nat → Option Nat), WI op co st v0 D → ((∀ q, D q = Z q) ∨ 36 ≤ s_tn Z D + m) → ∀ q, s_rnds op co L m D q = Z q
  | 0, D, h, hd, q => by
    rcases hd with hd | hd
    · exact hd q
    · rcases way_round hco hL h hZ with h1 | h1
      · exact h1 q
      · have : s_tn Z (rxs op co L D) ≤ 36 := s_num_le _ 36
        omega
  | m + 1, D, h, hd, q => by
    unfold s_rnds
    have hw := rxs_wi hco L D (fun e he => (hL e).mpr he) h
    cases hf : rxsf op co L D with
    | false =>
      have h1 := cl_lst h (cl_of hL hf) q
      simp only [Bool.false_eq_true, if_false]
      exact lst_one h1 (hZ q)
    | true =>
      simp only [if_true]
      refine rnds_36 hco hL hZ m _ hw ?_ q
      have all : (∀ q, D q = Z q) → ∀ q, rxs op co L D q = Z q := by
        intro h1 q
        cases e : Z q with
        | none =>
          cases e2 : rxs op co L D q with
          | none => rfl
          | some y =>
            obtain ⟨z, hz, -⟩ := wi_ge hw hZ e2
            rw [e] at hz
            cases hz
        | some x =>
          have h2 := rxs_le (op := op) (co := co) L D q
          rw [h1 q, e] at h2
          obtain ⟨y, hy, hyl⟩ := h2 x rfl
          obtain ⟨z, hz, hzl⟩ := wi_ge hw hZ hy
          rw [e] at hz
          cases hz
          rw [hy]
          congr 1
          omega
      rcases way_round hco hL h hZ with h1 | h1
      · exact Or.inl (all h1)
      · rcases hd with hd | hd
        · exact Or.inl (all hd)
        · right
          omega
theorem rnds_lst {op : Nat → Bool} {co : Nat → Nat → Nat} {st v0 : Nat} {L : List (Nat × Nat)} (hco : ∀ a c, co a c ≤ 250) (hL : Full L) {D : Nat → Option Nat} (h : WI op co st v0 D) (q : Nat) : Lst op co st v0 q (s_rnds op co L 36 D q) := by
  have hZ : ∀ q, Lst op co st v0 q ((fun q => Classical.choose (lst_ex op co st v0 q)) q) := fun q => Classical.choose_spec (lst_ex op co st v0 q)
  rw [rnds_36 hco hL hZ 36 D h (Or.inr (by omega)) q]
  exact hZ q
theorem rnds_pot {op : Nat → Bool} {co : Nat → Nat → Nat} {st v0 : Nat} {L : List (Nat × Nat)} (hco : ∀ a c, co a c ≤ 250) (hL : Full L) : ∀ (m : Nat) (D : Nat → Option Nat), WI op co st v0 D → s_pot D 36 < m → ∀ q, Lst op co st v0 q (s_rnds op co L m D q)
  | 0, D, h, hm, q => by omega
  | m + 1, D, h, hm, q => by
    unfold s_rnds
    have hw := rxs_wi hco L D (fun e he => (hL e).mpr he) h
    cases hf : rxsf op co L D with
    | false =>
      simp only [Bool.false_eq_true, if_false]
      exact cl_lst h (cl_of hL hf) q
    | true =>
      simp only [if_true]
      have := (rxs_pot hco L D (fun e he => (hL e).mpr he) h).2 hf
      exact rnds_pot hco hL m _ hw (by omega) q
theorem s_pot_le {D : Nat → Option Nat} (h : ∀ q v, D q = some v → v ≤ 9000) : ∀ n, s_pot D n ≤ 9001 * n
  | 0 => by simp [s_pot]
  | k + 1 => by
    have ih := s_pot_le h k
    unfold s_pot
    cases e : D k with
    | none => simp only; omega
    | some v =>
      have := h k v e
      simp only
      omega
/-- the edges as the class goes over them -/
def s_el (a : Nat) : Nat → List (Nat × Nat)
  | 0 => []
  | w + 1 => s_el a w ++ (match s_step a w with
    | none => []
    | some c => [(a, c)])
def s_els : Nat → List (Nat × Nat)
  | 0 => []
  | a + 1 => s_els a ++ s_el a 4
theorem mem_el {a : Nat} {e : Nat × Nat} : ∀ j, e ∈ s_el a j ↔ ∃ w, w < j ∧ e.1 = a ∧ s_step a w = some e.2
  | 0 => by simp [s_el]
  | j + 1 => by
    unfold s_el
    rw [List.mem_append, mem_el j]
    constructor
    · rintro (⟨w, h1, h2, h3⟩ | h)
      · exact ⟨w, by omega, h2, h3⟩
      · cases hs : s_step a j with
        | none => rw [hs] at h; cases h
        | some c =>
          rw [hs] at h
          simp only [List.mem_singleton] at h
          subst h
          exact ⟨j, by omega, rfl, hs⟩
    · rintro ⟨w, h1, h2, h3⟩
      by_cases e2 : w = j
      · right
        subst e2
        rw [h3]
        simp only [List.mem_singleton]
        rw [← h2]
      · left
        exact ⟨w, by omega, h2, h3⟩
theorem mem_els {e : Nat × Nat} : ∀ j, e ∈ s_els j ↔ ∃ a, a < j ∧ e ∈ s_el a 4
  | 0 => by simp [s_els]
  | j + 1 => by
    unfold s_els
    rw [List.mem_append, mem_els j]
    constructor
    · rintro (⟨a, h1, h2⟩ | h)
      · exact ⟨a, by omega, h2⟩
      · exact ⟨j, by omega, h⟩
    · rintro ⟨a, h1, h2⟩
      by_cases e2 : a = j
      · right
        subst e2
        exact h2
      · left
        exact ⟨a, by omega, h2⟩
theorem full_els : Full (s_els 36) := by
  intro e
  rw [mem_els]
  constructor
  · rintro ⟨h1, w, h2, h3⟩
    exact ⟨e.1, h1, (mem_el 4).mpr ⟨w, h2, rfl, h3⟩⟩
  · rintro ⟨a, h1, h2⟩
    obtain ⟨w, h3, h4, h5⟩ := (mem_el 4).mp h2
    subst h4
    exact ⟨h1, w, h3, h5⟩
