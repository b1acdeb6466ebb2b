/-! ===== fines are small ===== -/
theorem mx99 (v : Int32) : ∃ j, j ≤ 99 ∧ mxI 0 (mnI 99 v) = nI j := by
  by_cases h : v < 99
  · have e : mnI 99 v = v := if_pos h
    rw [e]
    by_cases h0 : (0 : Int32) < v
    · have e2 : mxI 0 v = v := if_pos h0
      rw [e2]
      obtain ⟨j, hj, rfl⟩ := nI_of (x := v) (fun z => Int32.lt_irrefl (Int32.lt_trans z h0))
      refine ⟨j, ?_, rfl⟩
      rw [show (99 : Int32) = nI 99 from rfl, nltL hj (by decide)] at h
      omega
    · have e2 : mxI 0 v = 0 := if_neg h0
      rw [e2]
      exact ⟨0, by omega, rfl⟩
  · have e : mnI 99 v = 99 := if_neg h
    rw [e]
    exact ⟨99, by omega, rfl⟩
theorem say0_small (d : Dt) (r c : Nat) (h : Int32) : ∃ j, j ≤ 99 ∧ s_say d 0 r c h = nI j := by
  unfold s_say
  rw [if_pos rfl]
  exact mx99 _
theorem fin_small {d : Dt} {r : Nat} (c : Nat) (h : Int32) (hm : ∃ m, m ≤ 9 ∧ d_m d r = nI m) : ∃ j, j ≤ 250 ∧ s_fin d r c h = nI j := by
  obtain ⟨m, hm, em⟩ := hm
  obtain ⟨j, hj, ej⟩ := say0_small d r c h
  have tar : ∃ t, t ≤ 117 ∧ s_tar d r c h = nI t := by
    unfold s_tar
    rw [ej, em, show (2 : Int32) * nI m = nI (2 * m) from pk_mul 2 m, nI_add]
    split
    · exact ⟨j + 2 * m, by omega, rfl⟩
    · exact ⟨j, by omega, rfl⟩
  obtain ⟨t, ht, et⟩ := tar
  unfold s_fin
  rw [ej, em, et]
  split
  · exact ⟨m, by omega, rfl⟩
  · split
    · exact ⟨t, by omega, rfl⟩
    · split
      · exact ⟨2 * t, by omega, pk_mul 2 t⟩
      · split
        · split
          · exact ⟨0, by omega, rfl⟩
          · exact ⟨j / 2, by omega, pk_div (d := 2) (by omega) (by decide) (by decide)⟩
        · exact ⟨j, by omega, rfl⟩
theorem fat_small {d : Dt} {n : Nat} {o : Option Nat} (c : Nat) (h : Int32) (hm : ∀ r, r < n → ∃ m, m ≤ 9 ∧ d_m d r = nI m) (ho : ∀ r, o = some r → r < n) : ∃ j, j ≤ 250 ∧ s_fat d o c h = nI j := by
  cases o with
  | none => exact ⟨0, by omega, rfl⟩
  | some r => exact fin_small c h (hm r (ho r rfl))
/-- a fine as a number -/
def s_fn (v : Int32) : Nat := v.toNatClampNeg
theorem s_fn_ok {v : Int32} (h : ∃ j, j ≤ 250 ∧ v = nI j) : s_fn v ≤ 250 ∧ v = nI (s_fn v) := by
  obtain ⟨j, hj, rfl⟩ := h
  unfold s_fn
  rw [nI_clamp (by omega)]
  exact ⟨hj, rfl⟩
theorem sum_small {g : Nat → Int32} {b : Nat} (hg : ∀ i, ∃ j, j ≤ b ∧ g i = nI j) : ∀ n, ∃ j, j ≤ b * n ∧ s_sum g n = nI j
  | 0 => ⟨0, by omega, rfl⟩
  | n + 1 => by
    obtain ⟨j, hj, ej⟩ := sum_small hg n
    obtain ⟨k, hk, ek⟩ := hg n
    refine ⟨j + k, ?_, ?_⟩
    · rw [Nat.mul_succ]
      omega
    · unfold s_sum
      rw [ej, ek, nI_add]
theorem bI_small (b : Bool) : ∃ j, j ≤ 1 ∧ bI b = nI j := by
  cases b
  · exact ⟨0, by omega, rfl⟩
  · exact ⟨1, by omega, rfl⟩
theorem cnt_small (R : Nat → Option Nat) (x : Nat) : ∃ j, j ≤ 36 ∧ s_cnt R x = nI j := by
  obtain ⟨j, hj, ej⟩ := sum_small (b := 1) (g := fun c => bI (decide (R c = some x))) (fun i => bI_small _) 36
  exact ⟨j, by omega, ej⟩
/-- a small number fits a short -/
theorem short_small {v : Int32} (h : ∃ j, j ≤ 250 ∧ v = nI j) : v.toInt16.toInt32 = v := by
  obtain ⟨j, hj, rfl⟩ := h
  have key : ∀ k : Fin 251, (nI k.val).toInt16.toInt32 = nI k.val := by decide +kernel
  exact key ⟨j, by omega⟩
