/-! ===== kinds, crowds, laws ===== -/
def s_or (f : Nat → Bool) : Nat → Int32
  | 0 => 0
  | k + 1 => if f k then s_or f k ||| shI 1 (nI k) else s_or f k
def s_kq (A : Nat) (d : Dt) (r v : Nat) : Dt := d_sk d (fun q => if A = 26 ∧ q = r then nI v else d_k d q) (fun q => if A = 27 ∧ q = r then nI v else d_m d q)
theorem RC.sk' {n : Nat} {d : Dt} {μ μ2 : ax_M} {k m : Nat → Int32} (h : RC n d μ) (e1 : μ2 25 1 = μ 25 1) (e : ∀ k i, 28 ≤ k → k ≤ 31 → μ2 k i = μ k i) (hk : ∀ q, q < n → μ2 26 q = k q) (hm : ∀ q, q < n → μ2 27 q = m q) : RC n (d_sk d k m) μ2 := by
  obtain ⟨h1, h2, h3⟩ := h
  refine ⟨h1, e1.trans h2, fun r hr => ?_⟩
  obtain ⟨-, -, a3, a4, a5, a6, a7, a8, a9, a10⟩ := h3 r hr
  exact ⟨hk r hr, hm r hr, (e 28 r (by omega) (by omega)).trans a3, (e 29 r (by omega) (by omega)).trans a4, (e 30 r (by omega) (by omega)).trans a5, (e 31 r (by omega) (by omega)).trans a6, a7, a8, a9, a10⟩
theorem RM.sk' {n : Nat} {d : Dt} {μ μ2 : ax_M} {k m : Nat → Int32} (h : RM n d μ) (e1 : μ2 51 0 = μ 51 0) (e : ∀ i, μ2 54 i = μ 54 i) (hk : ∀ q, q < n → μ2 52 q = k q) (hm : ∀ q, q < n → μ2 53 q = m q) : RM n (d_sk d k m) μ2 := by
  obtain ⟨h1, h2, h3⟩ := h
  refine ⟨h1, e1.trans h2, fun r hr => ?_⟩
  obtain ⟨-, -, a3, a4, a5, a7, a8, a9, a10⟩ := h3 r hr
  exact ⟨hk r hr, hm r hr, (e _).trans a3, (e _).trans a4, (e _).trans a5, a7, a8, a9, a10⟩
def Sz (A r k i : Nat) : Bool := k == 16 || k == 17 || (k == A && i == r)
def Tz (r k i : Nat) : Bool := k == 66 || k == 67 || k == 68 || ((k == 52 || k == 53) && i == r)
/-- which guesses fit -/
def s_fk (A : Nat) (d : Dt) (n c z : Nat) (C : Nat → Int32) (r v : Nat) : Bool := decide (s_ot (s_kq A d r v) n c z C = -1)
section
variable {n hr lw tx ts : Nat} {d : Dt} {F : Nat → Lw} {tb : Nat → Nat} {im : Im} {sh : Sh4} {μ μ2 : ax_M}
theorem c_kd {A r s c z m : Nat} {C : Nat → Int32} (hA : A = 26 ∨ A = 27) (h : RC n d μ) (hl : LC d μ) (hr : r < n) (hs : s < 4) (hz : z ≤ 40) (hc : c < 36) (h50 : μ 50 s = nI z) (hC : ∀ i, i < z → μ (45 + s) i = C i) (hm : m ≤ 10) : ∃ μ2, m_X9_kinds_80 (nI s) (nI c) (nI r) A (nI m) μ = some (s_or (s_fk A d n c z C r) m, μ2) ∧ Ch S2 μ μ2 := by
  have hn := h.1
  have i6 : ix 6 (nI r) = some r := ix_nI (by omega) (by decide)
  have qA : q_n A = some 6 := by rcases hA with rfl | rfl <;> decide
  have qs : ∀ (μ : ax_M) (v : Int32), q_st μ A (nI r) v = some (ax_w μ A r v) := fun μ v => by
    unfold q_st
    rw [qA, ob_some, i6, ob_some]
  have i4 : ix 4 (nI s) = some s := ix_nI hs (by decide)
  obtain ⟨b, hb, hq⟩ := loopK (N := m) (fun k i (a : Int32 × ax_M) => m_X9_kinds_94 (nI s) (nI c) (nI r) A (nI m) (μ A r) k a.1 (nI i) a.2) (fun i a => a.1 = s_or (s_fk A d n c z C r) i ∧ Ch (Sz A r) μ a.2) (fun a => some (a.1, ax_w a.2 A r (μ A r))) (by omega)
    (fun k i a hi hI => by
      obtain ⟨x, μ1⟩ := a
      obtain ⟨hx0, hch0⟩ := hI
      have hx : x = s_or (s_fk A d n c z C r) i := hx0
      have hch : Ch (Sz A r) μ μ1 := hch0
      clear hx0 hch0
      subst hx
      show ∃ a2, m_X9_kinds_94 (nI s) (nI c) (nI r) A (nI m) (μ A r) (k + 1) _ (nI i) μ1 = _ ∧ _
      rw [m_X9_kinds_94, if_neg (by rw [nleL (by omega) (by omega)]; omega), qs, ob_some, i4, ob_some, ob_some, na1]
      have hch1 : Ch (Sz A r) μ (ax_w μ1 A r (nI i)) := hch.w (by simp [Sz])
      have hv : (ax_w μ1 A r (nI i)) A r = nI i := w_ss
      generalize ax_w μ1 A r (nI i) = μ2 at *
      have e : ∀ k j, Sz A r k j = false → μ2 k j = μ k j := hch1
      have hR : RC n (s_kq A d r i) μ2 := h.sk' (e 25 1 (by simp [Sz]; omega)) (fun k j a b => e k j (by simp [Sz]; omega)) (fun q hq => by
        by_cases e1 : A = 26 ∧ q = r
        · rw [if_pos e1]
          obtain ⟨rfl, rfl⟩ := e1
          exact hv
        · rw [if_neg e1, e 26 q (by simp [Sz]; omega)]
          exact (h.2.2 q hq).1) (fun q hq => by
        by_cases e1 : A = 27 ∧ q = r
        · rw [if_pos e1]
          obtain ⟨rfl, rfl⟩ := e1
          exact hv
        · rw [if_neg e1, e 27 q (by simp [Sz]; omega)]
          exact (h.2.2 q hq).2.1)
      have hL : LC (s_kq A d r i) μ2 := LC.sk (by
        intro μ' a b p hp
        exact h.1 |> fun _ => hl μ' (fun k h1 h2 => by rw [a k h1 h2]; exact funext fun j => e k j (by simp [Sz]; omega)) (by rw [b]; exact e 25 3 (by simp [Sz]; omega)) p hp)
      obtain ⟨μ3, q1, q2⟩ := c_fo2 (C := C) hR hL hs hz hc (fun j hj => by rw [e (45 + s) j (by simp [Sz]; omega)]; exact hC j hj)
      rw [e 50 s (by simp [Sz]; omega), h50, q1, bind2_some]
      have hch3 : Ch (Sz A r) μ μ3 := hch1.tr (q2.mono fun k j e => by simp [Sz, S2] at *; omega)
      by_cases e1 : s_ot (s_kq A d r i) n c z C = -1
      · have e1' := e1
        unfold s_ot at e1'
        rw [if_pos e1']
        exact ⟨(_, μ3), rfl, by show _ = s_or _ (i + 1); rw [s_or, if_pos (by simp [s_fk, e1])], hch3⟩
      · have e1' := e1
        unfold s_ot at e1'
        rw [if_neg e1']
        exact ⟨(_, μ3), rfl, by show _ = s_or _ (i + 1); rw [s_or, if_neg (by simp [s_fk, e1])], hch3⟩)
    (fun k a hI => by
      show m_X9_kinds_94 (nI s) (nI c) (nI r) A (nI m) (μ A r) (k + 1) a.1 (nI m) a.2 = _
      rw [m_X9_kinds_94, if_pos (Int32.le_refl _), qs, ob_some])
    (0, μ) ⟨rfl, Ch.rf⟩
  obtain ⟨k1, k2⟩ := hb
  refine ⟨ax_w b.2 A r (μ A r), ?_, fun k j hs => ?_⟩
  · unfold m_X9_kinds_80 q_ld
    rw [qA, ob_some, i6, ob_some, ob_some]
    rw [k1] at hq
    exact hq
  · by_cases e1 : k = A ∧ j = r
    · rw [e1.1, e1.2, w_ss]
    · rw [w_e e1]
      refine k2 k j ?_
      simp [S2, Sz] at *
      omega
theorem m_kd {A r s c z m : Nat} {x4 : Int32} {C : Nat → Int32} (hA : A = 26 ∧ x4 = 0 ∧ m = 6 ∨ A = 27 ∧ x4 = 1 ∧ m = 10) (h : RM n d μ) (hl : LM d μ) (hr : r < n) (hs : s < 4) (hz : z ≤ 40) (hc : c < 36) (h50 : μ 61 s = nI z) (hC : ∀ i, i < z → μ 62 (40 * s + i) = C i) : ∃ μ2, m_X10_kinds_62 (nI s) (nI c) (nI r) x4 (μ 52 r) (μ 53 r) fu 0 0 μ = some (s_or (s_fk A d n c z C r) m, μ2) ∧ Ch T3 μ μ2 := by
  have hn := h.1
  have i6 : ix 6 (nI r) = some r := ix_nI (by omega) (by decide)
  have hm : m ≤ 10 := by omega
  obtain ⟨b, hb, hq⟩ := loopK (N := m) (fun k i (a : Int32 × ax_M) => m_X10_kinds_62 (nI s) (nI c) (nI r) x4 (μ 52 r) (μ 53 r) k a.1 (nI i) a.2) (fun i a => a.1 = s_or (s_fk A d n c z C r) i ∧ Ch (Tz r) μ a.2) (fun a => some (a.1, ax_w (ax_w a.2 52 r (μ 52 r)) 53 r (μ 53 r))) (by omega)
    (fun k i a hi hI => by
      obtain ⟨x, μ1⟩ := a
      obtain ⟨hx0, hch0⟩ := hI
      have hx : x = s_or (s_fk A d n c z C r) i := hx0
      have hch : Ch (Tz r) μ μ1 := hch0
      clear hx0 hch0
      subst hx
      show ∃ a2, m_X10_kinds_62 (nI s) (nI c) (nI r) x4 (μ 52 r) (μ 53 r) (k + 1) _ (nI i) μ1 = _ ∧ _
      have hstep : m_X10_kinds_62 (nI s) (nI c) (nI r) x4 (μ 52 r) (μ 53 r) (k + 1) (s_or (s_fk A d n c z C r) i) (nI i) μ1 = bind2 (m_X10_unlike (nI s) (nI c) (ax_w (ax_w μ1 52 r (if A = 26 then nI i else μ 52 r)) 53 r (if A = 27 then nI i else μ 53 r))) fun v3 μ5 => if v3 = (-1) then m_X10_kinds_62 (nI s) (nI c) (nI r) x4 (μ 52 r) (μ 53 r) k ((s_or (s_fk A d n c z C r) i) ||| (shI 1 (nI i))) (nI (i + 1)) μ5 else m_X10_kinds_62 (nI s) (nI c) (nI r) x4 (μ 52 r) (μ 53 r) k (s_or (s_fk A d n c z C r) i) (nI (i + 1)) μ5 := by
        rw [m_X10_kinds_62]
        unfold m_X10_kinds_76 m_X10_kinds_96 m_X10_kinds_115
        rw [i6, ob_some, ob_some, ob_some, ob_some, ob_some, ob_some, na1, or0]
        rcases hA with ⟨rfl, rfl, rfl⟩ | ⟨rfl, rfl, rfl⟩
        · have : ¬ (6 : Int32) ≤ nI i := by rw [show (6 : Int32) = nI 6 from rfl, nleL (by omega) (by omega)]; omega
          simp [this]
        · have : ¬ (10 : Int32) ≤ nI i := by rw [show (10 : Int32) = nI 10 from rfl, nleL (by omega) (by omega)]; omega
          simp [this]
      rw [hstep]
      have hch1 : Ch (Tz r) μ (ax_w (ax_w μ1 52 r (if A = 26 then nI i else μ 52 r)) 53 r (if A = 27 then nI i else μ 53 r)) := (hch.w (by simp [Tz])).w (by simp [Tz])
      have hv : (ax_w (ax_w μ1 52 r (if A = 26 then nI i else μ 52 r)) 53 r (if A = 27 then nI i else μ 53 r)) 52 r = if A = 26 then nI i else μ 52 r := by rw [w_k (by decide), w_ss]
      have hv2 : (ax_w (ax_w μ1 52 r (if A = 26 then nI i else μ 52 r)) 53 r (if A = 27 then nI i else μ 53 r)) 53 r = if A = 27 then nI i else μ 53 r := w_ss
      generalize ax_w (ax_w μ1 52 r (if A = 26 then nI i else μ 52 r)) 53 r (if A = 27 then nI i else μ 53 r) = μ2 at *
      have e : ∀ k j, Tz r k j = false → μ2 k j = μ k j := hch1
      have hR : RM n (s_kq A d r i) μ2 := h.sk' (e 51 0 (by simp [Tz])) (fun j => e 54 j (by simp [Tz])) (fun q hq => by
        by_cases e1 : q = r
        · subst e1
          rw [hv]
          by_cases e2 : A = 26
          · simp [e2]
          · simp [e2]
            exact (h.2.2 q hq).1
        · rw [if_neg (fun z => e1 z.2), e 52 q (by simp [Tz]; omega)]
          exact (h.2.2 q hq).1) (fun q hq => by
        by_cases e1 : q = r
        · subst e1
          rw [hv2]
          by_cases e2 : A = 27
          · simp [e2]
          · simp [e2]
            exact (h.2.2 q hq).2.1
        · rw [if_neg (fun z => e1 z.2), e 53 q (by simp [Tz]; omega)]
          exact (h.2.2 q hq).2.1)
      have hL : LM (s_kq A d r i) μ2 := LM.sk (hl.ch2 hch1 fun k j hk => by simp [Tz]; omega)
      obtain ⟨μ3, q1, q2⟩ := m_unl2 (C := C) hR hL hs hz (by rw [e 61 s (by simp [Tz])]; exact h50) hc (fun j hj => by rw [e 62 _ (by simp [Tz])]; exact hC j hj)
      rw [q1, bind2_some]
      have hch3 : Ch (Tz r) μ μ3 := hch1.tr (q2.mono fun k j e => by simp [Tz, T3] at *; omega)
      by_cases e1 : s_ot (s_kq A d r i) n c z C = -1
      · have e1' := e1
        unfold s_ot at e1'
        rw [if_pos e1']
        exact ⟨(_, μ3), rfl, by show _ = s_or _ (i + 1); rw [s_or, if_pos (by simp [s_fk, e1])], hch3⟩
      · have e1' := e1
        unfold s_ot at e1'
        rw [if_neg e1']
        exact ⟨(_, μ3), rfl, by show _ = s_or _ (i + 1); rw [s_or, if_neg (by simp [s_fk, e1])], hch3⟩)
    (fun k a hI => by
      show m_X10_kinds_62 (nI s) (nI c) (nI r) x4 (μ 52 r) (μ 53 r) (k + 1) a.1 (nI m) a.2 = _
      rw [m_X10_kinds_62]
      unfold m_X10_kinds_76
      rw [i6]
      simp only [ob_some]
      rcases hA with ⟨rfl, rfl, rfl⟩ | ⟨rfl, rfl, rfl⟩
      · rw [if_pos rfl, if_pos (by decide)]
      · rw [if_neg (by decide), if_pos (by decide)])
    (0, μ) ⟨rfl, Ch.rf⟩
  obtain ⟨k1, k2⟩ := hb
  refine ⟨ax_w (ax_w b.2 52 r (μ 52 r)) 53 r (μ 53 r), ?_, fun k j hs => ?_⟩
  · rw [k1] at hq
    exact hq
  · by_cases e1 : k = 53 ∧ j = r
    · rw [e1.1, e1.2, w_ss]
    · rw [w_e e1]
      by_cases e2 : k = 52 ∧ j = r
      · rw [e2.1, e2.2, w_ss]
      · rw [w_e e2]
        refine k2 k j ?_
        simp [T3, Tz] at *
        omega
theorem b_kinds (h : K n d hr lw tx F ts tb im sh μ) (x1 x2 x3 x4 : Int32) : Bo (m_X9_kinds x1 x2 x3 x4) (m_X10_kinds x1 x2 x3 x4) μ := by
  rcases h.told x1 x2 with ⟨s, c, hs, hc, rfl, rfl, hz, hk⟩ | ⟨v, hv, hk⟩
  · rcases argr n x3 h.n6 with ⟨r, hr', rfl, k1⟩ | k0
    · by_cases hx : x4 = 0 ∨ x4 = 1
      · have h6 := h.n6
        have i6 : ix 6 (nI r) = some r := ix_nI (by omega) (by decide)
        obtain ⟨A, m, hA⟩ : ∃ A m, (A = 26 ∧ x4 = 0 ∧ m = 6 ∨ A = 27 ∧ x4 = 1 ∧ m = 10) := by
          rcases hx with e | e
          · exact ⟨26, 6, Or.inl ⟨rfl, e, rfl⟩⟩
          · exact ⟨27, 10, Or.inr ⟨rfl, e, rfl⟩⟩
        refine h.q (v := s_or (s_fk A d n c (sh_z sh s) (sh_v sh s) r) m) ?_ fun μ' h' => ?_
        · obtain ⟨μ2, e1, e2⟩ := c_kd (m := m) (A := A) (by omega) h.rc h.lc hr' hs (show sh_z sh s ≤ 40 by omega) hc (h.2.1.2.2.2.2 s hs).2.1 (h.2.1.2.2.2.2 s hs).2.2 (by omega)
          refine ⟨μ2, ?_, s2C e2⟩
          rw [← e1]
          unfold m_X9_kinds m_X9_kinds_44 m_X9_kinds_66
          rw [(hk μ h).2, ob_some, if_pos rfl, c_rug h.rc.2.1, k1, ob_some, if_neg (by decide)]
          rcases hA with ⟨rfl, rfl, rfl⟩ | ⟨rfl, rfl, rfl⟩
          · rw [if_pos rfl, if_pos rfl, if_pos rfl]
            rfl
          · rw [if_neg (by decide), if_pos rfl, if_neg (by decide), if_neg (by decide)]
            rfl
        · obtain ⟨μ2, e1, e2⟩ := m_kd hA h'.rm h'.lm hr' hs (show sh_z sh s ≤ 40 by omega) hc (h'.2.2.2.2.2.2 s hs).2.1 (h'.2.2.2.2.2.2 s hs).2.2
          refine ⟨μ2, ?_, t3M e2⟩
          rw [← e1]
          unfold m_X10_kinds
          rw [(hk μ' h').1, ob_some, if_pos rfl, m_rug h6 h'.rm.2.1, k1, ob_some, if_neg (by decide), m_in, in01' hx, ob_some, if_neg (by decide), i6, ob_some, ob_some]
      · have h0 : ¬ x4 = 0 := fun z => hx (Or.inl z)
        have h1 : ¬ x4 = 1 := fun z => hx (Or.inr z)
        refine h.no (-7) ?_ ?_
        · unfold m_X9_kinds
          rw [(hk μ h).2, ob_some, if_pos rfl, c_rug h.rc.2.1, k1, ob_some, if_neg (by decide), if_neg h0, if_neg h1]
        · unfold m_X10_kinds
          rw [(hk μ h).1, ob_some, if_pos rfl, m_rug h.n6 h.rm.2.1, k1, ob_some, if_neg (by decide), m_in, in01 h0 h1, ob_some, if_pos (by decide)]
    · refine h.no (-6) ?_ ?_
      · unfold m_X9_kinds
        rw [(hk μ h).2, ob_some, if_pos rfl, c_rug h.rc.2.1, k0, ob_some, if_pos (by decide)]
      · unfold m_X10_kinds
        rw [(hk μ h).1, ob_some, if_pos rfl, m_rug h.n6 h.rm.2.1, k0, ob_some, if_pos (by decide)]
  · exact h.no v (by unfold m_X9_kinds; rw [(hk μ h).2, ob_some, if_neg hv]) (by unfold m_X10_kinds; rw [(hk μ h).1, ob_some, if_neg hv])
end
