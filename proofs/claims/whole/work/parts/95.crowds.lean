/-! ===== crowds, laws ===== -/
def s_fc (d : Dt) (n c z : Nat) (C : Nat → Int32) (r v : Nat) : Bool := decide (s_ot (d_sg d (s_pi (d_g d) r (nI v))) n c z C = -1)
def s_cnf (f : Nat → Bool) : Nat → Nat → Nat
  | 0, _ => 0
  | m + 1, i => s_cnf f m (i + 1) + (if f i then 1 else 0)
theorem cnf_num (f : Nat → Bool) : ∀ (m i : Nat), s_num f i + s_cnf f m i = s_num f (i + m)
  | 0, i => rfl
  | m + 1, i => by
    have h := cnf_num f m (i + 1)
    rw [s_num] at h
    rw [s_cnf, show i + (m + 1) = i + 1 + m by omega]
    omega
theorem cnf_le (f : Nat → Bool) (m i : Nat) : s_cnf f m i ≤ m := by
  induction m generalizing i with
  | zero => exact Nat.le_refl 0
  | succ m ih =>
    have := ih (i + 1)
    unfold s_cnf
    split <;> omega
/-- the first up to i -/
def s_f1 (f : Nat → Bool) : Nat → Int32
  | 0 => -1
  | i + 1 => if f i ∧ s_f1 f i = -1 then nI i else s_f1 f i
theorem f1_ff (f : Nat → Bool) : ∀ (m i : Nat), i + m < 2 ^ 31 → s_f1 f (i + m) = if s_f1 f i = -1 then s_ff f m i else s_f1 f i
  | 0, i, _ => by
    show s_f1 f i = if s_f1 f i = -1 then -1 else s_f1 f i
    by_cases e : s_f1 f i = -1 <;> simp [e]
  | m + 1, i, h => by
    rw [show i + (m + 1) = i + 1 + m by omega, f1_ff f m (i + 1) (by omega), s_f1, s_ff]
    by_cases e : s_f1 f i = -1
    · by_cases e2 : f i = true
      · have : ¬ nI i = -1 := nm1 (by omega)
        simp [e, e2, this]
      · simp [e, e2]
    · simp [e]
section
variable {n hr lw tx ts : Nat} {d : Dt} {F : Nat → Lw} {tb : Nat → Nat} {im : Im} {sh : Sh4} {μ μ2 : ax_M}
def Sgr (r k i : Nat) : Bool := k == 16 || k == 17 || (k == 31 && i == r)
def Tgr (r k i : Nat) : Bool := k == 66 || k == 67 || k == 68 || (k == 54 && i == 3 * r + 2)
theorem RC.sg' {g : Nat → Int32} (h : RC n d μ) (e1 : μ2 25 1 = μ 25 1) (e : ∀ k i, 26 ≤ k → k ≤ 30 → μ2 k i = μ k i) (hg : ∀ q, q < n → μ2 31 q = g q) : RC n (d_sg d g) μ2 := by
  obtain ⟨h1, h2, h3⟩ := h
  refine ⟨h1, e1.trans h2, fun r hr => ?_⟩
  obtain ⟨a1, a2, a3, a4, a5, -, a7, a8, a9, a10⟩ := h3 r hr
  exact ⟨(e 26 r (by omega) (by omega)).trans a1, (e 27 r (by omega) (by omega)).trans a2, (e 28 r (by omega) (by omega)).trans a3, (e 29 r (by omega) (by omega)).trans a4, (e 30 r (by omega) (by omega)).trans a5, hg r hr, a7, a8, a9, a10⟩
theorem RM.sg' {g : Nat → Int32} (h : RM n d μ) (e1 : μ2 51 0 = μ 51 0) (e : ∀ k i, 52 ≤ k → k ≤ 53 → μ2 k i = μ k i) (e4 : ∀ q, q < n → μ2 54 (3 * q) = μ 54 (3 * q) ∧ μ2 54 (3 * q + 1) = μ 54 (3 * q + 1)) (hg : ∀ q, q < n → μ2 54 (3 * q + 2) = g q) : RM n (d_sg d g) μ2 := by
  obtain ⟨h1, h2, h3⟩ := h
  refine ⟨h1, e1.trans h2, fun r hr => ?_⟩
  obtain ⟨a1, a2, a3, a4, -, a7, a8, a9, a10⟩ := h3 r hr
  exact ⟨(e 52 r (by omega) (by omega)).trans a1, (e 53 r (by omega) (by omega)).trans a2, (e4 r hr).1.trans a3, (e4 r hr).2.trans a4, hg r hr, a7, a8, a9, a10⟩
theorem c_crd {r s c z : Nat} {x4 : Int32} {C : Nat → Int32} (h : RC n d μ) (hl : LC d μ) (hr : r < n) (hs : s < 4) (hz : z ≤ 40) (hc : c < 36) (h50 : μ 50 s = nI z) (hC : ∀ i, i < z → μ (45 + s) i = C i) : ∃ μ2, m_X9_crowds_44 (nI s) (nI c) (nI r) x4 μ = some (if x4 = 0 then nI (s_num (s_fc d n c z C r) 100) else s_f1 (s_fc d n c z C r) 100, μ2) ∧ Ch S2 μ μ2 := by
  have hn := h.1
  have i6 : ix 6 (nI r) = some r := ix_nI (by omega) (by decide)
  have i4 : ix 4 (nI s) = some s := ix_nI hs (by decide)
  have key : ∀ (i m k : Nat) (μ1 : ax_M), i + m = 100 → i < k → Ch (Sgr r) μ μ1 → ∃ μ2, m_X9_crowds_65 (nI s) (nI c) (nI r) x4 (μ 31 r) k (nI (s_cnf (s_fc d n c z C r) m i)) (s_ff (s_fc d n c z C r) m i) (nI i - 1) μ1 = some (if x4 = 0 then nI (s_cnf (s_fc d n c z C r) 100 0) else s_ff (s_fc d n c z C r) 100 0, μ2) ∧ Ch S2 μ μ2 := by
    intro i
    induction i with
    | zero =>
      intro m k μ1 hi hk hch
      obtain ⟨k, rfl⟩ : ∃ k2, k = k2 + 1 := ⟨k - 1, by omega⟩
      have : m = 100 := by omega
      subst this
      rw [m_X9_crowds_65, if_pos (by decide), i6, ob_some]
      refine ⟨ax_w μ1 31 r (μ 31 r), ?_, fun k j hs => ?_⟩
      · by_cases e : x4 = 0 <;> simp [e]
      · by_cases e1 : k = 31 ∧ j = r
        · rw [e1.1, e1.2, w_ss]
        · rw [w_e e1]
          refine hch k j ?_
          simp [S2, Sgr] at *
          omega
    | succ i ih =>
      intro m k μ1 hi hk hch
      obtain ⟨k, rfl⟩ : ∃ k2, k = k2 + 1 := ⟨k - 1, by omega⟩
      rw [m_X9_crowds_65, nI_pred, if_neg (nneg (by omega)), i6, ob_some, i4, ob_some, ob_some]
      have hch1 : Ch (Sgr r) μ (ax_w μ1 31 r (nI i)) := hch.w (by simp [Sgr])
      have hv : (ax_w μ1 31 r (nI i)) 31 r = nI i := w_ss
      generalize ax_w μ1 31 r (nI i) = μ2 at *
      have e : ∀ k j, Sgr r k j = false → μ2 k j = μ k j := hch1
      have hR : RC n (d_sg d (s_pi (d_g d) r (nI i))) μ2 := h.sg' (e 25 1 (by simp [Sgr])) (fun k j a b => e k j (by simp [Sgr]; omega)) (fun q hq => by
        unfold s_pi
        by_cases e1 : q = r
        · rw [if_pos e1, e1, hv]
        · rw [if_neg e1, e 31 q (by simp [Sgr]; omega)]
          exact (h.2.2 q hq).2.2.2.2.2.1)
      have hL : LC (d_sg d (s_pi (d_g d) r (nI i))) μ2 := LC.sg (fun μ' a b p hp => hl μ' (fun k h1 h2 => by rw [a k h1 h2]; exact funext fun j => e k j (by simp [Sgr]; omega)) (by rw [b]; exact e 25 3 (by simp [Sgr])) p hp)
      obtain ⟨μ3, q1, q2⟩ := c_fo2 (C := C) hR hL hs hz hc (fun j hj => by rw [e (45 + s) j (by simp [Sgr]; omega)]; exact hC j hj)
      rw [e 50 s (by simp [Sgr]), h50, q1, bind2_some, show nI i + (-1) = nI i - 1 from (Int32.sub_eq_add_neg _ _).symm]
      have hch3 : Ch (Sgr r) μ μ3 := hch1.tr (q2.mono fun k j e => by simp [Sgr, S2] at *; omega)
      obtain ⟨μ4, f1, f2⟩ := ih (m + 1) k μ3 (by omega) (by omega) hch3
      refine ⟨μ4, ?_, f2⟩
      rw [← f1, s_cnf, s_ff]
      by_cases e1 : s_ot (d_sg d (s_pi (d_g d) r (nI i))) n c z C = -1
      · have e1' := e1
        unfold s_ot at e1'
        rw [if_pos e1', na1, if_pos (by simp [s_fc, e1]), if_pos (by simp [s_fc, e1])]
      · have e1' := e1
        unfold s_ot at e1'
        rw [if_neg e1', if_neg (by simp [s_fc, e1]), if_neg (by simp [s_fc, e1])]
        rfl
  have hfu : 1000 ≤ fu := by decide
  obtain ⟨μ2, e1, e2⟩ := key 100 0 fu μ rfl (by omega) Ch.rf
  refine ⟨μ2, ?_, e2⟩
  unfold m_X9_crowds_44
  rw [i6, ob_some]
  have a1 := cnf_num (s_fc d n c z C r) 100 0
  have a2 := f1_ff (s_fc d n c z C r) 100 0 (by omega)
  rw [Nat.zero_add] at a1 a2
  rw [a2, ← a1]
  simp only [s_num, Nat.zero_add]
  exact e1
theorem m_crd {r s c z : Nat} {x4 : Int32} {C : Nat → Int32} (h : RM n d μ) (hl : LM d μ) (hr : r < n) (hs : s < 4) (hz : z ≤ 40) (hc : c < 36) (h50 : μ 61 s = nI z) (hC : ∀ i, i < z → μ 62 (40 * s + i) = C i) : ∃ μ2, m_X10_crowds_61 (nI s) (nI c) (nI r) x4 (μ 54 (3 * r + 2)) fu 0 (-1) 0 μ = some (if x4 = 0 then nI (s_num (s_fc d n c z C r) 100) else s_f1 (s_fc d n c z C r) 100, μ2) ∧ Ch T3 μ μ2 := by
  have hn := h.1
  have i2 : ix 18 (nI (3 * r + 2)) = some (3 * r + 2) := ix_nI (by omega) (by decide)
  obtain ⟨b, hb, hq⟩ := loopK (N := 100) (fun k i (a : Int32 × Int32 × ax_M) => m_X10_crowds_61 (nI s) (nI c) (nI r) x4 (μ 54 (3 * r + 2)) k a.1 a.2.1 (nI i) a.2.2) (fun i a => a.1 = nI (s_num (s_fc d n c z C r) i) ∧ a.2.1 = s_f1 (s_fc d n c z C r) i ∧ Ch (Tgr r) μ a.2.2) (fun a => some (if x4 = 0 then a.1 else a.2.1, ax_w a.2.2 54 (3 * r + 2) (μ 54 (3 * r + 2)))) (by omega)
    (fun k i a hi hI => by
      obtain ⟨x, y, μ1⟩ := a
      obtain ⟨hx0, hy0, hch0⟩ := hI
      have hx : x = nI (s_num (s_fc d n c z C r) i) := hx0
      have hy : y = s_f1 (s_fc d n c z C r) i := hy0
      have hch : Ch (Tgr r) μ μ1 := hch0
      clear hx0 hy0 hch0
      subst hx hy
      show ∃ a2, m_X10_crowds_61 (nI s) (nI c) (nI r) x4 (μ 54 (3 * r + 2)) (k + 1) _ _ (nI i) μ1 = _ ∧ _
      rw [m_X10_crowds_61, if_neg (by rw [show (99 : Int32) = nI 99 from rfl, nltL (by omega) (by omega)]; omega), n3, na2, i2, ob_some]
      have hch1 : Ch (Tgr r) μ (ax_w μ1 54 (3 * r + 2) (nI i)) := hch.w (by simp [Tgr])
      have hv : (ax_w μ1 54 (3 * r + 2) (nI i)) 54 (3 * r + 2) = nI i := w_ss
      generalize ax_w μ1 54 (3 * r + 2) (nI i) = μ2 at *
      have e : ∀ k j, Tgr r k j = false → μ2 k j = μ k j := hch1
      have hR : RM n (d_sg d (s_pi (d_g d) r (nI i))) μ2 := h.sg' (e 51 0 (by simp [Tgr])) (fun k j a b => e k j (by simp [Tgr]; omega)) (fun q hq => ⟨e 54 _ (by simp [Tgr]; omega), e 54 _ (by simp [Tgr]; omega)⟩) (fun q hq => by
        unfold s_pi
        by_cases e1 : q = r
        · rw [if_pos e1, e1, hv]
        · rw [if_neg e1, e 54 _ (by simp [Tgr]; omega)]
          exact (h.2.2 q hq).2.2.2.2.1)
      have hL : LM (d_sg d (s_pi (d_g d) r (nI i))) μ2 := LM.sg (hl.ch2 hch1 fun k j hk => by simp [Tgr]; omega)
      obtain ⟨μ3, q1, q2⟩ := m_unl2 (C := C) hR hL hs hz (by rw [e 61 s (by simp [Tgr])]; exact h50) hc (fun j hj => by rw [e 62 _ (by simp [Tgr])]; exact hC j hj)
      rw [q1, bind2_some]
      have hch3 : Ch (Tgr r) μ μ3 := hch1.tr (q2.mono fun k j e => by simp [Tgr, T3] at *; omega)
      unfold m_X10_crowds_95 m_X10_crowds_109
      dsimp only
      simp only [na1, Int32.add_zero]
      by_cases e1 : s_ot (d_sg d (s_pi (d_g d) r (nI i))) n c z C = -1
      · have e1' := e1
        unfold s_ot at e1'
        have hf : s_fc d n c z C r i = true := by simp [s_fc, e1]
        rw [if_pos e1', if_neg (by decide), if_neg (by decide)]
        by_cases e2 : s_f1 (s_fc d n c z C r) i = -1
        · rw [if_pos e2]
          exact ⟨(nI (s_num (s_fc d n c z C r) i + 1), nI i, μ3), rfl, by show nI (s_num (s_fc d n c z C r) i + 1) = nI (s_num _ (i + 1)); rw [s_num, if_pos hf], by show nI i = s_f1 _ (i + 1); rw [s_f1, if_pos ⟨hf, e2⟩], hch3⟩
        · rw [if_neg e2]
          exact ⟨(nI (s_num (s_fc d n c z C r) i + 1), s_f1 (s_fc d n c z C r) i, μ3), rfl, by show nI (s_num (s_fc d n c z C r) i + 1) = nI (s_num _ (i + 1)); rw [s_num, if_pos hf], by show s_f1 (s_fc d n c z C r) i = s_f1 _ (i + 1); rw [s_f1, if_neg (fun z => e2 z.2)], hch3⟩
      · have e1' := e1
        unfold s_ot at e1'
        have hf : ¬ s_fc d n c z C r i = true := by simp [s_fc, e1]
        rw [if_neg e1', if_pos trivial, if_pos trivial]
        exact ⟨(nI (s_num (s_fc d n c z C r) i), s_f1 (s_fc d n c z C r) i, μ3), rfl, by show nI (s_num (s_fc d n c z C r) i) = nI (s_num _ (i + 1)); rw [s_num, if_neg hf]; rfl, by show s_f1 (s_fc d n c z C r) i = s_f1 _ (i + 1); rw [s_f1, if_neg (fun z => hf z.1)], hch3⟩)
    (fun k a hI => by
      show m_X10_crowds_61 (nI s) (nI c) (nI r) x4 (μ 54 (3 * r + 2)) (k + 1) a.1 a.2.1 (nI 100) a.2.2 = _
      rw [m_X10_crowds_61, if_pos (by decide), n3, na2, i2, ob_some]
      by_cases e : x4 = 0 <;> simp [e])
    (0, -1, μ) ⟨rfl, rfl, Ch.rf⟩
  obtain ⟨k1, k2, k3⟩ := hb
  refine ⟨ax_w b.2.2 54 (3 * r + 2) (μ 54 (3 * r + 2)), ?_, fun k j hs => ?_⟩
  · rw [k1, k2] at hq
    exact hq
  · by_cases e1 : k = 54 ∧ j = 3 * r + 2
    · rw [e1.1, e1.2, w_ss]
    · rw [w_e e1]
      refine k3 k j ?_
      simp [T3, Tgr] at *
      omega
theorem b_crowds (h : K n d hr lw tx F ts tb im sh μ) (x1 x2 x3 x4 : Int32) : Bo (m_X9_crowds x1 x2 x3 x4) (m_X10_crowds x1 x2 x3 x4) μ := by
  rcases h.told x1 x2 with ⟨s, c, hs, hc, rfl, rfl, hz, hk⟩ | ⟨v, hv, hk⟩
  · rcases argr n x3 h.n6 with ⟨r, hr', rfl, k1⟩ | k0
    · by_cases hx : x4 = 0 ∨ x4 = 1
      · have h6 := h.n6
        have i2 : ix 18 (nI (3 * r + 2)) = some (3 * r + 2) := ix_nI (by omega) (by decide)
        refine h.q (v := if x4 = 0 then nI (s_num (s_fc d n c (sh_z sh s) (sh_v sh s) r) 100) else s_f1 (s_fc d n c (sh_z sh s) (sh_v sh s) r) 100) ?_ fun μ' h' => ?_
        · obtain ⟨μ2, e1, e2⟩ := c_crd (x4 := x4) h.rc h.lc hr' hs (show sh_z sh s ≤ 40 by omega) hc (h.2.1.2.2.2.2 s hs).2.1 (h.2.1.2.2.2.2 s hs).2.2
          refine ⟨μ2, ?_, s2C e2⟩
          rw [← e1]
          unfold m_X9_crowds
          rw [(hk μ h).2, ob_some, if_pos rfl, c_rug h.rc.2.1, k1, ob_some, if_neg (by decide)]
          rcases hx with rfl | rfl
          · rw [if_pos rfl]
          · rw [if_neg (by decide), if_pos rfl]
        · obtain ⟨μ2, e1, e2⟩ := m_crd (x4 := x4) h'.rm h'.lm hr' hs (show sh_z sh s ≤ 40 by omega) hc (h'.2.2.2.2.2.2 s hs).2.1 (h'.2.2.2.2.2.2 s hs).2.2
          refine ⟨μ2, ?_, t3M e2⟩
          rw [← e1]
          unfold m_X10_crowds
          rw [(hk μ' h').1, ob_some, if_pos rfl, m_rug h6 h'.rm.2.1, k1, ob_some, if_neg (by decide), m_in, in01' hx, ob_some, if_neg (by decide), n3, na2, i2, ob_some]
      · have h0 : ¬ x4 = 0 := fun z => hx (Or.inl z)
        have h1 : ¬ x4 = 1 := fun z => hx (Or.inr z)
        refine h.no (-7) ?_ ?_
        · unfold m_X9_crowds
          rw [(hk μ h).2, ob_some, if_pos rfl, c_rug h.rc.2.1, k1, ob_some, if_neg (by decide), if_neg h0, if_neg h1]
        · unfold m_X10_crowds
          rw [(hk μ h).1, ob_some, if_pos rfl, m_rug h.n6 h.rm.2.1, k1, ob_some, if_neg (by decide), m_in, in01 h0 h1, ob_some, if_pos (by decide)]
    · refine h.no (-6) ?_ ?_
      · unfold m_X9_crowds
        rw [(hk μ h).2, ob_some, if_pos rfl, c_rug h.rc.2.1, k0, ob_some, if_pos (by decide)]
      · unfold m_X10_crowds
        rw [(hk μ h).1, ob_some, if_pos rfl, m_rug h.n6 h.rm.2.1, k0, ob_some, if_pos (by decide)]
  · exact h.no v (by unfold m_X9_crowds; rw [(hk μ h).2, ob_some, if_neg hv]) (by unfold m_X10_crowds; rw [(hk μ h).1, ob_some, if_neg hv])
/-- which texts fit -/
def s_fl (F : Nat → Lw) (d : Dt) (n c z : Nat) (C : Nat → Int32) (t : Nat) : Bool := decide (s_ot (d_sf d (F t)) n c z C = -1)
def Sl (k i : Nat) : Bool := k == 16 || k == 17 || (k == 25 && i == 3)
def Tl (k i : Nat) : Bool := k == 66 || k == 67 || k == 68 || (k == 51 && i == 10)
theorem b_laws (h : K n d hr lw tx F ts tb im sh μ) (x1 x2 : Int32) : Bo (m_X9_laws x1 x2) (m_X10_laws x1 x2) μ := by
  rcases h.told x1 x2 with ⟨s, c, hs, hc, rfl, rfl, hz, hk⟩ | ⟨v, hv, hk⟩
  · have i4 : ix 4 (nI s) = some s := ix_nI hs (by decide)
    have hx6 := h.x6
    refine h.q (v := s_or (s_fl F d n c (sh_z sh s) (sh_v sh s)) tx) ?_ fun μ' h' => ?_
    · obtain ⟨b, hb, hq⟩ := loopK (N := tx) (fun k i (a : Int32 × ax_M) => m_X9_laws_28 (nI s) (nI c) (μ 25 3) k a.1 (nI i) a.2) (fun i a => a.1 = s_or (s_fl F d n c (sh_z sh s) (sh_v sh s)) i ∧ Ch Sl μ a.2) (fun a => some (a.1, ax_w a.2 25 3 (μ 25 3))) (by omega)
        (fun k i a hi hI => by
          obtain ⟨x, μ1⟩ := a
          obtain ⟨hx0, hch0⟩ := hI
          have hx : x = s_or (s_fl F d n c (sh_z sh s) (sh_v sh s)) i := hx0
          have hch : Ch Sl μ μ1 := hch0
          clear hx0 hch0
          subst hx
          show ∃ a2, m_X9_laws_28 (nI s) (nI c) (μ 25 3) (k + 1) _ (nI i) μ1 = _ ∧ _
          rw [m_X9_laws_28, hch 1 0 rfl, h.2.1.2.1.1, if_neg (by rw [nleL (by omega) (by omega)]; omega), i4, ob_some, ob_some, na1]
          have hch1 : Ch Sl μ (ax_w μ1 25 3 (nI i)) := hch.w rfl
          have hv : (ax_w μ1 25 3 (nI i)) 25 3 = nI i := w_ss
          generalize ax_w μ1 25 3 (nI i) = μ2 at *
          have e : ∀ k j, Sl k j = false → μ2 k j = μ k j := hch1
          have hR : RC n (d_sf d (F i)) μ2 := (h.rc.fr (e 25 1 rfl) (fun k j a b => e k j (by simp [Sl]; omega))).sf
          have hL : LC (d_sf d (F i)) μ2 := LC.ofT ((h.2.1.2.1.2 i hi).cg (funext fun j => e _ j (by simp [Sl]; omega)) (funext fun j => e _ j (by simp [Sl]; omega))) (show i < 6 by omega) hv rfl
          obtain ⟨μ3, q1, q2⟩ := c_fo2 (C := sh_v sh s) (z := sh_z sh s) hR hL hs (by omega) hc (fun j hj => by rw [e (45 + s) j (by simp [Sl]; omega)]; exact (h.2.1.2.2.2.2 s hs).2.2 j hj)
          rw [e 50 s rfl, (h.2.1.2.2.2.2 s hs).2.1, q1, bind2_some]
          have hch3 : Ch Sl μ μ3 := hch1.tr (q2.mono fun k j e => by simp [Sl, S2] at *; omega)
          by_cases e1 : s_ot (d_sf d (F i)) n c (sh_z sh s) (sh_v sh s) = -1
          · have e1' := e1
            unfold s_ot at e1'
            rw [if_pos e1']
            exact ⟨(_, μ3), rfl, by show _ = s_or _ (i + 1); rw [s_or, if_pos (by simp [s_fl, e1])], hch3⟩
          · have e1' := e1
            unfold s_ot at e1'
            rw [if_neg e1']
            exact ⟨(_, μ3), rfl, by show _ = s_or _ (i + 1); rw [s_or, if_neg (by simp [s_fl, e1])], hch3⟩)
        (fun k a hI => by
          show m_X9_laws_28 (nI s) (nI c) (μ 25 3) (k + 1) a.1 (nI tx) a.2 = _
          rw [m_X9_laws_28, hI.2 1 0 rfl, h.2.1.2.1.1, if_pos (Int32.le_refl _)])
        (0, μ) ⟨rfl, Ch.rf⟩
      obtain ⟨k1, k2⟩ := hb
      refine ⟨ax_w b.2 25 3 (μ 25 3), ?_, fun k j hs => ?_⟩
      · unfold m_X9_laws
        rw [(hk μ h).2, ob_some, if_pos rfl]
        rw [k1] at hq
        exact hq
      · by_cases e1 : k = 25 ∧ j = 3
        · rw [e1.1, e1.2, w_ss]
        · rw [w_e e1]
          refine k2 k j ?_
          simp [SC, Sl] at *
          omega
    · obtain ⟨b, hb, hq⟩ := loopK (N := tx) (fun k i (a : Int32 × ax_M) => m_X10_laws_25 (nI s) (nI c) (μ' 51 10) k a.1 (nI i) a.2) (fun i a => a.1 = s_or (s_fl F d n c (sh_z sh s) (sh_v sh s)) i ∧ Ch Tl μ' a.2) (fun a => some (a.1, ax_w a.2 51 10 (μ' 51 10))) (by omega)
        (fun k i a hi hI => by
          obtain ⟨x, μ1⟩ := a
          obtain ⟨hx0, hch0⟩ := hI
          have hx : x = s_or (s_fl F d n c (sh_z sh s) (sh_v sh s)) i := hx0
          have hch : Ch Tl μ' μ1 := hch0
          clear hx0 hch0
          subst hx
          show ∃ a2, m_X10_laws_25 (nI s) (nI c) (μ' 51 10) (k + 1) _ (nI i) μ1 = _ ∧ _
          rw [m_X10_laws_25, hch 51 9 rfl, h'.2.2.2.1.1, if_neg (by rw [nleL (by omega) (by omega)]; omega), na1, or0]
          have hch1 : Ch Tl μ' (ax_w μ1 51 10 (nI i)) := hch.w rfl
          have hv : (ax_w μ1 51 10 (nI i)) 51 10 = nI i := w_ss
          generalize ax_w μ1 51 10 (nI i) = μ2 at *
          have e : ∀ k j, Tl k j = false → μ2 k j = μ' k j := hch1
          have hR : RM n (d_sf d (F i)) μ2 := (h'.rm.fr (e 51 0 rfl) (fun k j a b => e k j (by simp [Tl]; omega))).sf
          have hL : LM (d_sf d (F i)) μ2 := LM.ofT ((h'.2.2.2.1.2.1 i hi).cg (fun j _ => e _ _ rfl) (fun j _ => e _ _ rfl)) hv rfl
          obtain ⟨μ3, q1, q2⟩ := m_unl2 (C := sh_v sh s) (z := sh_z sh s) hR hL hs (by omega) (by rw [e 61 s rfl]; exact (h'.2.2.2.2.2.2 s hs).2.1) hc (fun j hj => by rw [e 62 _ rfl]; exact (h'.2.2.2.2.2.2 s hs).2.2 j hj)
          rw [q1, bind2_some]
          have hch3 : Ch Tl μ' μ3 := hch1.tr (q2.mono fun k j e => by simp [Tl, T3] at *; omega)
          by_cases e1 : s_ot (d_sf d (F i)) n c (sh_z sh s) (sh_v sh s) = -1
          · have e1' := e1
            unfold s_ot at e1'
            rw [if_pos e1']
            exact ⟨(_, μ3), rfl, by show _ = s_or _ (i + 1); rw [s_or, if_pos (by simp [s_fl, e1])], hch3⟩
          · have e1' := e1
            unfold s_ot at e1'
            rw [if_neg e1']
            exact ⟨(_, μ3), rfl, by show _ = s_or _ (i + 1); rw [s_or, if_neg (by simp [s_fl, e1])], hch3⟩)
        (fun k a hI => by
          show m_X10_laws_25 (nI s) (nI c) (μ' 51 10) (k + 1) a.1 (nI tx) a.2 = _
          rw [m_X10_laws_25, hI.2 51 9 rfl, h'.2.2.2.1.1, if_pos (Int32.le_refl _)])
        (0, μ') ⟨rfl, Ch.rf⟩
      obtain ⟨k1, k2⟩ := hb
      refine ⟨ax_w b.2 51 10 (μ' 51 10), ?_, fun k j hs => ?_⟩
      · unfold m_X10_laws
        rw [(hk μ' h').1, ob_some, if_pos rfl]
        rw [k1] at hq
        exact hq
      · by_cases e1 : k = 51 ∧ j = 10
        · rw [e1.1, e1.2, w_ss]
        · rw [w_e e1]
          refine k2 k j ?_
          simp [SM, Tl] at *
          omega
  · exact h.no v (by unfold m_X9_laws; rw [(hk μ h).2, ob_some, if_neg hv]) (by unfold m_X10_laws; rw [(hk μ h).1, ob_some, if_neg hv])
end
