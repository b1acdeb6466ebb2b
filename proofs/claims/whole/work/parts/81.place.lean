/-! ===== place ===== -/
def d_at (d : Dt) (r a b : Nat) : Dt := d_sr d (s_pt (d_a d) r a) (s_pt (d_b d) r b)
theorem s_pt_pt {f : Nat → Nat} {r u v : Nat} : s_pt (s_pt f r u) r v = s_pt f r v := by
  funext q
  by_cases e : q = r <;> simp [s_pt, e]
theorem s_pt_self {f : Nat → Nat} {r : Nat} : s_pt f r (f r) = f := by
  funext q
  by_cases e : q = r <;> simp [s_pt, e]
theorem d_at_at {d : Dt} {r a b a2 b2 : Nat} : d_at (d_at d r a b) r a2 b2 = d_at d r a2 b2 := by
  show d_sr (d_sr d (s_pt (d_a d) r a) (s_pt (d_b d) r b)) (s_pt (s_pt (d_a d) r a) r a2) (s_pt (s_pt (d_b d) r b) r b2) = _
  rw [s_pt_pt, s_pt_pt]
  rfl
theorem d_at_self {d : Dt} {r : Nat} : d_at d r (d_a d r) (d_b d r) = d := by
  unfold d_at
  rw [s_pt_self, s_pt_self]
  rfl
/-- where the rug fits -/
def s_fit (a b p : Nat) : Bool := decide (p % 6 + (b % 6 - a % 6) < 6) && decide (p / 6 + (b / 6 - a / 6) < 6)
def s_plv (d : Dt) (n : Nat) (h : Int32) (r p : Nat) : Int32 := s_cnt (s_rul (d_at d r p (p + d_b d r - d_a d r)) n (s_awk (d_at d r p (p + d_b d r - d_a d r)) h)) r
def s_plc (d : Dt) (r p : Nat) : Int32 := nI (100 * p + (p + d_b d r - d_a d r))
/-- the first best of those that fit -/
def s_pl (d : Dt) (n : Nat) (h : Int32) (r : Nat) (z : Int32) : Nat → Int32 × Int32
  | 0 => (-1, z)
  | p + 1 => if s_fit (d_a d r) (d_b d r) p then (if (s_pl d n h r z p).1 = -1 then (s_plc d r p, s_plv d n h r p) else if s_plv d n h r p ≤ (s_pl d n h r z p).2 then s_pl d n h r z p else (s_plc d r p, s_plv d n h r p)) else s_pl d n h r z p
