/-! ===== the objects, new: the model ===== -/
def iM_0 (μ : ax_M) : ax_M := (ax_z (ax_w (ax_w (ax_w (ax_w (ax_z (ax_z (ax_z (ax_z (ax_z (ax_z (ax_w (ax_z (ax_z (ax_z μ 52) 53) 54) 51 4 12) 55) 56) 57) 58) 59) 60) 60 0 (-1)) 60 1 (-1)) 60 2 (-1)) 60 3 (-1)) 61)
def iM_1 (μ : ax_M) : ax_M := (ax_w (ax_w (ax_w (ax_w (ax_w (ax_w (ax_w (ax_w (ax_w (ax_w (ax_w (ax_w (ax_w (ax_z (ax_z μ 62) 63) 63 0 102) 63 1 105) 63 2 110) 63 3 101) 63 4 115) 63 5 32) 63 6 49) 63 7 32) 63 8 43) 63 9 32) 63 10 103) 63 11 117) 63 12 101)
def iM_2 (μ : ax_M) : ax_M := (ax_w (ax_w (ax_w (ax_w (ax_w (ax_w (ax_w (ax_w (ax_w (ax_w (ax_w (ax_w (ax_w (ax_w (ax_w μ 63 13 115) 63 14 116) 63 15 115) 63 16 32) 63 17 59) 63 18 32) 63 19 97) 63 20 100) 63 21 109) 63 22 105) 63 23 116) 63 24 115) 63 25 32) 63 26 103) 63 27 117)
def iM_3 (μ : ax_M) : ax_M := (ax_w (ax_w (ax_w (ax_w (ax_w (ax_w (ax_w (ax_w (ax_w (ax_w (ax_w (ax_w (ax_w (ax_w (ax_w μ 63 28 101) 63 29 115) 63 30 116) 63 31 115) 63 32 32) 63 33 60) 63 34 32) 63 35 50) 63 36 48) 63 37 32) 63 38 59) 63 39 32) 63 40 115) 63 41 108) 63 42 101)
def iM_4 (μ : ax_M) : ax_M := (ax_w (ax_z (ax_w (ax_w (ax_w (ax_w (ax_w (ax_w (ax_w (ax_w (ax_w (ax_w (ax_w (ax_w (ax_w (ax_w μ 63 43 101) 63 44 112) 63 45 115) 63 46 32) 63 47 104) 63 48 111) 63 49 117) 63 50 114) 63 51 32) 63 52 60) 63 53 32) 63 54 54) 63 55 32) 63 56 59) 64) 64 0 102)
def iM_5 (μ : ax_M) : ax_M := (ax_w (ax_w (ax_w (ax_w (ax_w (ax_w (ax_w (ax_w (ax_w (ax_w (ax_w (ax_w (ax_w (ax_w (ax_w μ 64 1 105) 64 2 110) 64 3 101) 64 4 115) 64 5 32) 64 6 32) 64 7 32) 64 8 97) 64 9 100) 64 10 109) 64 11 105) 64 12 116) 64 13 115) 64 14 32) 64 15 32)
def iM_6 (μ : ax_M) : ax_M := (ax_w (ax_w (ax_w (ax_w (ax_w (ax_w (ax_w (ax_w (ax_w (ax_w (ax_w (ax_w (ax_w (ax_w (ax_w μ 64 16 115) 64 17 108) 64 18 101) 64 19 101) 64 20 112) 64 21 115) 64 22 32) 64 23 32) 64 24 99) 64 25 111) 64 26 108) 64 27 117) 64 28 109) 64 29 110) 64 30 32)
def iM_7 (μ : ax_M) : ax_M := (ax_w (ax_w (ax_w (ax_w (ax_w (ax_w (ax_w (ax_w (ax_w (ax_w (ax_w (ax_w (ax_w (ax_w (ax_w μ 64 31 32) 64 32 114) 64 33 111) 64 34 119) 64 35 32) 64 36 32) 64 37 32) 64 38 32) 64 39 32) 64 40 104) 64 41 111) 64 42 117) 64 43 114) 64 44 32) 64 45 32)
def iM_8 (μ : ax_M) : ax_M := (ax_w (ax_w (ax_w (ax_w (ax_w (ax_w (ax_w (ax_w (ax_w (ax_w (ax_w (ax_w (ax_w (ax_w (ax_w (ax_w μ 64 46 32) 64 47 32) 64 48 103) 64 49 117) 64 50 101) 64 51 115) 64 52 116) 64 53 115) 64 54 32) 64 55 32) 64 56 115) 64 57 105) 64 58 122) 64 59 101) 64 60 32) 64 61 32)
def iM_9 (μ : ax_M) : ax_M := (ax_w (ax_w (ax_w (ax_w (ax_w (ax_w (ax_w (ax_w (ax_w (ax_w (ax_w (ax_w (ax_w (ax_w (ax_w μ 64 62 32) 64 63 32) 64 64 109) 64 65 111) 64 66 114) 64 67 101) 64 68 32) 64 69 32) 64 70 32) 64 71 32) 64 72 111) 64 73 114) 64 74 32) 64 75 32) 64 76 32)
def iM_10 (μ : ax_M) : ax_M := (ax_w (ax_w (ax_w (ax_w (ax_w (ax_w (ax_w (ax_w (ax_w (ax_w (ax_w (ax_w (ax_w (ax_w (ax_w μ 64 77 32) 64 78 32) 64 79 32) 64 80 97) 64 81 110) 64 82 100) 64 83 32) 64 84 32) 64 85 32) 64 86 32) 64 87 32) 64 88 110) 64 89 111) 64 90 116) 64 91 32)
def iM_11 (μ : ax_M) : ax_M := (ax_z (ax_z (ax_z (ax_z (ax_z (ax_z (ax_w (ax_w (ax_w (ax_w μ 64 92 32) 64 93 32) 64 94 32) 64 95 32) 65) 66) 67) 68) 69) 70)
def ini_M (μ : ax_M) : ax_M := iM_11 (iM_10 (iM_9 (iM_8 (iM_7 (iM_6 (iM_5 (iM_4 (iM_3 (iM_2 (iM_1 (iM_0 μ)))))))))))
theorem ini_eq (μ : ax_M) : m_X10_init μ = m_X10_init_1088 fu 0 (ini_M μ) := by
  unfold m_X10_init m_X10_init_102 m_X10_init_192 m_X10_init_284 m_X10_init_376 m_X10_init_468 m_X10_init_554 m_X10_init_646 m_X10_init_738 m_X10_init_829 m_X10_init_920 m_X10_init_1012
  rw [show ix 57 28 = some 28 from by decide, ob_some, show ix 57 43 = some 43 from by decide, ob_some, show ix 96 31 = some 31 from by decide, ob_some, show ix 96 46 = some 46 from by decide, ob_some, show ix 96 92 = some 92 from by decide, ob_some]
  rfl
def S51 (k : Nat) (_ : Nat) : Bool := decide (51 ≤ k)
theorem Ch.z {S : Nat → Nat → Bool} {μ μ2 : ax_M} {k : Nat} (h : Ch S μ μ2) (hS : ∀ i, S k i = true) : Ch S μ (ax_z μ2 k) := by
  intro k2 i2 hs
  have hne : ¬ k2 = k := fun z => by rw [z, hS] at hs; cases hs
  show (if k2 = k then 0 else μ2 k2 i2) = _
  rw [if_neg hne]
  exact h k2 i2 hs
theorem iM_fr_0 (μ : ax_M) : Ch S51 μ (iM_0 μ) := (((((((((((((((Ch.rf.z fun _ => rfl).z fun _ => rfl).z fun _ => rfl).w rfl).z fun _ => rfl).z fun _ => rfl).z fun _ => rfl).z fun _ => rfl).z fun _ => rfl).z fun _ => rfl).w rfl).w rfl).w rfl).w rfl).z fun _ => rfl)
theorem iM_fr_1 (μ : ax_M) : Ch S51 μ (iM_1 μ) := (((((((((((((((Ch.rf.z fun _ => rfl).z fun _ => rfl).w rfl).w rfl).w rfl).w rfl).w rfl).w rfl).w rfl).w rfl).w rfl).w rfl).w rfl).w rfl).w rfl)
theorem iM_fr_2 (μ : ax_M) : Ch S51 μ (iM_2 μ) := (((((((((((((((Ch.rf.w rfl).w rfl).w rfl).w rfl).w rfl).w rfl).w rfl).w rfl).w rfl).w rfl).w rfl).w rfl).w rfl).w rfl).w rfl)
theorem iM_fr_3 (μ : ax_M) : Ch S51 μ (iM_3 μ) := (((((((((((((((Ch.rf.w rfl).w rfl).w rfl).w rfl).w rfl).w rfl).w rfl).w rfl).w rfl).w rfl).w rfl).w rfl).w rfl).w rfl).w rfl)
theorem iM_fr_4 (μ : ax_M) : Ch S51 μ (iM_4 μ) := ((((((((((((((((Ch.rf.w rfl).w rfl).w rfl).w rfl).w rfl).w rfl).w rfl).w rfl).w rfl).w rfl).w rfl).w rfl).w rfl).w rfl).z fun _ => rfl).w rfl)
theorem iM_fr_5 (μ : ax_M) : Ch S51 μ (iM_5 μ) := (((((((((((((((Ch.rf.w rfl).w rfl).w rfl).w rfl).w rfl).w rfl).w rfl).w rfl).w rfl).w rfl).w rfl).w rfl).w rfl).w rfl).w rfl)
theorem iM_fr_6 (μ : ax_M) : Ch S51 μ (iM_6 μ) := (((((((((((((((Ch.rf.w rfl).w rfl).w rfl).w rfl).w rfl).w rfl).w rfl).w rfl).w rfl).w rfl).w rfl).w rfl).w rfl).w rfl).w rfl)
theorem iM_fr_7 (μ : ax_M) : Ch S51 μ (iM_7 μ) := (((((((((((((((Ch.rf.w rfl).w rfl).w rfl).w rfl).w rfl).w rfl).w rfl).w rfl).w rfl).w rfl).w rfl).w rfl).w rfl).w rfl).w rfl)
theorem iM_fr_8 (μ : ax_M) : Ch S51 μ (iM_8 μ) := ((((((((((((((((Ch.rf.w rfl).w rfl).w rfl).w rfl).w rfl).w rfl).w rfl).w rfl).w rfl).w rfl).w rfl).w rfl).w rfl).w rfl).w rfl).w rfl)
theorem iM_fr_9 (μ : ax_M) : Ch S51 μ (iM_9 μ) := (((((((((((((((Ch.rf.w rfl).w rfl).w rfl).w rfl).w rfl).w rfl).w rfl).w rfl).w rfl).w rfl).w rfl).w rfl).w rfl).w rfl).w rfl)
theorem iM_fr_10 (μ : ax_M) : Ch S51 μ (iM_10 μ) := (((((((((((((((Ch.rf.w rfl).w rfl).w rfl).w rfl).w rfl).w rfl).w rfl).w rfl).w rfl).w rfl).w rfl).w rfl).w rfl).w rfl).w rfl)
theorem iM_fr_11 (μ : ax_M) : Ch S51 μ (iM_11 μ) := ((((((((((Ch.rf.w rfl).w rfl).w rfl).w rfl).z fun _ => rfl).z fun _ => rfl).z fun _ => rfl).z fun _ => rfl).z fun _ => rfl).z fun _ => rfl)
theorem ini_fr (μ : ax_M) : Ch S51 μ (ini_M μ) := ((((((((((((iM_fr_0 μ).tr (iM_fr_1 _)).tr (iM_fr_2 _)).tr (iM_fr_3 _)).tr (iM_fr_4 _)).tr (iM_fr_5 _)).tr (iM_fr_6 _)).tr (iM_fr_7 _)).tr (iM_fr_8 _)).tr (iM_fr_9 _)).tr (iM_fr_10 _)).tr (iM_fr_11 _))
def ft_l : List Nat := [102, 105, 110, 101, 115, 32, 49, 32, 43, 32, 103, 117, 101, 115, 116, 115, 32, 59, 32, 97, 100, 109, 105, 116, 115, 32, 103, 117, 101, 115, 116, 115, 32, 60, 32, 50, 48, 32, 59, 32, 115, 108, 101, 101, 112, 115, 32, 104, 111, 117, 114, 32, 60, 32, 54, 32, 59]
def ft (i : Nat) : Nat := ft_l.getD i 0
def S62 (k : Nat) (_ : Nat) : Bool := decide (62 ≤ k)
theorem iM_f62_1 (μ : ax_M) : Ch S62 μ (iM_1 μ) := (((((((((((((((Ch.rf.z fun _ => rfl).z fun _ => rfl).w rfl).w rfl).w rfl).w rfl).w rfl).w rfl).w rfl).w rfl).w rfl).w rfl).w rfl).w rfl).w rfl)
theorem iM_f62_2 (μ : ax_M) : Ch S62 μ (iM_2 μ) := (((((((((((((((Ch.rf.w rfl).w rfl).w rfl).w rfl).w rfl).w rfl).w rfl).w rfl).w rfl).w rfl).w rfl).w rfl).w rfl).w rfl).w rfl)
theorem iM_f62_3 (μ : ax_M) : Ch S62 μ (iM_3 μ) := (((((((((((((((Ch.rf.w rfl).w rfl).w rfl).w rfl).w rfl).w rfl).w rfl).w rfl).w rfl).w rfl).w rfl).w rfl).w rfl).w rfl).w rfl)
theorem iM_f62_4 (μ : ax_M) : Ch S62 μ (iM_4 μ) := ((((((((((((((((Ch.rf.w rfl).w rfl).w rfl).w rfl).w rfl).w rfl).w rfl).w rfl).w rfl).w rfl).w rfl).w rfl).w rfl).w rfl).z fun _ => rfl).w rfl)
theorem iM_f62_5 (μ : ax_M) : Ch S62 μ (iM_5 μ) := (((((((((((((((Ch.rf.w rfl).w rfl).w rfl).w rfl).w rfl).w rfl).w rfl).w rfl).w rfl).w rfl).w rfl).w rfl).w rfl).w rfl).w rfl)
theorem iM_f62_6 (μ : ax_M) : Ch S62 μ (iM_6 μ) := (((((((((((((((Ch.rf.w rfl).w rfl).w rfl).w rfl).w rfl).w rfl).w rfl).w rfl).w rfl).w rfl).w rfl).w rfl).w rfl).w rfl).w rfl)
theorem iM_f62_7 (μ : ax_M) : Ch S62 μ (iM_7 μ) := (((((((((((((((Ch.rf.w rfl).w rfl).w rfl).w rfl).w rfl).w rfl).w rfl).w rfl).w rfl).w rfl).w rfl).w rfl).w rfl).w rfl).w rfl)
theorem iM_f62_8 (μ : ax_M) : Ch S62 μ (iM_8 μ) := ((((((((((((((((Ch.rf.w rfl).w rfl).w rfl).w rfl).w rfl).w rfl).w rfl).w rfl).w rfl).w rfl).w rfl).w rfl).w rfl).w rfl).w rfl).w rfl)
theorem iM_f62_9 (μ : ax_M) : Ch S62 μ (iM_9 μ) := (((((((((((((((Ch.rf.w rfl).w rfl).w rfl).w rfl).w rfl).w rfl).w rfl).w rfl).w rfl).w rfl).w rfl).w rfl).w rfl).w rfl).w rfl)
theorem iM_f62_10 (μ : ax_M) : Ch S62 μ (iM_10 μ) := (((((((((((((((Ch.rf.w rfl).w rfl).w rfl).w rfl).w rfl).w rfl).w rfl).w rfl).w rfl).w rfl).w rfl).w rfl).w rfl).w rfl).w rfl)
theorem iM_f62_11 (μ : ax_M) : Ch S62 μ (iM_11 μ) := ((((((((((Ch.rf.w rfl).w rfl).w rfl).w rfl).z fun _ => rfl).z fun _ => rfl).z fun _ => rfl).z fun _ => rfl).z fun _ => rfl).z fun _ => rfl)
theorem ini_f62 (μ : ax_M) : Ch S62 (iM_0 μ) (ini_M μ) := (((((((((((iM_f62_1 _).tr (iM_f62_2 _)).tr (iM_f62_3 _)).tr (iM_f62_4 _)).tr (iM_f62_5 _)).tr (iM_f62_6 _)).tr (iM_f62_7 _)).tr (iM_f62_8 _)).tr (iM_f62_9 _)).tr (iM_f62_10 _)).tr (iM_f62_11 _))
theorem agw {μ μ2 : ax_M} {k a i : Nat} {v : Int32} (h : μ k = μ2 k) : ax_w μ a i v k = ax_w μ2 a i v k := by
  funext q
  show (if k = a then (if q = i then v else μ k q) else μ k q) = (if k = a then (if q = i then v else μ2 k q) else μ2 k q)
  rw [h]
theorem agz {μ μ2 : ax_M} {k a : Nat} (h : μ k = μ2 k) : ax_z μ a k = ax_z μ2 a k := by
  funext q
  show (if k = a then 0 else μ k q) = (if k = a then 0 else μ2 k q)
  rw [h]
theorem ag0 {μ μ2 : ax_M} {k : Nat} : ax_z μ k k = ax_z μ2 k k := by
  funext q
  show (if k = k then 0 else μ k q) = (if k = k then 0 else μ2 k q)
  rw [if_pos rfl, if_pos rfl]
theorem ag63_1 (μ μ2 : ax_M) : iM_1 μ 63 = iM_1 μ2 63 := (agw (agw (agw (agw (agw (agw (agw (agw (agw (agw (agw (agw (agw ag0)))))))))))))
theorem ag63_2 {μ μ2 : ax_M} (h : μ 63 = μ2 63) : iM_2 μ 63 = iM_2 μ2 63 := (agw (agw (agw (agw (agw (agw (agw (agw (agw (agw (agw (agw (agw (agw (agw h)))))))))))))))
theorem ag63_3 {μ μ2 : ax_M} (h : μ 63 = μ2 63) : iM_3 μ 63 = iM_3 μ2 63 := (agw (agw (agw (agw (agw (agw (agw (agw (agw (agw (agw (agw (agw (agw (agw h)))))))))))))))
theorem ag63_4 {μ μ2 : ax_M} (h : μ 63 = μ2 63) : iM_4 μ 63 = iM_4 μ2 63 := (agw (agz (agw (agw (agw (agw (agw (agw (agw (agw (agw (agw (agw (agw (agw (agw h))))))))))))))))
theorem ag63_5 {μ μ2 : ax_M} (h : μ 63 = μ2 63) : iM_5 μ 63 = iM_5 μ2 63 := (agw (agw (agw (agw (agw (agw (agw (agw (agw (agw (agw (agw (agw (agw (agw h)))))))))))))))
theorem ag63_6 {μ μ2 : ax_M} (h : μ 63 = μ2 63) : iM_6 μ 63 = iM_6 μ2 63 := (agw (agw (agw (agw (agw (agw (agw (agw (agw (agw (agw (agw (agw (agw (agw h)))))))))))))))
theorem ag63_7 {μ μ2 : ax_M} (h : μ 63 = μ2 63) : iM_7 μ 63 = iM_7 μ2 63 := (agw (agw (agw (agw (agw (agw (agw (agw (agw (agw (agw (agw (agw (agw (agw h)))))))))))))))
theorem ag63_8 {μ μ2 : ax_M} (h : μ 63 = μ2 63) : iM_8 μ 63 = iM_8 μ2 63 := (agw (agw (agw (agw (agw (agw (agw (agw (agw (agw (agw (agw (agw (agw (agw (agw h))))))))))))))))
theorem ag63_9 {μ μ2 : ax_M} (h : μ 63 = μ2 63) : iM_9 μ 63 = iM_9 μ2 63 := (agw (agw (agw (agw (agw (agw (agw (agw (agw (agw (agw (agw (agw (agw (agw h)))))))))))))))
theorem ag63_10 {μ μ2 : ax_M} (h : μ 63 = μ2 63) : iM_10 μ 63 = iM_10 μ2 63 := (agw (agw (agw (agw (agw (agw (agw (agw (agw (agw (agw (agw (agw (agw (agw h)))))))))))))))
theorem ag63_11 {μ μ2 : ax_M} (h : μ 63 = μ2 63) : iM_11 μ 63 = iM_11 μ2 63 := (agz (agz (agz (agz (agz (agz (agw (agw (agw (agw h))))))))))
theorem ini_ag63 (μ μ2 : ax_M) : ini_M μ 63 = ini_M μ2 63 := ag63_11 (ag63_10 (ag63_9 (ag63_8 (ag63_7 (ag63_6 (ag63_5 (ag63_4 (ag63_3 (ag63_2 (ag63_1 _ _))))))))))
theorem ag64_4 (μ μ2 : ax_M) : iM_4 μ 64 = iM_4 μ2 64 := (agw ag0)
theorem ag64_5 {μ μ2 : ax_M} (h : μ 64 = μ2 64) : iM_5 μ 64 = iM_5 μ2 64 := (agw (agw (agw (agw (agw (agw (agw (agw (agw (agw (agw (agw (agw (agw (agw h)))))))))))))))
theorem ag64_6 {μ μ2 : ax_M} (h : μ 64 = μ2 64) : iM_6 μ 64 = iM_6 μ2 64 := (agw (agw (agw (agw (agw (agw (agw (agw (agw (agw (agw (agw (agw (agw (agw h)))))))))))))))
theorem ag64_7 {μ μ2 : ax_M} (h : μ 64 = μ2 64) : iM_7 μ 64 = iM_7 μ2 64 := (agw (agw (agw (agw (agw (agw (agw (agw (agw (agw (agw (agw (agw (agw (agw h)))))))))))))))
theorem ag64_8 {μ μ2 : ax_M} (h : μ 64 = μ2 64) : iM_8 μ 64 = iM_8 μ2 64 := (agw (agw (agw (agw (agw (agw (agw (agw (agw (agw (agw (agw (agw (agw (agw (agw h))))))))))))))))
theorem ag64_9 {μ μ2 : ax_M} (h : μ 64 = μ2 64) : iM_9 μ 64 = iM_9 μ2 64 := (agw (agw (agw (agw (agw (agw (agw (agw (agw (agw (agw (agw (agw (agw (agw h)))))))))))))))
theorem ag64_10 {μ μ2 : ax_M} (h : μ 64 = μ2 64) : iM_10 μ 64 = iM_10 μ2 64 := (agw (agw (agw (agw (agw (agw (agw (agw (agw (agw (agw (agw (agw (agw (agw h)))))))))))))))
theorem ag64_11 {μ μ2 : ax_M} (h : μ 64 = μ2 64) : iM_11 μ 64 = iM_11 μ2 64 := (agz (agz (agz (agz (agz (agz (agw (agw (agw (agw h))))))))))
theorem ini_ag64 (μ μ2 : ax_M) : ini_M μ 64 = ini_M μ2 64 := ag64_11 (ag64_10 (ag64_9 (ag64_8 (ag64_7 (ag64_6 (ag64_5 (ag64_4 _ _)))))))
theorem ini_63z : ∀ i : Fin 57, ini_M (fun _ _ => 0) 63 i.val = nI (ft i.val) := by decide +kernel
theorem ini_64z : ∀ i : Fin 96, ini_M (fun _ _ => 0) 64 i.val = nI (wd i.val) := by decide +kernel
theorem ini_63 (μ : ax_M) (i : Nat) (hi : i < 57) : ini_M μ 63 i = nI (ft i) := by rw [ini_ag63 μ (fun _ _ => 0)]; exact ini_63z ⟨i, hi⟩
theorem ini_64 (μ : ax_M) (i : Nat) (hi : i < 96) : ini_M μ 64 i = nI (wd i) := by rw [ini_ag64 μ (fun _ _ => 0)]; exact ini_64z ⟨i, hi⟩
theorem ini_51 (μ : ax_M) (i : Nat) (hi : i ≠ 4) : ini_M μ 51 i = μ 51 i := by
  rw [ini_f62 μ 51 i rfl]
  simp [iM_0, ax_w, ax_z, hi]
theorem ini_51h (μ : ax_M) : ini_M μ 51 4 = 12 := by
  rw [ini_f62 μ 51 4 rfl]
  simp [iM_0, ax_w, ax_z]
theorem ini_60 (μ : ax_M) (s : Nat) (hs : s < 4) : ini_M μ 60 s = -1 ∧ ini_M μ 61 s = 0 := by
  rw [ini_f62 μ 60 s rfl, ini_f62 μ 61 s rfl]
  have : s = 0 ∨ s = 1 ∨ s = 2 ∨ s = 3 := by omega
  rcases this with rfl | rfl | rfl | rfl <;> simp [iM_0, ax_w, ax_z]
