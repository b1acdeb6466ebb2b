/-! ===== the whole state, on both sides ===== -/
abbrev Lw : Type := Nat → Int32 → Int32 → Int32 → Int32 → Int32 → Int32 → Int32
abbrev Im : Type := Nat × (Nat × (Nat × (Nat × ((Nat → Nat) × ((Nat → Nat) × (Nat → Int32))))))
abbrev Sh4 : Type := (Nat → Int32) × ((Nat → Nat) × (Nat → Nat → Int32))
def im_f (i : Im) : Nat := i.1
def im_n (i : Im) : Nat := i.2.1
def im_h (i : Im) : Nat := i.2.2.1
def im_l (i : Im) : Nat := i.2.2.2.1
def im_a (i : Im) : Nat → Nat := i.2.2.2.2.1
def im_b (i : Im) : Nat → Nat := i.2.2.2.2.2.1
def im_g (i : Im) : Nat → Int32 := i.2.2.2.2.2.2
def sh_o (s : Sh4) : Nat → Int32 := s.1
def sh_z (s : Sh4) : Nat → Nat := s.2.1
def sh_v (s : Sh4) : Nat → Nat → Int32 := s.2.2
/-- text t says f, in the class -/
def TC (t : Nat) (f : Lw) (μ : ax_M) : Prop := ∀ μ1 : ax_M, μ1 (3 + t) = μ (3 + t) → μ1 (10 + t) = μ (10 + t) → ∀ p, p < 3 → ∃ μ2, m_X7_value (nI t) (nI p) μ1 = some (f p (μ1 16 0) (μ1 16 1) (μ1 16 2) (μ1 16 3) (μ1 16 4) (μ1 16 5), μ2) ∧ ∀ k, k ≠ 17 → μ2 k = μ1 k
/-- text t says f, in the model -/
def TM (t : Nat) (f : Lw) (μ : ax_M) : Prop := ∀ μ1 : ax_M, (∀ i, i < 200 → μ1 56 (200 * t + i) = μ 56 (200 * t + i)) → (∀ i, i < 4 → μ1 57 (4 * t + i) = μ 57 (4 * t + i)) → μ1 51 10 = nI t → ∀ p, p < 3 → ∃ μ2, m_X10_says (nI p) μ1 = some (f p (μ1 67 0) (μ1 67 1) (μ1 67 2) (μ1 67 3) (μ1 67 4) (μ1 67 5), μ2) ∧ ∀ k, k ≠ 66 → μ2 k = μ1 k
def OKd (n : Nat) (d : Dt) : Prop := ∀ r, r < n → (∃ k, k ≤ 5 ∧ d_k d r = nI k) ∧ (∃ m, m ≤ 9 ∧ d_m d r = nI m) ∧ (∃ g, g ≤ 99 ∧ d_g d r = nI g)
def OKi (n tx : Nat) (i : Im) : Prop := im_f i = 0 ∨ (im_f i = 1 ∧ im_n i ≤ n ∧ im_h i < 24 ∧ im_l i < tx ∧ ∀ r, r < im_n i → im_a i r < 36 ∧ im_b i r < 36 ∧ im_a i r % 6 ≤ im_b i r % 6 ∧ im_a i r / 6 ≤ im_b i r / 6 ∧ ∃ g, g ≤ 99 ∧ im_g i r = nI g)
def OKs (s : Sh4) : Prop := ∀ k, k < 4 → (sh_o s k = -1 ∨ sh_o s k = 0 ∨ sh_o s k = 1 ∨ sh_o s k = 2) ∧ sh_z s k ≤ 40
def OK (n : Nat) (d : Dt) (hr lw tx : Nat) (F : Nat → Lw) (ts : Nat) (tb : Nat → Nat) (im : Im) (sh : Sh4) : Prop := hr < 24 ∧ lw < tx ∧ tx ≤ 6 ∧ d_f d = F lw ∧ OKd n d ∧ ts ≤ 160 ∧ (∀ i, i < ts → tb i ≤ 255) ∧ OKi n tx im ∧ OKs sh
def KCr (n : Nat) (d : Dt) (hr lw : Nat) (μ : ax_M) : Prop := RC n d μ ∧ μ 25 2 = nI hr ∧ μ 25 3 = nI lw
def KCt (tx : Nat) (F : Nat → Lw) (μ : ax_M) : Prop := μ 1 0 = nI tx ∧ ∀ t, t < tx → TC t (F t) μ
def KCp (ts : Nat) (tb : Nat → Nat) (μ : ax_M) : Prop := μ 18 1 = nI ts ∧ ∀ i, i < ts → μ 19 i = nI (tb i)
def KCi (i : Im) (μ : ax_M) : Prop := μ 39 0 = nI (im_f i) ∧ (im_f i = 1 → μ 39 1 = nI (im_n i) ∧ μ 39 2 = nI (im_h i) ∧ μ 39 3 = nI (im_l i) ∧ ∀ r, r < im_n i → μ 40 r = nI (im_a i r) ∧ μ 41 r = nI (im_b i r) ∧ μ 42 r = im_g i r)
def KCs (s : Sh4) (μ : ax_M) : Prop := ∀ k, k < 4 → μ 49 k = sh_o s k ∧ μ 50 k = nI (sh_z s k) ∧ ∀ i, i < sh_z s k → μ (45 + k) i = sh_v s k i
def KC (n : Nat) (d : Dt) (hr lw tx : Nat) (F : Nat → Lw) (ts : Nat) (tb : Nat → Nat) (im : Im) (sh : Sh4) (μ : ax_M) : Prop := KCr n d hr lw μ ∧ KCt tx F μ ∧ KCp ts tb μ ∧ KCi im μ ∧ KCs sh μ
/-- the words that the model knows -/
def wd_l : List Nat := [102, 105, 110, 101, 115, 32, 32, 32, 97, 100, 109, 105, 116, 115, 32, 32, 115, 108, 101, 101, 112, 115, 32, 32, 99, 111, 108, 117, 109, 110, 32, 32, 114, 111, 119, 32, 32, 32, 32, 32, 104, 111, 117, 114, 32, 32, 32, 32, 103, 117, 101, 115, 116, 115, 32, 32, 115, 105, 122, 101, 32, 32, 32, 32, 109, 111, 114, 101, 32, 32, 32, 32, 111, 114, 32, 32, 32, 32, 32, 32, 97, 110, 100, 32, 32, 32, 32, 32, 110, 111, 116, 32, 32, 32, 32, 32]
def wd (i : Nat) : Nat := wd_l.getD i 0
def KMr (n : Nat) (d : Dt) (hr lw : Nat) (μ : ax_M) : Prop := RM n d μ ∧ μ 51 4 = nI hr ∧ μ 51 10 = nI lw
def KMt (tx : Nat) (F : Nat → Lw) (μ : ax_M) : Prop := μ 51 9 = nI tx ∧ (∀ t, t < tx → TM t (F t) μ) ∧ ∀ i, i < 96 → μ 64 i = nI (wd i)
def KMp (ts : Nat) (tb : Nat → Nat) (μ : ax_M) : Prop := μ 51 6 = nI ts ∧ ∀ i, i < ts → μ 55 i = nI (tb i)
def KMi (i : Im) (μ : ax_M) : Prop := μ 51 11 = nI (im_f i) ∧ (im_f i = 1 → μ 59 0 = nI (im_n i) ∧ μ 59 1 = nI (im_h i) ∧ μ 59 2 = nI (im_l i) ∧ ∀ r, r < im_n i → μ 58 (3 * r) = nI (im_a i r) ∧ μ 58 (3 * r + 1) = nI (im_b i r) ∧ μ 58 (3 * r + 2) = im_g i r)
def KMs (s : Sh4) (μ : ax_M) : Prop := ∀ k, k < 4 → μ 60 k = sh_o s k ∧ μ 61 k = nI (sh_z s k) ∧ ∀ i, i < sh_z s k → μ 62 (40 * k + i) = sh_v s k i
def KM (n : Nat) (d : Dt) (hr lw tx : Nat) (F : Nat → Lw) (ts : Nat) (tb : Nat → Nat) (im : Im) (sh : Sh4) (μ : ax_M) : Prop := KMr n d hr lw μ ∧ KMt tx F μ ∧ KMp ts tb μ ∧ KMi im μ ∧ KMs sh μ
def K (n : Nat) (d : Dt) (hr lw tx : Nat) (F : Nat → Lw) (ts : Nat) (tb : Nat → Nat) (im : Im) (sh : Sh4) (μ : ax_M) : Prop := OK n d hr lw tx F ts tb im sh ∧ KC n d hr lw tx F ts tb im sh μ ∧ KM n d hr lw tx F ts tb im sh μ
def Kx (μ : ax_M) : Prop := ∃ n d hr lw tx F ts tb im sh, K n d hr lw tx F ts tb im sh μ
/-- both sides answer the same, and the state holds behind them -/
def Bo {α : Type} (P Q : ax_M → Option (α × ax_M)) (μ : ax_M) : Prop := ∃ v μ2 μ3, P μ = some (v, μ2) ∧ Q μ2 = some (v, μ3) ∧ Kx μ3
/-- where a class' run writes without harm -/
def SC (k : Nat) (_ : Nat) : Bool := k == 16 || k == 17 || k == 32 || k == 33 || k == 34 || k == 36 || k == 37 || k == 38
/-- where a model's run writes without harm -/
def SM (k i : Nat) : Bool := k == 66 || k == 67 || k == 68 || k == 69 || k == 70 || (k == 51 && decide (30 ≤ i))
section
variable {n hr lw tx ts : Nat} {d : Dt} {F : Nat → Lw} {tb : Nat → Nat} {im : Im} {sh : Sh4} {μ μ2 : ax_M}
theorem TC.cg {t : Nat} {f : Lw} (h : TC t f μ) (h1 : μ2 (3 + t) = μ (3 + t)) (h2 : μ2 (10 + t) = μ (10 + t)) : TC t f μ2 := fun μ1 a b => h μ1 (a.trans h1) (b.trans h2)
theorem TM.cg {t : Nat} {f : Lw} (h : TM t f μ) (h1 : ∀ i, i < 200 → μ2 56 (200 * t + i) = μ 56 (200 * t + i)) (h2 : ∀ i, i < 4 → μ2 57 (4 * t + i) = μ 57 (4 * t + i)) : TM t f μ2 := fun μ1 a b => h μ1 (fun i hi => (a i hi).trans (h1 i hi)) (fun i hi => (b i hi).trans (h2 i hi))
theorem KCr.fr (h : KCr n d hr lw μ) (hk : ∀ k i, 25 ≤ k → k ≤ 31 → μ2 k i = μ k i) : KCr n d hr lw μ2 := by
  obtain ⟨⟨h1, h2, h3⟩, h4, h5⟩ := h
  refine ⟨⟨h1, by rw [hk 25 1 (by omega) (by omega)]; exact h2, fun r hr => ?_⟩, by rw [hk 25 2 (by omega) (by omega)]; exact h4, by rw [hk 25 3 (by omega) (by omega)]; exact h5⟩
  rw [hk 26 r (by omega) (by omega), hk 27 r (by omega) (by omega), hk 28 r (by omega) (by omega), hk 29 r (by omega) (by omega), hk 30 r (by omega) (by omega), hk 31 r (by omega) (by omega)]
  exact h3 r hr
theorem KCt.fr (h : KCt tx F μ) (h0 : μ2 1 0 = μ 1 0) (hk : ∀ k i, 3 ≤ k → k ≤ 15 → μ2 k i = μ k i) (h6 : tx ≤ 6) : KCt tx F μ2 := ⟨h0.trans h.1, fun t ht => (h.2 t ht).cg (funext fun i => hk _ i (by omega) (by omega)) (funext fun i => hk _ i (by omega) (by omega))⟩
theorem KCp.fr (h : KCp ts tb μ) (h0 : μ2 18 1 = μ 18 1) (hk : ∀ i, μ2 19 i = μ 19 i) : KCp ts tb μ2 := ⟨h0.trans h.1, fun i hi => (hk i).trans (h.2 i hi)⟩
theorem KCi.fr (h : KCi im μ) (hk : ∀ k i, 39 ≤ k → k ≤ 42 → μ2 k i = μ k i) : KCi im μ2 := by
  obtain ⟨h1, h2⟩ := h
  refine ⟨by rw [hk 39 0 (by omega) (by omega)]; exact h1, fun hf => ?_⟩
  obtain ⟨a1, a2, a3, a4⟩ := h2 hf
  refine ⟨by rw [hk 39 1 (by omega) (by omega)]; exact a1, by rw [hk 39 2 (by omega) (by omega)]; exact a2, by rw [hk 39 3 (by omega) (by omega)]; exact a3, fun r hr => ?_⟩
  rw [hk 40 r (by omega) (by omega), hk 41 r (by omega) (by omega), hk 42 r (by omega) (by omega)]
  exact a4 r hr
theorem KCs.fr (h : KCs sh μ) (hk : ∀ k i, 45 ≤ k → k ≤ 50 → μ2 k i = μ k i) : KCs sh μ2 := by
  intro s hs
  obtain ⟨a1, a2, a3⟩ := h s hs
  refine ⟨by rw [hk 49 s (by omega) (by omega)]; exact a1, by rw [hk 50 s (by omega) (by omega)]; exact a2, fun i hi => ?_⟩
  rw [hk (45 + s) i (by omega) (by omega)]
  exact a3 i hi
theorem KMr.fr (h : KMr n d hr lw μ) (hk : ∀ k i, k = 52 ∨ k = 53 ∨ k = 54 → μ2 k i = μ k i) (h0 : μ2 51 0 = μ 51 0) (h4' : μ2 51 4 = μ 51 4) (h10 : μ2 51 10 = μ 51 10) : KMr n d hr lw μ2 := by
  obtain ⟨⟨h1, h2, h3⟩, h4, h5⟩ := h
  refine ⟨⟨h1, by rw [h0]; exact h2, fun r hr => ?_⟩, by rw [h4']; exact h4, by rw [h10]; exact h5⟩
  rw [hk 52 r (by omega), hk 53 r (by omega), hk 54 _ (by omega), hk 54 _ (by omega), hk 54 _ (by omega)]
  exact h3 r hr
theorem KMt.fr (h : KMt tx F μ) (h0 : μ2 51 9 = μ 51 9) (h56 : ∀ i, μ2 56 i = μ 56 i) (h57 : ∀ i, μ2 57 i = μ 57 i) (h64 : ∀ i, μ2 64 i = μ 64 i) : KMt tx F μ2 := ⟨h0.trans h.1, fun t ht => (h.2.1 t ht).cg (fun i _ => h56 _) (fun i _ => h57 _), fun i hi => (h64 i).trans (h.2.2 i hi)⟩
theorem KMp.fr (h : KMp ts tb μ) (h0 : μ2 51 6 = μ 51 6) (hk : ∀ i, μ2 55 i = μ 55 i) : KMp ts tb μ2 := ⟨h0.trans h.1, fun i hi => (hk i).trans (h.2 i hi)⟩
theorem KMi.fr (h : KMi im μ) (h0 : μ2 51 11 = μ 51 11) (hk : ∀ k i, k = 58 ∨ k = 59 → μ2 k i = μ k i) : KMi im μ2 := by
  obtain ⟨h1, h2⟩ := h
  refine ⟨h0.trans h1, fun hf => ?_⟩
  obtain ⟨a1, a2, a3, a4⟩ := h2 hf
  refine ⟨by rw [hk 59 0 (by omega)]; exact a1, by rw [hk 59 1 (by omega)]; exact a2, by rw [hk 59 2 (by omega)]; exact a3, fun r hr => ?_⟩
  rw [hk 58 _ (by omega), hk 58 _ (by omega), hk 58 _ (by omega)]
  exact a4 r hr
theorem KMs.fr (h : KMs sh μ) (hk : ∀ k i, 60 ≤ k → k ≤ 62 → μ2 k i = μ k i) : KMs sh μ2 := by
  intro s hs
  obtain ⟨a1, a2, a3⟩ := h s hs
  refine ⟨by rw [hk 60 s (by omega) (by omega)]; exact a1, by rw [hk 61 s (by omega) (by omega)]; exact a2, fun i hi => ?_⟩
  rw [hk 62 _ (by omega) (by omega)]
  exact a3 i hi
theorem KC.ch (h : KC n d hr lw tx F ts tb im sh μ) (h6 : tx ≤ 6) (hc : Ch SC μ μ2) : KC n d hr lw tx F ts tb im sh μ2 := by
  obtain ⟨h1, h2, h3, h4, h5⟩ := h
  have e : ∀ k i, SC k i = false → μ2 k i = μ k i := hc
  exact ⟨h1.fr fun k i a b => e k i (by simp [SC]; omega), h2.fr (e 1 0 rfl) (fun k i a b => e k i (by simp [SC]; omega)) h6, h3.fr (e 18 1 rfl) fun i => e 19 i rfl, h4.fr fun k i a b => e k i (by simp [SC]; omega), h5.fr fun k i a b => e k i (by simp [SC]; omega)⟩
theorem KC.fr (h : KC n d hr lw tx F ts tb im sh μ) (h6 : tx ≤ 6) (e : ∀ k i, k < 51 → μ2 k i = μ k i) : KC n d hr lw tx F ts tb im sh μ2 := by
  obtain ⟨h1, h2, h3, h4, h5⟩ := h
  exact ⟨h1.fr fun k i a b => e k i (by omega), h2.fr (e 1 0 (by omega)) (fun k i a b => e k i (by omega)) h6, h3.fr (e 18 1 (by omega)) fun i => e 19 i (by omega), h4.fr fun k i a b => e k i (by omega), h5.fr fun k i a b => e k i (by omega)⟩
theorem KM.ch (h : KM n d hr lw tx F ts tb im sh μ) (hc : Ch SM μ μ2) : KM n d hr lw tx F ts tb im sh μ2 := by
  obtain ⟨h1, h2, h3, h4, h5⟩ := h
  have e : ∀ k i, SM k i = false → μ2 k i = μ k i := hc
  exact ⟨h1.fr (fun k i a => e k i (by simp [SM]; omega)) (e 51 0 rfl) (e 51 4 rfl) (e 51 10 rfl), h2.fr (e 51 9 rfl) (fun i => e 56 i rfl) (fun i => e 57 i rfl) (fun i => e 64 i rfl), h3.fr (e 51 6 rfl) fun i => e 55 i rfl, h4.fr (e 51 11 rfl) (fun k i a => e k i (by simp [SM]; omega)), h5.fr fun k i a b => e k i (by simp [SM]; omega)⟩
theorem KM.fr (h : KM n d hr lw tx F ts tb im sh μ) (e : ∀ k i, 51 ≤ k → μ2 k i = μ k i) : KM n d hr lw tx F ts tb im sh μ2 := by
  obtain ⟨h1, h2, h3, h4, h5⟩ := h
  exact ⟨h1.fr (fun k i a => e k i (by omega)) (e 51 0 (by omega)) (e 51 4 (by omega)) (e 51 10 (by omega)), h2.fr (e 51 9 (by omega)) (fun i => e 56 i (by omega)) (fun i => e 57 i (by omega)) (fun i => e 64 i (by omega)), h3.fr (e 51 6 (by omega)) fun i => e 55 i (by omega), h4.fr (e 51 11 (by omega)) (fun k i a => e k i (by omega)), h5.fr fun k i a b => e k i (by omega)⟩
theorem LC.ofT {f : Lw} (h : TC lw f μ) (hl : lw < 6) (h3 : μ 25 3 = nI lw) (hd : d_f d = f) : LC d μ := by
  intro μ1 a b p hp
  rw [b, h3, hd]
  exact h μ1 (a _ (by omega) (by omega)) (a _ (by omega) (by omega)) p hp
theorem LM.ofT {f : Lw} (h : TM lw f μ) (h3 : μ 51 10 = nI lw) (hd : d_f d = f) : LM d μ := by
  intro μ1 a b c p hp
  rw [hd]
  exact h μ1 (fun i _ => by rw [a]) (fun i _ => by rw [b]) (c.trans h3) p hp
theorem K.rc (h : K n d hr lw tx F ts tb im sh μ) : RC n d μ := h.2.1.1.1
theorem K.rm (h : K n d hr lw tx F ts tb im sh μ) : RM n d μ := h.2.2.1.1
theorem K.lc (h : K n d hr lw tx F ts tb im sh μ) : LC d μ := by
  obtain ⟨⟨-, hlw, htx, hd, -⟩, ⟨hr', ht, -⟩, -⟩ := h
  exact LC.ofT (ht.2 lw hlw) (by omega) hr'.2.2 hd
theorem K.lm (h : K n d hr lw tx F ts tb im sh μ) : LM d μ := by
  obtain ⟨⟨-, hlw, htx, hd, -⟩, -, ⟨hr', ht, -⟩⟩ := h
  exact LM.ofT (ht.2.1 lw hlw) hr'.2.2 hd
theorem K.n6 (h : K n d hr lw tx F ts tb im sh μ) : n ≤ 6 := h.rc.1
theorem K.x6 (h : K n d hr lw tx F ts tb im sh μ) : tx ≤ 6 := h.1.2.2.1
theorem K.ch (h : K n d hr lw tx F ts tb im sh μ) (hc : Ch SC μ μ2) : K n d hr lw tx F ts tb im sh μ2 := ⟨h.1, h.2.1.ch h.x6 hc, h.2.2.fr fun k i a => hc k i (by simp [SC]; omega)⟩
theorem K.cm (h : K n d hr lw tx F ts tb im sh μ) (hc : Ch SM μ μ2) : K n d hr lw tx F ts tb im sh μ2 := ⟨h.1, h.2.1.fr h.x6 fun k i a => hc k i (by simp [SM]; omega), h.2.2.ch hc⟩
theorem K.x (h : K n d hr lw tx F ts tb im sh μ) : Kx μ := ⟨n, d, hr, lw, tx, F, ts, tb, im, sh, h⟩
theorem K.h2 (h : K n d hr lw tx F ts tb im sh μ) : μ 25 2 = nI hr := h.2.1.1.2.1
theorem K.h4 (h : K n d hr lw tx F ts tb im sh μ) : μ 51 4 = nI hr := h.2.2.1.2.1
/-- a question: nothing changes -/
theorem K.q {α : Type} {P Q : ax_M → Option (α × ax_M)} {v : α} (h : K n d hr lw tx F ts tb im sh μ) (hP : ∃ μ2, P μ = some (v, μ2) ∧ Ch SC μ μ2) (hQ : ∀ μ', K n d hr lw tx F ts tb im sh μ' → ∃ μ3, Q μ' = some (v, μ3) ∧ Ch SM μ' μ3) : Bo P Q μ := by
  obtain ⟨μ2, e1, e2⟩ := hP
  obtain ⟨μ3, f1, f2⟩ := hQ μ2 (h.ch e2)
  exact ⟨v, μ2, μ3, e1, f1, ((h.ch e2).cm f2).x⟩
/-- a refusal -/
theorem K.no {α : Type} {P Q : ax_M → Option (α × ax_M)} (v : α) (h : K n d hr lw tx F ts tb im sh μ) (hP : P μ = some (v, μ)) (hQ : Q μ = some (v, μ)) : Bo P Q μ := ⟨v, μ, μ, hP, hQ, h.x⟩
end
/-- an argument that is a number from 0 to b, or not -/
theorem arg (x : Int32) (b : Nat) (hb : b + 1 < 2 ^ 31) : (∃ j, j ≤ b ∧ x = nI j) ∨ (s_in x 0 (nI b) = false ∧ (x < 0 ∨ (¬ x < 0 ∧ nI (b + 1) ≤ x ∧ ¬ x < nI (b + 1) ∧ ¬ x ≤ nI b ∧ nI b < x))) := by
  by_cases h : x < 0
  · exact Or.inr ⟨in_neg h, Or.inl h⟩
  · obtain ⟨j, hj, rfl⟩ := nI_of h
    by_cases e : j ≤ b
    · exact Or.inl ⟨j, e, rfl⟩
    · refine Or.inr ⟨?_, Or.inr ⟨h, ?_, ?_, ?_, ?_⟩⟩
      · rw [in_n hj (by omega)]
        simp [e]
      · rw [nleL (by omega) hj]; omega
      · rw [nltL hj (by omega)]; omega
      · rw [nleL hj (by omega)]; omega
      · rw [nltL (by omega) hj]; omega
theorem bI0 (b : Bool) : (bI b = 0) = (b = false) := by cases b <;> simp [bI]
theorem rug_n {n r : Nat} (hn : n ≤ 6) (hr : r < 2 ^ 31) : s_rug n (nI r) = decide (r < n) := by
  unfold s_rug
  simp only [show (nI n ≤ nI r) = (n ≤ r) from nleL (by omega) hr]
  have : ¬ nI r < 0 := nneg hr
  by_cases e : r < n
  · have : ¬ n ≤ r := by omega
    simp [*]
  · have : n ≤ r := by omega
    simp [*]
/-- an argument that is a rug, or not -/
theorem argr (n : Nat) (x : Int32) (hn : n ≤ 6) : (∃ r, r < n ∧ x = nI r ∧ s_rug n x = true) ∨ s_rug n x = false := by
  cases h : s_rug n x with
  | false => exact Or.inr rfl
  | true =>
    obtain ⟨r, hr, rfl⟩ := rug_of hn h
    exact Or.inl ⟨r, hr, rfl, rfl⟩
theorem argc (x : Int32) : (∃ c, c < 36 ∧ x = nI c ∧ s_cell x = true) ∨ s_cell x = false := by
  cases h : s_cell x with
  | false => exact Or.inr rfl
  | true =>
    obtain ⟨r, hr, rfl⟩ := cell_of h
    exact Or.inl ⟨r, hr, rfl, rfl⟩
