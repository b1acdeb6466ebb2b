/-! ===== BEGIN words of one list among another's, by their places ===== -/
theorem goodIn_r {big : List Cond} (ws : List Cond) (ps : List Nat) (hp : ws = ps.filterMap (fun i => big[i]?)) (h : ws.all goodWord = true) : GoodIn big ws := by
  intro w hw
  have h1 := List.all_eq_true.mp h w hw
  rw [hp] at hw
  obtain ⟨i, -, hi⟩ := List.mem_filterMap.mp hw
  have hm : w ∈ big := by first | exact List.mem_of_getElem? hi | exact List.getElem?_mem hi
  exact ⟨hm, good_of_word h1⟩
theorem goodIn_app {big a b : List Cond} (ha : GoodIn big a) (hb : GoodIn big b) : GoodIn big (a ++ b) := fun w h => (List.mem_append.mp h).elim (ha w) (hb w)
theorem goodIn_ca {big a b : List Cond} {c : Cond} (ha : GoodIn big (c :: a)) (hb : GoodIn big b) : GoodIn big (c :: (a ++ b)) := fun w h => (List.mem_cons.mp h).elim (fun e => ha w (List.mem_cons.mpr (Or.inl e))) (fun h => (List.mem_append.mp h).elim (fun h => ha w (List.mem_cons.mpr (Or.inr h))) (hb w))
theorem goodIn_sub {big ws : List Cond} (hm : ∀ w ∈ ws, w ∈ big) (h : ws.all goodWord = true) : GoodIn big ws := fun w hw => ⟨hm w hw, good_of_word (List.all_eq_true.mp h w hw)⟩
/-! ===== END ===== -/

/-! ===== BEGIN new T[n][m]: the outer array a place, the inner ones among the pooled ===== -/
/-- f, but v at every address of l -/
def vr_up {α : Type} (f : Nat → α) (l : List Nat) (v : α) : Nat → α := fun a => if a ∈ l then v else f a
theorem vr_up_in {α : Type} {f : Nat → α} {l : List Nat} {v : α} {a : Nat} (h : a ∈ l) : vr_up f l v a = v := if_pos h
theorem vr_up_ne {α : Type} {f : Nat → α} {l : List Nat} {v : α} {a : Nat} (h : a ∉ l) : vr_up f l v a = f a := if_neg h
theorem vr_rows {L l : List Nat} {f : Nat → va_E} {e : va_E} (h : ∀ a, a ∈ l → a ∉ L) : va_pl L f ++ l.map (fun a => (a, e)) = va_pl (L ++ l) (vr_up f l e) := by
  unfold va_pl
  rw [List.map_append]
  congr 1
  · apply List.map_congr_left
    intro a ha
    rw [vr_up_ne (fun q => h a q ha)]
  · apply List.map_congr_left
    intro a ha
    rw [vr_up_in ha]
theorem vr_lay {X rows : va_W} {x : Nat × va_E} {pl : va_W} {D : va_G} {cl : List vw_C} {H : Heap} (hP : va_P D cl (((X ++ pl) ++ [x]) ++ rows) H) : va_P D cl ((X ++ [x]) ++ (pl ++ rows)) H := by
  rw [List.append_assoc (X ++ pl)] at hP
  have h := va_P.swap hP
  rw [← List.append_assoc X] at h
  have h2 := va_P.swap h
  rw [List.append_assoc (X ++ [x])] at h2
  exact h2
theorem vr_layD {X rows : va_W} {x : Nat × va_E} {pl : va_W} {A : Nat → Prop} (hD : va_D A (((X ++ pl) ++ [x]) ++ rows)) : va_D A ((X ++ [x]) ++ (pl ++ rows)) := by
  rw [List.append_assoc (X ++ pl)] at hD
  have h := va_D.swap hD
  rw [← List.append_assoc X] at h
  have h2 := va_D.swap h
  rw [List.append_assoc (X ++ [x])] at h2
  exact h2
theorem vr_outer (c : ClassId) (N h0 : Nat) : ∀ i : Nat, Jvm.Free.Multi.outerC c N h0 i = arrV c N (fun j => va_rf (if j < i then some (h0 + 1 + j) else none))
  | 0 => by
    show ({ cls := c, slots := Array.replicate N .null, vm := .none } : Cell) = _
    rw [arrV_new]
    refine congrArg (arrV c N) (funext fun j => ?_)
    simp [va_rf]
  | i + 1 => by
    show (Jvm.Free.Multi.outerC c N h0 i).setSlot i (.ref (h0 + 1 + i)) = _
    rw [vr_outer c N h0 i, arrV_store]
    refine congrArg (arrV c N) (funext fun j => ?_)
    by_cases e : j = i
    · subst e
      simp [updV, va_rf]
    · by_cases h : j < i
      · simp [updV, e, h, Nat.lt_succ_of_lt h]
      · simp [updV, e, h, show ¬ j < i + 1 by omega]
section VGM
variable {p : Program} {l : Launch} {e : Env} {R : Room} {s : State} {m : MethodId} {args : Array Value} {below : List Frame} {meth : Method} {c : Code} {H : Heap} {locs : List Loc} {cells slots : Nat} {Q : State → Prop}
variable {cc : ByteArray} {pc : Nat} {ls : Array Slot} {rest : List Value} {D : va_G} {cl : List vw_C} {A : Nat → Prop} {a : Nat} {tys : List (ClassId × FieldType)} {ws : va_W} {H0 : Heap}
theorem va_mna {X : va_W} {L : List Nat} {f : Nat → va_E} {cc : ByteArray} (hexec : p.tables.exec = Jvm.exec) (hb : c.code = cc) {own : String} {index : Nat} {ty : FieldType} {cy : ClassId} (hown : s.vm.findClass own = some m.cls) (hclink : (Cond.classLink own index ("[" ++ (FieldType.array ty).toString)).before args s = true) (hover : va_AOA ty s) (harr : (Cond.arrayClass ty).before args s = true) (hcy : s.vm.findClass (FieldType.array ty).toString = some cy)
    (hK : va_K D cl tys s) (hP : va_P D cl (X ++ va_pl L f) H) (hD : va_D A (X ++ va_pl L f)) (hS : va_S A H0 H locs) (hA : ∀ q, H0.size ≤ q → A q) {n k : Int32} {N' K' : Nat} {z : vp_A} (hn : ¬ n < 0) (hk : ¬ k < 0) (hN : n.toNatClampNeg = N') (hM : k.toNatClampNeg = K')
    (hb1 : N' * 4 ≤ 536870912) (hb2 : K' * componentBytes ty ≤ 536870912) (hb3 : K' ≤ 536870912) (hdf : fits ty (defaultValue ty) = true) (hdd : (defaultValue ty).isDefault = true) (hcells : cells + (1 + N') ≤ R.cells) (hslots : slots + (N' + N' * K') ≤ R.slots) (hz : ∀ c : ClassId, Jvm.Free.Multi.innerC c K' (defaultValue ty) = vp_cell c z) (hdg : decode cc pc = .ok (.multianewarray index 2, 4))
    (kk : ∀ (q : Nat) (r : Nat → Nat) (cA : ClassId) (H1 : Heap), (∀ i j : Nat, i < N' → j < N' → r i = r j → i = j) → (∀ i : Nat, i < N' → r i ∉ L) → va_K D cl (tys ++ [(cA, .array ty)]) s →
      va_P D cl ((X ++ [(q, .inl (cA, N', .inr (.inr (.inr (.inr (fun i => if i < N' then some (r i) else none))))))]) ++ va_pl (L ++ (List.range N').map r) (vr_up f ((List.range N').map r) (.inl (cy, z)))) H1 → va_D A ((X ++ [(q, .inl (cA, N', .inr (.inr (.inr (.inr (fun i => if i < N' then some (r i) else none))))))]) ++ va_pl (L ++ (List.range N').map r) (vr_up f ((List.range N').map r) (.inl (cy, z)))) → va_S A H0 H1 locs →
      W p l e R s m args below meth c H1 locs (cells + 1 + N') (slots + N' + N' * K') Q (F0 m (pc + 4) ls (.ref q :: rest))) : W p l e R s m args below meth c H locs cells slots Q (F0 m pc ls (.int k :: .int n :: rest)) := by
  subst hN
  subst hM
  intro T hT Xs
  obtain ⟨vm₁, cA, comp, -, fA, fC, hO, -, X', step⟩ := Xs.multianewarray2F hexec hown hclink (va_AOA.use hover) harr (g := F0 m pc ls (.int k :: .int n :: rest)) rfl (by rw [hb]; exact hdg) rfl hn hk hb1 hb2 hb3 hdf hdd hcells hslots
  have ec : some cy = some comp := hcy.symm.trans fC
  cases ec
  generalize hF : Jvm.Free.Multi.fill (T.setVm vm₁) cA cy n.toNatClampNeg k.toNatClampNeg (defaultValue ty) n.toNatClampNeg = F at X' step
  have hTh : (T.setVm vm₁).heap = H := hT
  obtain ⟨f1, f2, -, -⟩ := Jvm.Free.Multi.fill_facts (T.setVm vm₁) cA cy n.toNatClampNeg k.toNatClampNeg (defaultValue ty) n.toNatClampNeg
  rw [hF, hTh] at f1 f2
  have hold : ∀ x : Nat, x < H.size → F.heap[x]? = H[x]? := fun x hx => by
    have := Jvm.Free.Multi.fill_old (T.setVm vm₁) cA cy n.toNatClampNeg k.toNatClampNeg (defaultValue ty) (a := x) (by rw [hTh]; exact hx) n.toNatClampNeg
    rw [hF, hTh] at this
    exact this
  have hrow : ∀ j : Nat, j < n.toNatClampNeg → F.heap[H.size + 1 + j]? = some (vp_cell cy z) := fun j hj => by
    have := Jvm.Free.Multi.fill_inner (T.setVm vm₁) cA cy n.toNatClampNeg k.toNatClampNeg (defaultValue ty) n.toNatClampNeg j hj
    rw [hF, hTh, hz] at this
    exact this
  have hout : Jvm.Free.Multi.outerC cA n.toNatClampNeg H.size n.toNatClampNeg = vp_cell cA (n.toNatClampNeg, .inr (.inr (.inr (.inr (fun i => if i < n.toNatClampNeg then some (H.size + 1 + i) else none))))) := by
    rw [vp_cell_q]
    exact vr_outer cA n.toNatClampNeg H.size n.toNatClampNeg
  rw [hout] at f2
  have hlt : ∀ a, a ∈ L → a < H.size := fun a ha => by
    obtain ⟨k9, hk9⟩ := va_pl_get (X := X) (f := f) ha
    exact (hP k9 _ hk9).lt
  have hnl : ∀ i : Nat, i < n.toNatClampNeg → H.size + 1 + i ∉ L := fun i _ h => by
    have := hlt _ h
    omega
  have hnm : ∀ a, a ∈ (List.range n.toNatClampNeg).map (fun i => H.size + 1 + i) → a ∉ L := fun a ha h => by
    obtain ⟨i, -, rfl⟩ := List.mem_map.mp ha
    have := hlt _ h
    omega
  have hP0 : va_P D cl (X ++ va_pl L f) F.heap := hP.kept (fun k9 x hx => hold x.1 ((hP k9 x hx).lt))
  have hP1 : va_P D cl ((X ++ va_pl L f) ++ [(H.size, .inl (cA, n.toNatClampNeg, .inr (.inr (.inr (.inr (fun i => if i < n.toNatClampNeg then some (H.size + 1 + i) else none))))))]) F.heap := hP0.app (fun k9 x hx => by
    have h0 : k9 < 1 := (List.getElem?_eq_some_iff.mp hx).1
    rw [show k9 = 0 by omega] at hx
    cases hx
    exact f2)
  have hP2 : va_P D cl (((X ++ va_pl L f) ++ [(H.size, .inl (cA, n.toNatClampNeg, .inr (.inr (.inr (.inr (fun i => if i < n.toNatClampNeg then some (H.size + 1 + i) else none))))))]) ++ ((List.range n.toNatClampNeg).map (fun i => H.size + 1 + i)).map (fun a => (a, .inl (cy, z)))) F.heap := hP1.app (fun k9 x hx => by
    obtain ⟨a, ha, rfl⟩ := List.mem_map.mp (List.mem_of_getElem? hx)
    obtain ⟨i, hi, rfl⟩ := List.mem_map.mp ha
    exact hrow i (List.mem_range.mp hi))
  have hD2 : va_D A (((X ++ va_pl L f) ++ [(H.size, .inl (cA, n.toNatClampNeg, .inr (.inr (.inr (.inr (fun i => if i < n.toNatClampNeg then some (H.size + 1 + i) else none))))))]) ++ ((List.range n.toNatClampNeg).map (fun i => H.size + 1 + i)).map (fun a => (a, .inl (cy, z)))) := by
    have hD1 := hD.push (e := .inl (cA, n.toNatClampNeg, .inr (.inr (.inr (.inr (fun i => if i < n.toNatClampNeg then some (H.size + 1 + i) else none)))))) hP rfl (hA _ hS.1)
    generalize hW1 : (X ++ va_pl L f) ++ [(H.size, .inl (cA, n.toNatClampNeg, .inr (.inr (.inr (.inr (fun i => if i < n.toNatClampNeg then some (H.size + 1 + i) else none))))))] = W1 at hD1 hP1 ⊢
    have hle : ∀ (k9 : Nat) (x : Nat × va_E), W1[k9]? = some x → x.1 ≤ H.size := fun k9 x hx => by
      rw [← hW1] at hx
      by_cases hl : k9 < (X ++ va_pl L f).length
      · rw [List.getElem?_append_left hl] at hx
        exact Nat.le_of_lt ((hP k9 x hx).lt)
      · rw [List.getElem?_append_right (by omega)] at hx
        have h0 : k9 - (X ++ va_pl L f).length < 1 := (List.getElem?_eq_some_iff.mp hx).1
        rw [show k9 - (X ++ va_pl L f).length = 0 by omega] at hx
        cases hx
        exact Nat.le_refl _
    have hr : ∀ (k9 : Nat) (x : Nat × va_E), (((List.range n.toNatClampNeg).map (fun i => H.size + 1 + i)).map (fun a => ((a, .inl (cy, z)) : Nat × va_E)))[k9]? = some x → x.1 = H.size + 1 + k9 := fun k9 x hx => by
      rw [List.getElem?_map, List.getElem?_map] at hx
      by_cases h9 : k9 < n.toNatClampNeg
      · rw [List.getElem?_range h9] at hx
        cases hx
        rfl
      · have hn0 : (List.range n.toNatClampNeg)[k9]? = none := List.getElem?_eq_none (by rw [List.length_range]; omega)
        rw [hn0] at hx
        cases hx
    refine ⟨fun i j x y hi hj hxy => ?_, fun k9 x hx => ?_⟩
    · by_cases h1 : i < W1.length <;> by_cases h2 : j < W1.length
      · rw [List.getElem?_append_left h1] at hi
        rw [List.getElem?_append_left h2] at hj
        exact hD1.1 i j x y hi hj hxy
      · rw [List.getElem?_append_left h1] at hi
        rw [List.getElem?_append_right (by omega)] at hj
        have := hle _ _ hi
        have := hr _ _ hj
        omega
      · rw [List.getElem?_append_right (by omega)] at hi
        rw [List.getElem?_append_left h2] at hj
        have := hle _ _ hj
        have := hr _ _ hi
        omega
      · rw [List.getElem?_append_right (by omega)] at hi hj
        have := hr _ _ hi
        have := hr _ _ hj
        omega
    · by_cases h1 : k9 < W1.length
      · rw [List.getElem?_append_left h1] at hx
        exact hD1.2 k9 x hx
      · rw [List.getElem?_append_right (by omega)] at hx
        have := hr _ _ hx
        exact hA _ (by have := hS.1; omega)
  have hAr : ArrOfT s cA (.array ty) := fun N9 z9 => by
    obtain ⟨-, k9, hk9, cm9, hkk9⟩ := (hO 0 0 0).1
    exact ⟨(fun q hq => by cases hq), k9, hk9, cm9, hkk9⟩
  have hK2 : va_K D cl (tys ++ [(cA, .array ty)]) s := ⟨hK.1, fun k9 x hx => by
    by_cases hl : k9 < tys.length
    · rw [List.getElem?_append_left hl] at hx
      exact hK.2 k9 x hx
    · rw [List.getElem?_append_right (by omega)] at hx
      have h0 : k9 - tys.length < 1 := (List.getElem?_eq_some_iff.mp hx).1
      rw [show k9 - tys.length = 0 by omega] at hx
      cases hx
      exact ⟨hAr, fA⟩⟩
  obtain ⟨t, a1, b1⟩ := kk H.size (fun i => H.size + 1 + i) cA F.heap (fun i j _ _ h => by have h9 : H.size + 1 + i = H.size + 1 + j := h; omega) hnl hK2 (by rw [← vr_rows hnm]; exact vr_lay hP2) (by rw [← vr_rows hnm]; exact vr_layD hD2) ⟨by rw [f1]; have := hS.1; omega, fun x h1 h2 => (hold x (Nat.lt_of_lt_of_le h1 hS.1)).trans (hS.2.1 x h1 h2), hS.2.2⟩ F rfl X'
  refine ⟨t, step t ?_, b1⟩
  have e : T.heap.size = H.size := by rw [hT]
  rw [e]
  exact a1
end VGM
/-! ===== END ===== -/

/-! ===== BEGIN printed: names, fields, word lists, decode rows ===== -/
def RX0 : String := "RugIsJurisdiction$Common"
def TX0 : u_T := fun k => match k with
  | 0 => ("RugIsJurisdiction$Common", "texts", "LRugIsJurisdiction$Texts;", true)
  | 1 => ("RugIsJurisdiction$Common", "rugs", "I", false)
  | 2 => ("RugIsJurisdiction$Common", "hour", "I", false)
  | 3 => ("RugIsJurisdiction$Common", "law", "I", false)
  | 4 => ("RugIsJurisdiction$Common", "kind", "[I", true)
  | 5 => ("RugIsJurisdiction$Common", "more", "[I", true)
  | 6 => ("RugIsJurisdiction$Common", "from", "[I", true)
  | 7 => ("RugIsJurisdiction$Common", "to", "[I", true)
  | 8 => ("RugIsJurisdiction$Common", "size", "[I", true)
  | 9 => ("RugIsJurisdiction$Common", "guests", "[I", true)
  | 10 => ("RugIsJurisdiction$Common", "ruler", "[I", true)
  | _ => ("RugIsJurisdiction$Common", "fine", "[I", true)
def tyX0 : Nat → FieldType := fun k => match k with
  | 0 => .object "RugIsJurisdiction$Texts"
  | 1 => .int
  | 2 => .int
  | 3 => .int
  | 4 => .array .int
  | 5 => .array .int
  | 6 => .array .int
  | 7 => .array .int
  | 8 => .array .int
  | 9 => .array .int
  | 10 => .array .int
  | _ => .array .int
abbrev wsX00 : List Cond := u_ws RX0 TX0 12
theorem nmX0 : ∀ a, a < 12 → ∀ b, b < 12 → a ≠ b → (TX0 a).2.1 ≠ (TX0 b).2.1 := by decide +kernel
theorem tyX0_ok : ∀ k, k < 12 → parseFieldDescriptor (TX0 k).2.2.1 = some (tyX0 k) := by decide +kernel
abbrev cX0_init : ByteArray := prog_2_method_1_code
def yX0_init : MethodName := ⟨RX0, "<init>", "(LRugIsJurisdiction$Texts;)V"⟩
abbrev cX0_isRug : ByteArray := prog_2_method_2_code
def yX0_isRug : MethodName := ⟨RX0, "isRug", "(I)Z"⟩
abbrev cX0_add : ByteArray := prog_2_method_3_code
def yX0_add : MethodName := ⟨RX0, "add", "(II)I"⟩
abbrev cX0_lay : ByteArray := prog_2_method_4_code
def yX0_lay : MethodName := ⟨RX0, "lay", "(III)V"⟩
abbrev cX0_corners : ByteArray := prog_2_method_5_code
def yX0_corners : MethodName := ⟨RX0, "corners", "(I)I"⟩
abbrev cX0_liesOn : ByteArray := prog_2_method_6_code
def yX0_liesOn : MethodName := ⟨RX0, "liesOn", "(II)Z"⟩
abbrev cX0_hasFringeOn : ByteArray := prog_2_method_7_code
def yX0_hasFringeOn : MethodName := ⟨RX0, "hasFringeOn", "(II)Z"⟩
abbrev cX0_layers : ByteArray := prog_2_method_8_code
def yX0_layers : MethodName := ⟨RX0, "layers", "(I)I"⟩
abbrev cX0_says : ByteArray := prog_2_method_9_code
def yX0_says : MethodName := ⟨RX0, "says", "(IIII)I"⟩
abbrev cX0_isAsleep : ByteArray := prog_2_method_10_code
def yX0_isAsleep : MethodName := ⟨RX0, "isAsleep", "(II)Z"⟩
abbrev cX0_admits : ByteArray := prog_2_method_11_code
def yX0_admits : MethodName := ⟨RX0, "admits", "(II)Z"⟩
abbrev cX0_fineOf : ByteArray := prog_2_method_12_code
def yX0_fineOf : MethodName := ⟨RX0, "fineOf", "(III)I"⟩
abbrev cX0_awakeAt : ByteArray := prog_2_method_13_code
def yX0_awakeAt : MethodName := ⟨RX0, "awakeAt", "(I)I"⟩
abbrev cX0_rulerAmong : ByteArray := prog_2_method_14_code
def yX0_rulerAmong : MethodName := ⟨RX0, "rulerAmong", "(II)I"⟩
abbrev cX0_look : ByteArray := prog_2_method_15_code
def yX0_look : MethodName := ⟨RX0, "look", "()V"⟩
abbrev cX0_findRulers : ByteArray := prog_2_method_16_code
def yX0_findRulers : MethodName := ⟨RX0, "findRulers", "()V"⟩
abbrev cX0_letsOn : ByteArray := prog_2_method_17_code
def yX0_letsOn : MethodName := ⟨RX0, "letsOn", "(I)Z"⟩
abbrev cX0_realm : ByteArray := prog_2_method_18_code
def yX0_realm : MethodName := ⟨RX0, "realm", "(I)J"⟩
abbrev cX0_fineOfRealm : ByteArray := prog_2_method_19_code
def yX0_fineOfRealm : MethodName := ⟨RX0, "fineOfRealm", "(I)I"⟩
abbrev cX0_ruledNow : ByteArray := prog_2_method_20_code
def yX0_ruledNow : MethodName := ⟨RX0, "ruledNow", "(I)I"⟩
abbrev cX0_ruledByAny : ByteArray := prog_2_method_21_code
def yX0_ruledByAny : MethodName := ⟨RX0, "ruledByAny", "(I)I"⟩
abbrev cX0_neighbours : ByteArray := prog_2_method_22_code
def yX0_neighbours : MethodName := ⟨RX0, "neighbours", "(I)I"⟩
abbrev cX0_joined : ByteArray := prog_2_method_23_code
def yX0_joined : MethodName := ⟨RX0, "joined", "(I)I"⟩
abbrev cX0_welcome : ByteArray := prog_2_method_24_code
def yX0_welcome : MethodName := ⟨RX0, "welcome", "(I)V"⟩
abbrev cX0_fineOfAll : ByteArray := prog_2_method_25_code
def yX0_fineOfAll : MethodName := ⟨RX0, "fineOfAll", "(II)I"⟩
abbrev cX0_fineWere : ByteArray := prog_2_method_26_code
def yX0_fineWere : MethodName := ⟨RX0, "fineWere", "(II)I"⟩
abbrev cX0_firstOther : ByteArray := prog_2_method_27_code
def yX0_firstOther : MethodName := ⟨RX0, "firstOther", "([III)I"⟩
def RX1 : String := "RugIsJurisdiction$Image"
def TX1 : u_T := fun k => match k with
  | 0 => ("RugIsJurisdiction$Image", "isThere", "Z", false)
  | 1 => ("RugIsJurisdiction$Image", "rugs", "I", false)
  | 2 => ("RugIsJurisdiction$Image", "hour", "I", false)
  | 3 => ("RugIsJurisdiction$Image", "law", "I", false)
  | 4 => ("RugIsJurisdiction$Image", "from", "[I", true)
  | 5 => ("RugIsJurisdiction$Image", "to", "[I", true)
  | _ => ("RugIsJurisdiction$Image", "guests", "[I", true)
def tyX1 : Nat → FieldType := fun k => match k with
  | 0 => .boolean
  | 1 => .int
  | 2 => .int
  | 3 => .int
  | 4 => .array .int
  | 5 => .array .int
  | _ => .array .int
abbrev wsX10 : List Cond := u_ws RX1 TX1 7
theorem nmX1 : ∀ a, a < 7 → ∀ b, b < 7 → a ≠ b → (TX1 a).2.1 ≠ (TX1 b).2.1 := by decide +kernel
theorem tyX1_ok : ∀ k, k < 7 → parseFieldDescriptor (TX1 k).2.2.1 = some (tyX1 k) := by decide +kernel
abbrev cX1_init : ByteArray := prog_3_method_1_code
def yX1_init : MethodName := ⟨RX1, "<init>", "()V"⟩
abbrev cX1_keep : ByteArray := prog_3_method_2_code
def yX1_keep : MethodName := ⟨RX1, "keep", "(LRugIsJurisdiction$Common;)V"⟩
abbrev cX1_restore : ByteArray := prog_3_method_3_code
def yX1_restore : MethodName := ⟨RX1, "restore", "(LRugIsJurisdiction$Common;)V"⟩
def RX2 : String := "RugIsJurisdiction$Lots"
def TX2 : u_T := fun k => match k with
  | 0 => ("RugIsJurisdiction$Lots", "common", "LRugIsJurisdiction$Common;", true)
  | 1 => ("RugIsJurisdiction$Lots", "at", "I", false)
  | 2 => ("RugIsJurisdiction$Lots", "fined", "I", false)
  | _ => ("RugIsJurisdiction$Lots", "borders", "I", false)
def tyX2 : Nat → FieldType := fun k => match k with
  | 0 => .object "RugIsJurisdiction$Common"
  | 1 => .int
  | 2 => .int
  | _ => .int
abbrev wsX20 : List Cond := u_ws RX2 TX2 4
theorem nmX2 : ∀ a, a < 4 → ∀ b, b < 4 → a ≠ b → (TX2 a).2.1 ≠ (TX2 b).2.1 := by decide +kernel
theorem tyX2_ok : ∀ k, k < 4 → parseFieldDescriptor (TX2 k).2.2.1 = some (tyX2 k) := by decide +kernel
abbrev cX2_init : ByteArray := prog_4_method_1_code
def yX2_init : MethodName := ⟨RX2, "<init>", "(LRugIsJurisdiction$Common;)V"⟩
abbrev cX2_stroll : ByteArray := prog_4_method_2_code
def yX2_stroll : MethodName := ⟨RX2, "stroll", "(III)V"⟩
def RX3 : String := "RugIsJurisdiction$Reader"
def TX3 : u_T := fun k => match k with
  | 0 => ("RugIsJurisdiction$Reader", "tape", "LRugIsJurisdiction$Tape;", true)
  | 1 => ("RugIsJurisdiction$Reader", "codes", "[I", true)
  | 2 => ("RugIsJurisdiction$Reader", "ends", "[I", true)
  | 3 => ("RugIsJurisdiction$Reader", "written", "I", false)
  | 4 => ("RugIsJurisdiction$Reader", "at", "I", false)
  | _ => ("RugIsJurisdiction$Reader", "isWrong", "Z", false)
def tyX3 : Nat → FieldType := fun k => match k with
  | 0 => .object "RugIsJurisdiction$Tape"
  | 1 => .array .int
  | 2 => .array .int
  | 3 => .int
  | 4 => .int
  | _ => .boolean
abbrev wsX30 : List Cond := u_ws RX3 TX3 6
theorem nmX3 : ∀ a, a < 6 → ∀ b, b < 6 → a ≠ b → (TX3 a).2.1 ≠ (TX3 b).2.1 := by decide +kernel
theorem tyX3_ok : ∀ k, k < 6 → parseFieldDescriptor (TX3 k).2.2.1 = some (tyX3 k) := by decide +kernel
abbrev cX3_init : ByteArray := prog_5_method_1_code
def yX3_init : MethodName := ⟨RX3, "<init>", "(LRugIsJurisdiction$Tape;)V"⟩
abbrev cX3_fault : ByteArray := prog_5_method_2_code
def yX3_fault : MethodName := ⟨RX3, "fault", "()I"⟩
abbrev cX3_isAt : ByteArray := prog_5_method_3_code
def yX3_isAt : MethodName := ⟨RX3, "isAt", "(I)Z"⟩
abbrev cX3_demand : ByteArray := prog_5_method_4_code
def yX3_demand : MethodName := ⟨RX3, "demand", "(I)V"⟩
abbrev cX3_goOn : ByteArray := prog_5_method_5_code
def yX3_goOn : MethodName := ⟨RX3, "goOn", "()V"⟩
abbrev cX3_write : ByteArray := prog_5_method_6_code
def yX3_write : MethodName := ⟨RX3, "write", "(I)V"⟩
abbrev cX3_readOr : ByteArray := prog_5_method_7_code
def yX3_readOr : MethodName := ⟨RX3, "readOr", "(I)V"⟩
abbrev cX3_readAnd : ByteArray := prog_5_method_8_code
def yX3_readAnd : MethodName := ⟨RX3, "readAnd", "(I)V"⟩
abbrev cX3_readNot : ByteArray := prog_5_method_9_code
def yX3_readNot : MethodName := ⟨RX3, "readNot", "(I)V"⟩
abbrev cX3_readSum : ByteArray := prog_5_method_10_code
def yX3_readSum : MethodName := ⟨RX3, "readSum", "(I)V"⟩
abbrev cX3_readTerm : ByteArray := prog_5_method_11_code
def yX3_readTerm : MethodName := ⟨RX3, "readTerm", "(I)V"⟩
abbrev cX3_readOne : ByteArray := prog_5_method_12_code
def yX3_readOne : MethodName := ⟨RX3, "readOne", "(I)V"⟩
abbrev cX3_opens : ByteArray := prog_5_method_13_code
def yX3_opens : MethodName := ⟨RX3, "opens", "(I)Z"⟩
def RX4 : String := "RugIsJurisdiction$Sheets"
def TX4 : u_T := fun k => match k with
  | 0 => ("RugIsJurisdiction$Sheets", "row", "[[I", true)
  | 1 => ("RugIsJurisdiction$Sheets", "sort", "[I", true)
  | _ => ("RugIsJurisdiction$Sheets", "size", "[I", true)
def tyX4 : Nat → FieldType := fun k => match k with
  | 0 => .array (.array .int)
  | 1 => .array .int
  | _ => .array .int
abbrev wsX40 : List Cond := u_ws RX4 TX4 3
theorem nmX4 : ∀ a, a < 3 → ∀ b, b < 3 → a ≠ b → (TX4 a).2.1 ≠ (TX4 b).2.1 := by decide +kernel
theorem tyX4_ok : ∀ k, k < 3 → parseFieldDescriptor (TX4 k).2.2.1 = some (tyX4 k) := by decide +kernel
abbrev cX4_init : ByteArray := prog_6_method_1_code
def yX4_init : MethodName := ⟨RX4, "<init>", "()V"⟩
abbrev cX4_refuses : ByteArray := prog_6_method_2_code
def yX4_refuses : MethodName := ⟨RX4, "refuses", "(I)I"⟩
abbrev cX4_renew : ByteArray := prog_6_method_3_code
def yX4_renew : MethodName := ⟨RX4, "renew", "(III)V"⟩
abbrev cX4_write : ByteArray := prog_6_method_4_code
def yX4_write : MethodName := ⟨RX4, "write", "(III)V"⟩
def RX5 : String := "RugIsJurisdiction$Tally"
def TX5 : u_T := fun k => match k with
  | 0 => ("RugIsJurisdiction$Tally", "common", "LRugIsJurisdiction$Common;", true)
  | 1 => ("RugIsJurisdiction$Tally", "fined", "I", false)
  | 2 => ("RugIsJurisdiction$Tally", "borders", "I", false)
  | 3 => ("RugIsJurisdiction$Tally", "rugs", "I", false)
  | _ => ("RugIsJurisdiction$Tally", "last", "I", false)
def tyX5 : Nat → FieldType := fun k => match k with
  | 0 => .object "RugIsJurisdiction$Common"
  | 1 => .int
  | 2 => .int
  | 3 => .int
  | _ => .int
abbrev wsX50 : List Cond := u_ws RX5 TX5 5
theorem nmX5 : ∀ a, a < 5 → ∀ b, b < 5 → a ≠ b → (TX5 a).2.1 ≠ (TX5 b).2.1 := by decide +kernel
theorem tyX5_ok : ∀ k, k < 5 → parseFieldDescriptor (TX5 k).2.2.1 = some (tyX5 k) := by decide +kernel
abbrev cX5_init : ByteArray := prog_7_method_1_code
def yX5_init : MethodName := ⟨RX5, "<init>", "(LRugIsJurisdiction$Common;)V"⟩
abbrev cX5_begin : ByteArray := prog_7_method_2_code
def yX5_begin : MethodName := ⟨RX5, "begin", "()V"⟩
abbrev cX5_crosses : ByteArray := prog_7_method_3_code
def yX5_crosses : MethodName := ⟨RX5, "crosses", "(I)Z"⟩
abbrev cX5_isStopped : ByteArray := prog_7_method_4_code
def yX5_isStopped : MethodName := ⟨RX5, "isStopped", "(I)Z"⟩
abbrev cX5_go : ByteArray := prog_7_method_5_code
def yX5_go : MethodName := ⟨RX5, "go", "(I)V"⟩
abbrev cX5_answer : ByteArray := prog_7_method_6_code
def yX5_answer : MethodName := ⟨RX5, "answer", "(I)I"⟩
def RX6 : String := "RugIsJurisdiction$Tape"
def TX6 : u_T := fun k => match k with
  | 0 => ("RugIsJurisdiction$Tape", "bytes", "[I", true)
  | 1 => ("RugIsJurisdiction$Tape", "size", "I", false)
  | 2 => ("RugIsJurisdiction$Tape", "tokens", "[I", true)
  | 3 => ("RugIsJurisdiction$Tape", "places", "[I", true)
  | _ => ("RugIsJurisdiction$Tape", "known", "I", false)
def tyX6 : Nat → FieldType := fun k => match k with
  | 0 => .array .int
  | 1 => .int
  | 2 => .array .int
  | 3 => .array .int
  | _ => .int
abbrev wsX60 : List Cond := u_ws RX6 TX6 5
theorem nmX6 : ∀ a, a < 5 → ∀ b, b < 5 → a ≠ b → (TX6 a).2.1 ≠ (TX6 b).2.1 := by decide +kernel
theorem tyX6_ok : ∀ k, k < 5 → parseFieldDescriptor (TX6 k).2.2.1 = some (tyX6 k) := by decide +kernel
abbrev cX6_init : ByteArray := prog_8_method_1_code
def yX6_init : MethodName := ⟨RX6, "<init>", "()V"⟩
abbrev cX6_add : ByteArray := prog_8_method_2_code
def yX6_add : MethodName := ⟨RX6, "add", "(I)V"⟩
abbrev cX6_split : ByteArray := prog_8_method_3_code
def yX6_split : MethodName := ⟨RX6, "split", "()V"⟩
abbrev cX6_note : ByteArray := prog_8_method_4_code
def yX6_note : MethodName := ⟨RX6, "note", "(II)V"⟩
abbrev cX6_endOf : ByteArray := prog_8_method_5_code
def yX6_endOf : MethodName := ⟨RX6, "endOf", "(I)I"⟩
abbrev cX6_sortOf : ByteArray := prog_8_method_6_code
def yX6_sortOf : MethodName := ⟨RX6, "sortOf", "(I)I"⟩
abbrev cX6_tokenOf : ByteArray := prog_8_method_7_code
def yX6_tokenOf : MethodName := ⟨RX6, "tokenOf", "(II)I"⟩
abbrev cX6_word : ByteArray := prog_8_method_8_code
def yX6_word : MethodName := ⟨RX6, "word", "(II)I"⟩
abbrev cX6_spells : ByteArray := prog_8_method_9_code
def yX6_spells : MethodName := ⟨RX6, "spells", "(Ljava/lang/String;II)Z"⟩
abbrev cX6_spelled : ByteArray := prog_8_method_10_code
def yX6_spelled : MethodName := ⟨RX6, "spelled", "(I)Ljava/lang/String;"⟩
abbrev cX6_number : ByteArray := prog_8_method_11_code
def yX6_number : MethodName := ⟨RX6, "number", "(II)I"⟩
abbrev cX6_sign : ByteArray := prog_8_method_12_code
def yX6_sign : MethodName := ⟨RX6, "sign", "(I)I"⟩
def RX7 : String := "RugIsJurisdiction$Texts"
def TX7 : u_T := fun k => match k with
  | 0 => ("RugIsJurisdiction$Texts", "known", "I", false)
  | 1 => ("RugIsJurisdiction$Texts", "codes", "[[I", true)
  | 2 => ("RugIsJurisdiction$Texts", "ends", "[[I", true)
  | 3 => ("RugIsJurisdiction$Texts", "names", "[I", true)
  | _ => ("RugIsJurisdiction$Texts", "stack", "[I", true)
def tyX7 : Nat → FieldType := fun k => match k with
  | 0 => .int
  | 1 => .array (.array .int)
  | 2 => .array (.array .int)
  | 3 => .array .int
  | _ => .array .int
abbrev wsX70 : List Cond := u_ws RX7 TX7 5
theorem nmX7 : ∀ a, a < 5 → ∀ b, b < 5 → a ≠ b → (TX7 a).2.1 ≠ (TX7 b).2.1 := by decide +kernel
theorem tyX7_ok : ∀ k, k < 5 → parseFieldDescriptor (TX7 k).2.2.1 = some (tyX7 k) := by decide +kernel
abbrev cX7_init : ByteArray := prog_9_method_1_code
def yX7_init : MethodName := ⟨RX7, "<init>", "()V"⟩
abbrev cX7_add : ByteArray := prog_9_method_2_code
def yX7_add : MethodName := ⟨RX7, "add", "([I[I)I"⟩
abbrev cX7_value : ByteArray := prog_9_method_3_code
def yX7_value : MethodName := ⟨RX7, "value", "(II)I"⟩
def RX8 : String := "RugIsJurisdiction$Ways"
def TX8 : u_T := fun k => match k with
  | 0 => ("RugIsJurisdiction$Ways", "common", "LRugIsJurisdiction$Common;", true)
  | 1 => ("RugIsJurisdiction$Ways", "isOpen", "[Z", true)
  | _ => ("RugIsJurisdiction$Ways", "cost", "[I", true)
def tyX8 : Nat → FieldType := fun k => match k with
  | 0 => .object "RugIsJurisdiction$Common"
  | 1 => .array .boolean
  | _ => .array .int
abbrev wsX80 : List Cond := u_ws RX8 TX8 3
theorem nmX8 : ∀ a, a < 3 → ∀ b, b < 3 → a ≠ b → (TX8 a).2.1 ≠ (TX8 b).2.1 := by decide +kernel
theorem tyX8_ok : ∀ k, k < 3 → parseFieldDescriptor (TX8 k).2.2.1 = some (tyX8 k) := by decide +kernel
abbrev cX8_init : ByteArray := prog_10_method_1_code
def yX8_init : MethodName := ⟨RX8, "<init>", "(LRugIsJurisdiction$Common;)V"⟩
abbrev cX8_least : ByteArray := prog_10_method_2_code
def yX8_least : MethodName := ⟨RX8, "least", "(III)I"⟩
abbrev cX8_lowersBeside : ByteArray := prog_10_method_3_code
def yX8_lowersBeside : MethodName := ⟨RX8, "lowersBeside", "(II)Z"⟩
abbrev cX8_stepCost : ByteArray := prog_10_method_4_code
def yX8_stepCost : MethodName := ⟨RX8, "stepCost", "(III)I"⟩
def RX9 : String := "RugIsJurisdiction"
def TX9 : u_T := fun k => match k with
  | 0 => ("RugIsJurisdiction", "texts", "LRugIsJurisdiction$Texts;", true)
  | 1 => ("RugIsJurisdiction", "tape", "LRugIsJurisdiction$Tape;", true)
  | 2 => ("RugIsJurisdiction", "reader", "LRugIsJurisdiction$Reader;", true)
  | 3 => ("RugIsJurisdiction", "common", "LRugIsJurisdiction$Common;", true)
  | 4 => ("RugIsJurisdiction", "tally", "LRugIsJurisdiction$Tally;", true)
  | 5 => ("RugIsJurisdiction", "ways", "LRugIsJurisdiction$Ways;", true)
  | 6 => ("RugIsJurisdiction", "lots", "LRugIsJurisdiction$Lots;", true)
  | 7 => ("RugIsJurisdiction", "kept", "LRugIsJurisdiction$Image;", true)
  | _ => ("RugIsJurisdiction", "sheets", "LRugIsJurisdiction$Sheets;", true)
def tyX9 : Nat → FieldType := fun k => match k with
  | 0 => .object "RugIsJurisdiction$Texts"
  | 1 => .object "RugIsJurisdiction$Tape"
  | 2 => .object "RugIsJurisdiction$Reader"
  | 3 => .object "RugIsJurisdiction$Common"
  | 4 => .object "RugIsJurisdiction$Tally"
  | 5 => .object "RugIsJurisdiction$Ways"
  | 6 => .object "RugIsJurisdiction$Lots"
  | 7 => .object "RugIsJurisdiction$Image"
  | _ => .object "RugIsJurisdiction$Sheets"
abbrev wsX90 : List Cond := u_ws RX9 TX9 9
theorem nmX9 : ∀ a, a < 9 → ∀ b, b < 9 → a ≠ b → (TX9 a).2.1 ≠ (TX9 b).2.1 := by decide +kernel
theorem tyX9_ok : ∀ k, k < 9 → parseFieldDescriptor (TX9 k).2.2.1 = some (tyX9 k) := by decide +kernel
abbrev cX9_init : ByteArray := prog_1_method_1_code
def yX9_init : MethodName := ⟨RX9, "<init>", "()V"⟩
abbrev cX9_count : ByteArray := prog_1_method_2_code
def yX9_count : MethodName := ⟨RX9, "count", "(I)I"⟩
abbrev cX9_strikes : ByteArray := prog_1_method_3_code
def yX9_strikes : MethodName := ⟨RX9, "strikes", "(I)I"⟩
abbrev cX9_feed : ByteArray := prog_1_method_4_code
def yX9_feed : MethodName := ⟨RX9, "feed", "(IIIIII)I"⟩
abbrev cX9_text : ByteArray := prog_1_method_5_code
def yX9_text : MethodName := ⟨RX9, "text", "()I"⟩
abbrev cX9_force : ByteArray := prog_1_method_6_code
def yX9_force : MethodName := ⟨RX9, "force", "(I)I"⟩
abbrev cX9_asks : ByteArray := prog_1_method_7_code
def yX9_asks : MethodName := ⟨RX9, "asks", "(III)I"⟩
abbrev cX9_spread : ByteArray := prog_1_method_8_code
def yX9_spread : MethodName := ⟨RX9, "spread", "(II)I"⟩
abbrev cX9_put : ByteArray := prog_1_method_9_code
def yX9_put : MethodName := ⟨RX9, "put", "(III)I"⟩
abbrev cX9_told : ByteArray := prog_1_method_10_code
def yX9_told : MethodName := ⟨RX9, "told", "(II)I"⟩
abbrev cX9_over : ByteArray := prog_1_method_11_code
def yX9_over : MethodName := ⟨RX9, "over", "(II)I"⟩
abbrev cX9_rules : ByteArray := prog_1_method_12_code
def yX9_rules : MethodName := ⟨RX9, "rules", "(I)J"⟩
abbrev cX9_walk : ByteArray := prog_1_method_13_code
def yX9_walk : MethodName := ⟨RX9, "walk", "(II)I"⟩
abbrev cX9_visit : ByteArray := prog_1_method_14_code
def yX9_visit : MethodName := ⟨RX9, "visit", "(I)I"⟩
abbrev cX9_ball : ByteArray := prog_1_method_15_code
def yX9_ball : MethodName := ⟨RX9, "ball", "(III)I"⟩
abbrev cX9_way : ByteArray := prog_1_method_16_code
def yX9_way : MethodName := ⟨RX9, "way", "(II)I"⟩
abbrev cX9_borders : ByteArray := prog_1_method_17_code
def yX9_borders : MethodName := ⟨RX9, "borders", "(I)I"⟩
abbrev cX9_league : ByteArray := prog_1_method_18_code
def yX9_league : MethodName := ⟨RX9, "league", "(II)I"⟩
abbrev cX9_place : ByteArray := prog_1_method_19_code
def yX9_place : MethodName := ⟨RX9, "place", "(II)I"⟩
abbrev cX9_freest : ByteArray := prog_1_method_20_code
def yX9_freest : MethodName := ⟨RX9, "freest", "(I)I"⟩
abbrev cX9_fold : ByteArray := prog_1_method_21_code
def yX9_fold : MethodName := ⟨RX9, "fold", "(I)I"⟩
abbrev cX9_share : ByteArray := prog_1_method_22_code
def yX9_share : MethodName := ⟨RX9, "share", "(II)J"⟩
abbrev cX9_mean : ByteArray := prog_1_method_23_code
def yX9_mean : MethodName := ⟨RX9, "mean", "(II)J"⟩
abbrev cX9_judge : ByteArray := prog_1_method_24_code
def yX9_judge : MethodName := ⟨RX9, "judge", "(II)I"⟩
abbrev cX9_kinds : ByteArray := prog_1_method_25_code
def yX9_kinds : MethodName := ⟨RX9, "kinds", "(IIII)I"⟩
abbrev cX9_crowds : ByteArray := prog_1_method_26_code
def yX9_crowds : MethodName := ⟨RX9, "crowds", "(IIII)I"⟩
abbrev cX9_where : ByteArray := prog_1_method_27_code
def yX9_where : MethodName := ⟨RX9, "where", "(I)J"⟩
abbrev cX9_laws : ByteArray := prog_1_method_28_code
def yX9_laws : MethodName := ⟨RX9, "laws", "(II)I"⟩
abbrev cX9_film : ByteArray := prog_1_method_29_code
def yX9_film : MethodName := ⟨RX9, "film", "(III)I"⟩
abbrev cX9_drawn : ByteArray := prog_1_method_30_code
def yX9_drawn : MethodName := ⟨RX9, "drawn", "(III)I"⟩
abbrev cX9_odds : ByteArray := prog_1_method_31_code
def yX9_odds : MethodName := ⟨RX9, "odds", "(IIIII)J"⟩
abbrev cX9_image : ByteArray := prog_1_method_32_code
def yX9_image : MethodName := ⟨RX9, "image", "()I"⟩
abbrev cX9_back : ByteArray := prog_1_method_33_code
def yX9_back : MethodName := ⟨RX9, "back", "()I"⟩
abbrev cX9_sheet : ByteArray := prog_1_method_34_code
def yX9_sheet : MethodName := ⟨RX9, "sheet", "(III)I"⟩
abbrev cX9_cell : ByteArray := prog_1_method_35_code
def yX9_cell : MethodName := ⟨RX9, "cell", "(III)I"⟩
abbrev cX9_copy : ByteArray := prog_1_method_36_code
def yX9_copy : MethodName := ⟨RX9, "copy", "(IIIII)I"⟩
abbrev cX9_rugsBy : ByteArray := prog_1_method_37_code
def yX9_rugsBy : MethodName := ⟨RX9, "rugsBy", "(IIII)I"⟩
abbrev cX9_taken : ByteArray := prog_1_method_38_code
def yX9_taken : MethodName := ⟨RX9, "taken", "(II)I"⟩
abbrev cX9_readTape : ByteArray := prog_1_method_39_code
def yX9_readTape : MethodName := ⟨RX9, "readTape", "()I"⟩
abbrev cX9_refusesWalk : ByteArray := prog_1_method_40_code
def yX9_refusesWalk : MethodName := ⟨RX9, "refusesWalk", "(I)I"⟩
abbrev cX9_refusesFines : ByteArray := prog_1_method_41_code
def yX9_refusesFines : MethodName := ⟨RX9, "refusesFines", "(II)I"⟩
abbrev cX9_goThrough : ByteArray := prog_1_method_42_code
def yX9_goThrough : MethodName := ⟨RX9, "goThrough", "(I)I"⟩
abbrev cX9_isByte : ByteArray := prog_1_method_43_code
def yX9_isByte : MethodName := ⟨RX9, "isByte", "(I)Z"⟩
abbrev cX9_isSeed : ByteArray := prog_1_method_44_code
def yX9_isSeed : MethodName := ⟨RX9, "isSeed", "(I)Z"⟩
abbrev cX9_isCellSteps : ByteArray := prog_1_method_45_code
def yX9_isCellSteps : MethodName := ⟨RX9, "isCellSteps", "(I)Z"⟩
abbrev cX9_isCell : ByteArray := prog_1_method_46_code
def yX9_isCell : MethodName := ⟨RX9, "isCell", "(I)Z"⟩
abbrev cX9_columnOf : ByteArray := prog_1_method_47_code
def yX9_columnOf : MethodName := ⟨RX9, "columnOf", "(I)I"⟩
abbrev cX9_rowOf : ByteArray := prog_1_method_48_code
def yX9_rowOf : MethodName := ⟨RX9, "rowOf", "(I)I"⟩
abbrev cX9_areCorners : ByteArray := prog_1_method_49_code
def yX9_areCorners : MethodName := ⟨RX9, "areCorners", "(I)Z"⟩
abbrev cX9_stepFrom : ByteArray := prog_1_method_50_code
def yX9_stepFrom : MethodName := ⟨RX9, "stepFrom", "(II)I"⟩
abbrev cX9_areBeside : ByteArray := prog_1_method_51_code
def yX9_areBeside : MethodName := ⟨RX9, "areBeside", "(II)Z"⟩
abbrev cX9_isWalk : ByteArray := prog_1_method_52_code
def yX9_isWalk : MethodName := ⟨RX9, "isWalk", "([II)Z"⟩
abbrev cX9_isA : ByteArray := prog_1_method_53_code
def yX9_isA : MethodName := ⟨RX9, "isA", "(II)Z"⟩
abbrev cX9_inLowestTerms : ByteArray := prog_1_method_54_code
def yX9_inLowestTerms : MethodName := ⟨RX9, "inLowestTerms", "(III)J"⟩
def RX10 : String := "RugIsJurisdictionModel"
def TX10 : u_T := fun k => match k with
  | 0 => ("RugIsJurisdictionModel", "rugs", "I", false)
  | 1 => ("RugIsJurisdictionModel", "kind", "[I", true)
  | 2 => ("RugIsJurisdictionModel", "moreOf", "[I", true)
  | 3 => ("RugIsJurisdictionModel", "rows", "[I", true)
  | 4 => ("RugIsJurisdictionModel", "hour", "I", false)
  | 5 => ("RugIsJurisdictionModel", "tape", "[I", true)
  | 6 => ("RugIsJurisdictionModel", "taped", "I", false)
  | 7 => ("RugIsJurisdictionModel", "codes", "[I", true)
  | 8 => ("RugIsJurisdictionModel", "starts", "[I", true)
  | 9 => ("RugIsJurisdictionModel", "texts", "I", false)
  | 10 => ("RugIsJurisdictionModel", "rule", "I", false)
  | 11 => ("RugIsJurisdictionModel", "hasImage", "Z", false)
  | 12 => ("RugIsJurisdictionModel", "imageRows", "[I", true)
  | 13 => ("RugIsJurisdictionModel", "imageHeld", "[I", true)
  | 14 => ("RugIsJurisdictionModel", "sheetSort", "[I", true)
  | 15 => ("RugIsJurisdictionModel", "sheetSize", "[I", true)
  | 16 => ("RugIsJurisdictionModel", "cells", "[I", true)
  | 17 => ("RugIsJurisdictionModel", "law", "[I", true)
  | 18 => ("RugIsJurisdictionModel", "at", "I", false)
  | 19 => ("RugIsJurisdictionModel", "begun", "I", false)
  | 20 => ("RugIsJurisdictionModel", "token", "I", false)
  | 21 => ("RugIsJurisdictionModel", "value", "I", false)
  | 22 => ("RugIsJurisdictionModel", "words", "[I", true)
  | 23 => ("RugIsJurisdictionModel", "held", "[I", true)
  | 24 => ("RugIsJurisdictionModel", "heldMany", "I", false)
  | 25 => ("RugIsJurisdictionModel", "opens", "I", false)
  | 26 => ("RugIsJurisdictionModel", "out", "I", false)
  | 27 => ("RugIsJurisdictionModel", "stack", "[I", true)
  | 28 => ("RugIsJurisdictionModel", "named", "[I", true)
  | 29 => ("RugIsJurisdictionModel", "ruler", "[I", true)
  | 30 => ("RugIsJurisdictionModel", "stopAt", "I", false)
  | 31 => ("RugIsJurisdictionModel", "fines", "I", false)
  | 32 => ("RugIsJurisdictionModel", "borders0", "I", false)
  | 33 => ("RugIsJurisdictionModel", "ruling", "I", false)
  | 34 => ("RugIsJurisdictionModel", "weight", "[I", true)
  | 35 => ("RugIsJurisdictionModel", "wayTo", "[I", true)
  | _ => ("RugIsJurisdictionModel", "lastCell", "I", false)
def tyX10 : Nat → FieldType := fun k => match k with
  | 0 => .int
  | 1 => .array .int
  | 2 => .array .int
  | 3 => .array .int
  | 4 => .int
  | 5 => .array .int
  | 6 => .int
  | 7 => .array .int
  | 8 => .array .int
  | 9 => .int
  | 10 => .int
  | 11 => .boolean
  | 12 => .array .int
  | 13 => .array .int
  | 14 => .array .int
  | 15 => .array .int
  | 16 => .array .int
  | 17 => .array .int
  | 18 => .int
  | 19 => .int
  | 20 => .int
  | 21 => .int
  | 22 => .array .int
  | 23 => .array .int
  | 24 => .int
  | 25 => .int
  | 26 => .int
  | 27 => .array .int
  | 28 => .array .int
  | 29 => .array .int
  | 30 => .int
  | 31 => .int
  | 32 => .int
  | 33 => .int
  | 34 => .array .int
  | 35 => .array .int
  | _ => .int
abbrev wsX100 : List Cond := u_ws RX10 TX10 37
theorem nmX10 : ∀ a, a < 37 → ∀ b, b < 37 → a ≠ b → (TX10 a).2.1 ≠ (TX10 b).2.1 := by decide +kernel
theorem tyX10_ok : ∀ k, k < 37 → parseFieldDescriptor (TX10 k).2.2.1 = some (tyX10 k) := by decide +kernel
abbrev cX10_init : ByteArray := prog_12_method_1_code
def yX10_init : MethodName := ⟨RX10, "<init>", "()V"⟩
abbrev cX10_in : ByteArray := prog_12_method_3_code
def yX10_in : MethodName := ⟨RX10, "in", "(III)Z"⟩
abbrev cX10_within : ByteArray := prog_12_method_4_code
def yX10_within : MethodName := ⟨RX10, "within", "(III)I"⟩
abbrev cX10_isRug : ByteArray := prog_12_method_5_code
def yX10_isRug : MethodName := ⟨RX10, "isRug", "(I)Z"⟩
abbrev cX10_isCell : ByteArray := prog_12_method_6_code
def yX10_isCell : MethodName := ⟨RX10, "isCell", "(I)Z"⟩
abbrev cX10_areCorners : ByteArray := prog_12_method_7_code
def yX10_areCorners : MethodName := ⟨RX10, "areCorners", "(I)Z"⟩
abbrev cX10_without0 : ByteArray := prog_12_method_8_code
def yX10_without0 : MethodName := ⟨RX10, "without0", "(II)I"⟩
abbrev cX10_isBeside : ByteArray := prog_12_method_9_code
def yX10_isBeside : MethodName := ⟨RX10, "isBeside", "(II)Z"⟩
abbrev cX10_lies : ByteArray := prog_12_method_10_code
def yX10_lies : MethodName := ⟨RX10, "lies", "(II)Z"⟩
abbrev cX10_isFringe : ByteArray := prog_12_method_11_code
def yX10_isFringe : MethodName := ⟨RX10, "isFringe", "(II)Z"⟩
abbrev cX10_sizeOf : ByteArray := prog_12_method_12_code
def yX10_sizeOf : MethodName := ⟨RX10, "sizeOf", "(I)I"⟩
abbrev cX10_count : ByteArray := prog_12_method_13_code
def yX10_count : MethodName := ⟨RX10, "count", "(I)I"⟩
abbrev cX10_strikes : ByteArray := prog_12_method_14_code
def yX10_strikes : MethodName := ⟨RX10, "strikes", "(I)I"⟩
abbrev cX10_isByte : ByteArray := prog_12_method_15_code
def yX10_isByte : MethodName := ⟨RX10, "isByte", "(I)Z"⟩
abbrev cX10_feed : ByteArray := prog_12_method_16_code
def yX10_feed : MethodName := ⟨RX10, "feed", "(IIIIII)I"⟩
abbrev cX10_wordFrom : ByteArray := prog_12_method_17_code
def yX10_wordFrom : MethodName := ⟨RX10, "wordFrom", "(II)I"⟩
abbrev cX10_next : ByteArray := prog_12_method_18_code
def yX10_next : MethodName := ⟨RX10, "next", "()V"⟩
abbrev cX10_rank : ByteArray := prog_12_method_19_code
def yX10_rank : MethodName := ⟨RX10, "rank", "(I)I"⟩
abbrev cX10_puts : ByteArray := prog_12_method_20_code
def yX10_puts : MethodName := ⟨RX10, "puts", "(I)V"⟩
abbrev cX10_unwinds : ByteArray := prog_12_method_21_code
def yX10_unwinds : MethodName := ⟨RX10, "unwinds", "(I)V"⟩
abbrev cX10_holds : ByteArray := prog_12_method_22_code
def yX10_holds : MethodName := ⟨RX10, "holds", "(I)V"⟩
abbrev cX10_opensOne : ByteArray := prog_12_method_23_code
def yX10_opensOne : MethodName := ⟨RX10, "opensOne", "(I)Z"⟩
abbrev cX10_between : ByteArray := prog_12_method_24_code
def yX10_between : MethodName := ⟨RX10, "between", "(I)Z"⟩
abbrev cX10_signOf : ByteArray := prog_12_method_25_code
def yX10_signOf : MethodName := ⟨RX10, "signOf", "()I"⟩
abbrev cX10_eRead : ByteArray := prog_12_method_26_code
def yX10_eRead : MethodName := ⟨RX10, "eRead", "()Z"⟩
abbrev cX10_text : ByteArray := prog_12_method_27_code
def yX10_text : MethodName := ⟨RX10, "text", "()I"⟩
abbrev cX10_two : ByteArray := prog_12_method_28_code
def yX10_two : MethodName := ⟨RX10, "two", "(III)I"⟩
abbrev cX10_says : ByteArray := prog_12_method_29_code
def yX10_says : MethodName := ⟨RX10, "says", "(I)I"⟩
abbrev cX10_force : ByteArray := prog_12_method_30_code
def yX10_force : MethodName := ⟨RX10, "force", "(I)I"⟩
abbrev cX10_asksOf : ByteArray := prog_12_method_31_code
def yX10_asksOf : MethodName := ⟨RX10, "asksOf", "(III)I"⟩
abbrev cX10_asks : ByteArray := prog_12_method_32_code
def yX10_asks : MethodName := ⟨RX10, "asks", "(III)I"⟩
abbrev cX10_spread : ByteArray := prog_12_method_33_code
def yX10_spread : MethodName := ⟨RX10, "spread", "(II)I"⟩
abbrev cX10_cornersOf : ByteArray := prog_12_method_34_code
def yX10_cornersOf : MethodName := ⟨RX10, "cornersOf", "(I)I"⟩
abbrev cX10_put : ByteArray := prog_12_method_35_code
def yX10_put : MethodName := ⟨RX10, "put", "(III)I"⟩
abbrev cX10_isNursed : ByteArray := prog_12_method_36_code
def yX10_isNursed : MethodName := ⟨RX10, "isNursed", "(II)Z"⟩
abbrev cX10_isAsleep : ByteArray := prog_12_method_37_code
def yX10_isAsleep : MethodName := ⟨RX10, "isAsleep", "(I)Z"⟩
abbrev cX10_rulesBut : ByteArray := prog_12_method_38_code
def yX10_rulesBut : MethodName := ⟨RX10, "rulesBut", "(I)V"⟩
abbrev cX10_finedBy : ByteArray := prog_12_method_39_code
def yX10_finedBy : MethodName := ⟨RX10, "finedBy", "(II)I"⟩
abbrev cX10_finedAt : ByteArray := prog_12_method_40_code
def yX10_finedAt : MethodName := ⟨RX10, "finedAt", "(I)I"⟩
abbrev cX10_isLetOn : ByteArray := prog_12_method_41_code
def yX10_isLetOn : MethodName := ⟨RX10, "isLetOn", "(I)Z"⟩
abbrev cX10_ruledBy : ByteArray := prog_12_method_42_code
def yX10_ruledBy : MethodName := ⟨RX10, "ruledBy", "(I)I"⟩
abbrev cX10_ruledNow : ByteArray := prog_12_method_43_code
def yX10_ruledNow : MethodName := ⟨RX10, "ruledNow", "(I)I"⟩
abbrev cX10_told : ByteArray := prog_12_method_44_code
def yX10_told : MethodName := ⟨RX10, "told", "(II)I"⟩
abbrev cX10_over : ByteArray := prog_12_method_45_code
def yX10_over : MethodName := ⟨RX10, "over", "(II)I"⟩
abbrev cX10_rules : ByteArray := prog_12_method_46_code
def yX10_rules : MethodName := ⟨RX10, "rules", "(I)J"⟩
abbrev cX10_walkWrong : ByteArray := prog_12_method_47_code
def yX10_walkWrong : MethodName := ⟨RX10, "walkWrong", "(I)I"⟩
abbrev cX10_goesOver : ByteArray := prog_12_method_48_code
def yX10_goesOver : MethodName := ⟨RX10, "goesOver", "(I)V"⟩
abbrev cX10_walk : ByteArray := prog_12_method_49_code
def yX10_walk : MethodName := ⟨RX10, "walk", "(II)I"⟩
abbrev cX10_visit : ByteArray := prog_12_method_50_code
def yX10_visit : MethodName := ⟨RX10, "visit", "(I)I"⟩
abbrev cX10_besideOf : ByteArray := prog_12_method_51_code
def yX10_besideOf : MethodName := ⟨RX10, "besideOf", "(II)I"⟩
abbrev cX10_ball : ByteArray := prog_12_method_52_code
def yX10_ball : MethodName := ⟨RX10, "ball", "(III)I"⟩
abbrev cX10_relaxes : ByteArray := prog_12_method_53_code
def yX10_relaxes : MethodName := ⟨RX10, "relaxes", "(IIZ)Z"⟩
abbrev cX10_way : ByteArray := prog_12_method_54_code
def yX10_way : MethodName := ⟨RX10, "way", "(II)I"⟩
abbrev cX10_besides : ByteArray := prog_12_method_55_code
def yX10_besides : MethodName := ⟨RX10, "besides", "(I)I"⟩
abbrev cX10_borders : ByteArray := prog_12_method_56_code
def yX10_borders : MethodName := ⟨RX10, "borders", "(I)I"⟩
abbrev cX10_league : ByteArray := prog_12_method_57_code
def yX10_league : MethodName := ⟨RX10, "league", "(II)I"⟩
abbrev cX10_place : ByteArray := prog_12_method_58_code
def yX10_place : MethodName := ⟨RX10, "place", "(II)I"⟩
abbrev cX10_finedAll : ByteArray := prog_12_method_59_code
def yX10_finedAll : MethodName := ⟨RX10, "finedAll", "(I)I"⟩
abbrev cX10_freest : ByteArray := prog_12_method_60_code
def yX10_freest : MethodName := ⟨RX10, "freest", "(I)I"⟩
abbrev cX10_fold : ByteArray := prog_12_method_61_code
def yX10_fold : MethodName := ⟨RX10, "fold", "(I)I"⟩
abbrev cX10_lowest : ByteArray := prog_12_method_62_code
def yX10_lowest : MethodName := ⟨RX10, "lowest", "(JJI)J"⟩
abbrev cX10_share : ByteArray := prog_12_method_63_code
def yX10_share : MethodName := ⟨RX10, "share", "(II)J"⟩
abbrev cX10_mean : ByteArray := prog_12_method_64_code
def yX10_mean : MethodName := ⟨RX10, "mean", "(II)J"⟩
abbrev cX10_sheetWrong : ByteArray := prog_12_method_65_code
def yX10_sheetWrong : MethodName := ⟨RX10, "sheetWrong", "(I)I"⟩
abbrev cX10_toldWrong : ByteArray := prog_12_method_66_code
def yX10_toldWrong : MethodName := ⟨RX10, "toldWrong", "(II)I"⟩
abbrev cX10_unlike : ByteArray := prog_12_method_67_code
def yX10_unlike : MethodName := ⟨RX10, "unlike", "(II)I"⟩
abbrev cX10_judge : ByteArray := prog_12_method_68_code
def yX10_judge : MethodName := ⟨RX10, "judge", "(II)I"⟩
abbrev cX10_kinds : ByteArray := prog_12_method_69_code
def yX10_kinds : MethodName := ⟨RX10, "kinds", "(IIII)I"⟩
abbrev cX10_crowds : ByteArray := prog_12_method_70_code
def yX10_crowds : MethodName := ⟨RX10, "crowds", "(IIII)I"⟩
abbrev cX10_where : ByteArray := prog_12_method_71_code
def yX10_where : MethodName := ⟨RX10, "where", "(I)J"⟩
abbrev cX10_laws : ByteArray := prog_12_method_72_code
def yX10_laws : MethodName := ⟨RX10, "laws", "(II)I"⟩
abbrev cX10_film : ByteArray := prog_12_method_73_code
def yX10_film : MethodName := ⟨RX10, "film", "(III)I"⟩
abbrev cX10_walksBy : ByteArray := prog_12_method_74_code
def yX10_walksBy : MethodName := ⟨RX10, "walksBy", "(II)V"⟩
abbrev cX10_drawn : ByteArray := prog_12_method_75_code
def yX10_drawn : MethodName := ⟨RX10, "drawn", "(III)I"⟩
abbrev cX10_odds : ByteArray := prog_12_method_76_code
def yX10_odds : MethodName := ⟨RX10, "odds", "(IIIII)J"⟩
abbrev cX10_image : ByteArray := prog_12_method_77_code
def yX10_image : MethodName := ⟨RX10, "image", "()I"⟩
abbrev cX10_back : ByteArray := prog_12_method_78_code
def yX10_back : MethodName := ⟨RX10, "back", "()I"⟩
abbrev cX10_sheet : ByteArray := prog_12_method_79_code
def yX10_sheet : MethodName := ⟨RX10, "sheet", "(III)I"⟩
abbrev cX10_cell : ByteArray := prog_12_method_80_code
def yX10_cell : MethodName := ⟨RX10, "cell", "(III)I"⟩
abbrev cX10_copy : ByteArray := prog_12_method_81_code
def yX10_copy : MethodName := ⟨RX10, "copy", "(IIIII)I"⟩
abbrev cX10_rugsBy : ByteArray := prog_12_method_82_code
def yX10_rugsBy : MethodName := ⟨RX10, "rugsBy", "(IIII)I"⟩
abbrev cX10_isUnder : ByteArray := prog_12_method_83_code
def yX10_isUnder : MethodName := ⟨RX10, "isUnder", "(II)Z"⟩
abbrev cX10_taken : ByteArray := prog_12_method_84_code
def yX10_taken : MethodName := ⟨RX10, "taken", "(II)I"⟩
def RJ11 : String := "java/lang/Character"
def TJ11 : u_T := fun k => match k with
  | _ => ("", "", "", false)
def tyJ11 : Nat → FieldType := fun k => match k with
  | _ => .int
abbrev wsJ110 : List Cond := u_ws RJ11 TJ11 0
theorem nmJ11 : ∀ a, a < 0 → ∀ b, b < 0 → a ≠ b → (TJ11 a).2.1 ≠ (TJ11 b).2.1 := by decide +kernel
theorem tyJ11_ok : ∀ k, k < 0 → parseFieldDescriptor (TJ11 k).2.2.1 = some (tyJ11 k) := by decide +kernel
abbrev cJ11_isValidCodePoint_9a6ad : ByteArray := prog_13_method_11_code
def yJ11_isValidCodePoint_9a6ad : MethodName := ⟨RJ11, "isValidCodePoint", "(I)Z"⟩
abbrev cJ11_highSurrogate_5068e : ByteArray := prog_13_method_28_code
def yJ11_highSurrogate_5068e : MethodName := ⟨RJ11, "highSurrogate", "(I)C"⟩
abbrev cJ11_lowSurrogate_5068e : ByteArray := prog_13_method_29_code
def yJ11_lowSurrogate_5068e : MethodName := ⟨RJ11, "lowSurrogate", "(I)C"⟩
def RJ9 : String := "java/lang/Math"
def TJ9 : u_T := fun k => match k with
  | _ => ("", "", "", false)
def tyJ9 : Nat → FieldType := fun k => match k with
  | _ => .int
abbrev wsJ90 : List Cond := u_ws RJ9 TJ9 0
theorem nmJ9 : ∀ a, a < 0 → ∀ b, b < 0 → a ≠ b → (TJ9 a).2.1 ≠ (TJ9 b).2.1 := by decide +kernel
theorem tyJ9_ok : ∀ k, k < 0 → parseFieldDescriptor (TJ9 k).2.2.1 = some (tyJ9 k) := by decide +kernel
abbrev cJ9_abs_0f7a4 : ByteArray := prog_14_method_59_code
def yJ9_abs_0f7a4 : MethodName := ⟨RJ9, "abs", "(I)I"⟩
abbrev cJ9_max_7cf53 : ByteArray := prog_14_method_65_code
def yJ9_max_7cf53 : MethodName := ⟨RJ9, "max", "(II)I"⟩
abbrev cJ9_min_7cf53 : ByteArray := prog_14_method_69_code
def yJ9_min_7cf53 : MethodName := ⟨RJ9, "min", "(II)I"⟩
def RJ0 : String := "java/lang/String"
def TJ0 : u_T := fun k => match k with
  | _ => ("", "", "", false)
def tyJ0 : Nat → FieldType := fun k => match k with
  | _ => .int
abbrev wsJ00 : List Cond := u_ws RJ0 TJ0 0
theorem nmJ0 : ∀ a, a < 0 → ∀ b, b < 0 → a ≠ b → (TJ0 a).2.1 ≠ (TJ0 b).2.1 := by decide +kernel
theorem tyJ0_ok : ∀ k, k < 0 → parseFieldDescriptor (TJ0 k).2.2.1 = some (tyJ0 k) := by decide +kernel
abbrev cJ0_length_8abf5 : ByteArray := prog_15_method_54_code
def yJ0_length_8abf5 : MethodName := ⟨RJ0, "length", "()I"⟩
abbrev cJ0_charAt_5068e : ByteArray := prog_15_method_56_code
def yJ0_charAt_5068e : MethodName := ⟨RJ0, "charAt", "(I)C"⟩
abbrev cJ0_indexOf_0f7a4 : ByteArray := prog_15_method_79_code
def yJ0_indexOf_0f7a4 : MethodName := ⟨RJ0, "indexOf", "(I)I"⟩
abbrev cJ0_indexOf_7cf53 : ByteArray := prog_15_method_80_code
def yJ0_indexOf_7cf53 : MethodName := ⟨RJ0, "indexOf", "(II)I"⟩
abbrev cJ0_coder_7d493 : ByteArray := prog_15_method_152_code
def yJ0_coder_7d493 : MethodName := ⟨RJ0, "coder", "()B"⟩
abbrev cJ0_isLatin1_aae02 : ByteArray := prog_15_method_154_code
def yJ0_isLatin1_aae02 : MethodName := ⟨RJ0, "isLatin1", "()Z"⟩
abbrev cJ0_checkIndex_df160 : ByteArray := prog_15_method_155_code
def yJ0_checkIndex_df160 : MethodName := ⟨RJ0, "checkIndex", "(II)V"⟩
abbrev cJ0_checkBoundsBeginEnd_23922 : ByteArray := prog_15_method_158_code
def yJ0_checkBoundsBeginEnd_23922 : MethodName := ⟨RJ0, "checkBoundsBeginEnd", "(III)V"⟩
def RJ1 : String := "java/lang/StringLatin1"
def TJ1 : u_T := fun k => match k with
  | _ => ("", "", "", false)
def tyJ1 : Nat → FieldType := fun k => match k with
  | _ => .int
abbrev wsJ10 : List Cond := u_ws RJ1 TJ1 0
theorem nmJ1 : ∀ a, a < 0 → ∀ b, b < 0 → a ≠ b → (TJ1 a).2.1 ≠ (TJ1 b).2.1 := by decide +kernel
theorem tyJ1_ok : ∀ k, k < 0 → parseFieldDescriptor (TJ1 k).2.2.1 = some (tyJ1 k) := by decide +kernel
abbrev cJ1_charAt_3b067 : ByteArray := prog_16_method_2_code
def yJ1_charAt_3b067 : MethodName := ⟨RJ1, "charAt", "([BI)C"⟩
abbrev cJ1_canEncode_9a6ad : ByteArray := prog_16_method_4_code
def yJ1_canEncode_9a6ad : MethodName := ⟨RJ1, "canEncode", "(I)Z"⟩
abbrev cJ1_indexOf_4cfef : ByteArray := prog_16_method_22_code
def yJ1_indexOf_4cfef : MethodName := ⟨RJ1, "indexOf", "([BIII)I"⟩
abbrev cJ1_indexOfChar_4cfef : ByteArray := prog_16_method_23_code
def yJ1_indexOfChar_4cfef : MethodName := ⟨RJ1, "indexOfChar", "([BIII)I"⟩
def RJ2 : String := "java/lang/StringUTF16"
def TJ2 : u_T := fun k => match k with
  | _ => ("", "", "", false)
def tyJ2 : Nat → FieldType := fun k => match k with
  | _ => .int
abbrev wsJ20 : List Cond := u_ws RJ2 TJ2 0
theorem nmJ2 : ∀ a, a < 0 → ∀ b, b < 0 → a ≠ b → (TJ2 a).2.1 ≠ (TJ2 b).2.1 := by decide +kernel
theorem tyJ2_ok : ∀ k, k < 0 → parseFieldDescriptor (TJ2 k).2.2.1 = some (tyJ2 k) := by decide +kernel
abbrev cJ2_getChar_3b067 : ByteArray := prog_17_method_5_code
def yJ2_getChar_3b067 : MethodName := ⟨RJ2, "getChar", "([BI)C"⟩
abbrev cJ2_length_9d52b : ByteArray := prog_17_method_6_code
def yJ2_length_9d52b : MethodName := ⟨RJ2, "length", "([B)I"⟩
abbrev cJ2_indexOf_4cfef : ByteArray := prog_17_method_40_code
def yJ2_indexOf_4cfef : MethodName := ⟨RJ2, "indexOf", "([BIII)I"⟩
abbrev cJ2_indexOfChar_4cfef : ByteArray := prog_17_method_47_code
def yJ2_indexOfChar_4cfef : MethodName := ⟨RJ2, "indexOfChar", "([BIII)I"⟩
abbrev cJ2_indexOfCharUnsafe_4cfef : ByteArray := prog_17_method_48_code
def yJ2_indexOfCharUnsafe_4cfef : MethodName := ⟨RJ2, "indexOfCharUnsafe", "([BIII)I"⟩
abbrev cJ2_indexOfSupplementary_4cfef : ByteArray := prog_17_method_49_code
def yJ2_indexOfSupplementary_4cfef : MethodName := ⟨RJ2, "indexOfSupplementary", "([BIII)I"⟩
abbrev cJ2_charAt_3b067 : ByteArray := prog_17_method_83_code
def yJ2_charAt_3b067 : MethodName := ⟨RJ2, "charAt", "([BI)C"⟩
abbrev cJ2_checkIndex_2214a : ByteArray := prog_17_method_91_code
def yJ2_checkIndex_2214a : MethodName := ⟨RJ2, "checkIndex", "(I[B)V"⟩
abbrev cJ2_checkBoundsBeginEnd_d044e : ByteArray := prog_17_method_93_code
def yJ2_checkBoundsBeginEnd_d044e : MethodName := ⟨RJ2, "checkBoundsBeginEnd", "(II[B)V"⟩
def RJ10 : String := "java/lang/System"
def TJ10 : u_T := fun k => match k with
  | _ => ("", "", "", false)
def tyJ10 : Nat → FieldType := fun k => match k with
  | _ => .int
abbrev wsJ100 : List Cond := u_ws RJ10 TJ10 0
theorem nmJ10 : ∀ a, a < 0 → ∀ b, b < 0 → a ≠ b → (TJ10 a).2.1 ≠ (TJ10 b).2.1 := by decide +kernel
theorem tyJ10_ok : ∀ k, k < 0 → parseFieldDescriptor (TJ10 k).2.2.1 = some (tyJ10 k) := by decide +kernel
def RJ3 : String := "jdk/internal/util/Preconditions"
def TJ3 : u_T := fun k => match k with
  | _ => ("", "", "", false)
def tyJ3 : Nat → FieldType := fun k => match k with
  | _ => .int
abbrev wsJ30 : List Cond := u_ws RJ3 TJ3 0
theorem nmJ3 : ∀ a, a < 0 → ∀ b, b < 0 → a ≠ b → (TJ3 a).2.1 ≠ (TJ3 b).2.1 := by decide +kernel
theorem tyJ3_ok : ∀ k, k < 0 → parseFieldDescriptor (TJ3 k).2.2.1 = some (tyJ3 k) := by decide +kernel
abbrev cJ3_checkIndex_8e157 : ByteArray := prog_19_method_11_code
def yJ3_checkIndex_8e157 : MethodName := ⟨RJ3, "checkIndex", "(IILjava/util/function/BiFunction;)I"⟩
abbrev cJ3_checkFromToIndex_8c36e : ByteArray := prog_19_method_12_code
def yJ3_checkFromToIndex_8c36e : MethodName := ⟨RJ3, "checkFromToIndex", "(IIILjava/util/function/BiFunction;)I"⟩
def RL : String := "RugIsJurisdictionLaw"
abbrev cL_law : ByteArray := code
def yL_law : MethodName := ⟨RL, "law", "([I)Z"⟩
abbrev vwCl : List vw_C := [(RX0, TX0, 12), (RX1, TX1, 7), (RX2, TX2, 4), (RX3, TX3, 6), (RX4, TX4, 3), (RX5, TX5, 5), (RX6, TX6, 5), (RX7, TX7, 5), (RX8, TX8, 3), (RX9, TX9, 9), (RX10, TX10, 37)]
