/-! ===== the judgement: a machine at a place of a method, over cells of a known shape and a memory of ints ===== -/
def ax_T : List Cond := lw_tbl.filter goodWord
theorem ax_in {w : Cond} (h : w ∈ tables_1) (hg : goodWord w = true) : w ∈ ax_T := List.mem_filter.mpr ⟨by unfold lw_tbl; exact List.mem_append_right _ h, hg⟩
theorem ax_in2 {w : Cond} (h : w ∈ lw_tbl) (hg : goodWord w = true) : w ∈ ax_T := List.mem_filter.mpr ⟨h, hg⟩
abbrev ax_M : Type := Nat → Nat → Int32
/-- a cell: an object (its class, its fields: an int, null, a cell), a row of ints or booleans (which, how long), a row of rows (the first of them, how many) -/
abbrev ax_E : Type := (Nat × List (Option (Option Nat))) ⊕ ((Nat × Nat) ⊕ (Nat × Nat))
/-- where the cells begin; the classes; the rows' classes; where the texts and their bytes lie; the script: where, how long, what -/
abbrev ax_G : Type := Nat × (va_G × ((Nat → ClassId) × ((Nat → Nat) × ((Nat → Nat) × (Nat × (Nat × (Nat → Int32)))))))
def ax_w (μ : ax_M) (k i : Nat) (v : Int32) : ax_M := fun k' i' => if k' = k then (if i' = i then v else μ k' i') else μ k' i'
def ax_z (μ : ax_M) (k : Nat) : ax_M := fun k' i' => if k' = k then 0 else μ k' i'
def ax_zz (μ : ax_M) (k n : Nat) : ax_M := fun k' i' => if k ≤ k' ∧ k' < k + n then 0 else μ k' i'
def ax_cp (μ : ax_M) (a sp b dp n : Nat) : ax_M := fun k' i' => if k' = b then (va_cpy (μ a) (μ b) sp dp n i') else μ k' i'
def ax_fv (z : Nat) (μ : ax_M) (k j : Nat) (f : Option (Option Nat)) : Value := match f with
  | none => .int (μ k j)
  | some none => .null
  | some (some q) => .ref (z + q)
def ax_fs (z : Nat) (μ : ax_M) (k : Nat) (fs : List (Option (Option Nat))) : List Value := fs.mapIdx (fun j f => ax_fv z μ k j f)
def ax_en (G : ax_G) (μ : ax_M) (k : Nat) (e : ax_E) : va_E := match e with
  | .inl o => .inr (o.1, ax_fs G.1 μ k o.2)
  | .inr (.inl a) => .inl (G.2.2.1 a.1, (a.2, .inl (μ k)))
  | .inr (.inr b) => .inl (G.2.2.1 2, (b.2, .inr (.inr (.inr (.inr (fun i => if i < b.2 then some (G.1 + (b.1 + i)) else none))))))
def ax_H (G : ax_G) (sh : List ax_E) (μ : ax_M) (H : Heap) : Prop := H.size = G.1 + sh.length ∧ ∀ (k : Nat) (e : ax_E), sh[k]? = some e → va_at G.2.1 vwCl (G.1 + k, ax_en G μ k e) H
def ax_ty : List FieldType := [.int, .boolean, .array .int]
def ax_tys (G : ax_G) : List (ClassId × FieldType) := [(G.2.2.1 0, .int), (G.2.2.1 1, .boolean), (G.2.2.1 2, .array .int)]
def ax_strs : List (String × Nat × String × List Int32) := [("RugIsJurisdiction", 78, "fines 1 + guests ; admits guests < 20 ; sleeps hour < 6 ;", [102, 105, 110, 101, 115, 32, 49, 32, 43, 32, 103, 117, 101, 115, 116, 115, 32, 59, 32, 97, 100, 109, 105, 116, 115, 32, 103, 117, 101, 115, 116, 115, 32, 60, 32, 50, 48, 32, 59, 32, 115, 108, 101, 101, 112, 115, 32, 104, 111, 117, 114, 32, 60, 32, 54, 32, 59]), ("RugIsJurisdiction$Tape", 70, "column", [99, 111, 108, 117, 109, 110]), ("RugIsJurisdiction$Tape", 72, "row", [114, 111, 119]), ("RugIsJurisdiction$Tape", 74, "hour", [104, 111, 117, 114]), ("RugIsJurisdiction$Tape", 76, "guests", [103, 117, 101, 115, 116, 115]), ("RugIsJurisdiction$Tape", 78, "size", [115, 105, 122, 101]), ("RugIsJurisdiction$Tape", 79, "more", [109, 111, 114, 101]), ("RugIsJurisdiction$Tape", 81, "or", [111, 114]), ("RugIsJurisdiction$Tape", 83, "and", [97, 110, 100]), ("RugIsJurisdiction$Tape", 85, "not", [110, 111, 116]), ("RugIsJurisdiction$Tape", 87, "fines", [102, 105, 110, 101, 115]), ("RugIsJurisdiction$Tape", 89, "admits", [97, 100, 109, 105, 116, 115]), ("RugIsJurisdiction$Tape", 91, "sleeps", [115, 108, 101, 101, 112, 115]), ("RugIsJurisdiction$Tape", 93, "<=+-*();", [60, 61, 43, 45, 42, 40, 41, 59])]
def ax_nests : List (String × Nat × MethodName × String) := [("RugIsJurisdiction", 9, ⟨"RugIsJurisdiction$Texts", "<init>", "()V"⟩, "RugIsJurisdiction"), ("RugIsJurisdiction", 18, ⟨"RugIsJurisdiction$Tape", "<init>", "()V"⟩, "RugIsJurisdiction"), ("RugIsJurisdiction", 66, ⟨"RugIsJurisdiction$Image", "<init>", "()V"⟩, "RugIsJurisdiction"), ("RugIsJurisdiction$Common", 51, ⟨"RugIsJurisdiction", "columnOf", "(I)I"⟩, "RugIsJurisdiction"), ("RugIsJurisdiction$Common", 55, ⟨"RugIsJurisdiction", "rowOf", "(I)I"⟩, "RugIsJurisdiction"), ("RugIsJurisdiction$Common", 86, ⟨"RugIsJurisdiction", "isA", "(II)Z"⟩, "RugIsJurisdiction"), ("RugIsJurisdiction$Ways", 37, ⟨"RugIsJurisdiction", "stepFrom", "(II)I"⟩, "RugIsJurisdiction"), ("RugIsJurisdiction$Common", 114, ⟨"RugIsJurisdiction", "stepFrom", "(II)I"⟩, "RugIsJurisdiction"), ("RugIsJurisdiction$Lots", 37, ⟨"RugIsJurisdiction", "stepFrom", "(II)I"⟩, "RugIsJurisdiction")]
def ax_len : List Nat := ax_strs.map (fun q => q.2.2.2.length)
def ax_byt : List (List Int32) := ax_strs.map (fun q => q.2.2.2)
/-- what lies below the cells: the texts, the JDK's statics -/
def ax_O (G : ax_G) (s : State) (H : Heap) : Prop := vk_S ax_strs.length ax_len ax_byt G.2.2.2.1 G.2.2.2.2.1 (fun q => G.1 ≤ q) s H ∧ (∀ (i : Nat) (q : String × Nat × String × List Int32), ax_strs[i]? = some q → vk_R q.1 q.2.1 q.2.2.1 (G.2.2.2.1 i) s) ∧ va_Z "java/lang/String" "COMPACT_STRINGS" "Z" (.int 1) (fun q => G.1 ≤ q) s H ∧ (∃ v : Value, (v = .null ∨ ∃ a, v = .ref a) ∧ va_Z "jdk/internal/util/Preconditions" "SIOOBE_FORMATTER" "Ljava/util/function/BiFunction;" v (fun q => G.1 ≤ q) s H) ∧ (∀ q ∈ ax_nests, va_Nw (.methodLinkNest q.1 q.2.1 q.2.2.1 q.2.2.2) s) ∧ (Cond.arrayOver (.array .int)).before #[] s = true ∧ va_X G.2.2.2.2.2.1 G.2.2.2.2.2.2.1 G.2.2.2.2.2.2.2 s H ∧ G.2.2.2.2.2.1 < G.1
theorem ax_O.moved {G : ax_G} {u U : State} {H : Heap} (hW : u.WarmedH U.vm) (h : ax_O G u H) : ax_O G U H := by
  obtain ⟨h1, h2, h3, ⟨v, h4, h5⟩, h6, h7, h8, h9⟩ := h
  exact ⟨vk_S.moved hW.alike h1, fun i q hq => vk_R.warm hW (h2 i q hq), va_Z.moved hW.alike h3, ⟨v, h4, va_Z.moved hW.alike h5⟩, fun q hq => va_Nw.warmM hW (h6 q hq), Jvm.Stand.arrayOver_alikeB hW.alike h7, va_X.moved hW.alike h8, h9⟩
theorem ax_O.kept {G : ax_G} {U : State} {H H1 : Heap} (h : ax_O G U H) (hq : ∀ a : Nat, a < G.1 → H1[a]? = H[a]?) : ax_O G U H1 := by
  obtain ⟨h1, h2, h3, ⟨v, h4, h5⟩, h6, h7, h8, h9⟩ := h
  have hq' : ∀ a : Nat, a < H.size → ¬ (G.1 ≤ a) → H1[a]? = H[a]? := fun a _ h => hq a (Nat.not_le.mp h)
  exact ⟨vk_S.kept h1 hq', h2, va_Z.kept h3 hq', ⟨v, h4, va_Z.kept h5 hq'⟩, h6, h7, va_X.kept h8 (hq _ h9), h9⟩
def ax_W (G : ax_G) (sh : List ax_E) (μ : ax_M) (s : State) (H : Heap) : Prop := ax_H G sh μ H ∧ va_K G.2.1 vwCl (ax_tys G) s ∧ ax_O G s H
def ax_e1 (e : ax_E) : Nat := match e with
  | .inl o => o.2.length
  | .inr (.inl a) => a.2
  | .inr (.inr b) => b.2
def ax_sl (sh : List ax_E) : Nat := (sh.map ax_e1).sum
/-- what a place of a method takes from its start -/
def ax_C (own : String) (b : ByteArray) (nL : Nat) (rt : Option FieldType) (ini : Bool) (d : Nat) (p : Program) (R : Room) (s : State) (m : MethodId) (args : Array Value) (meth : Method) (c : Code) : Prop :=
  p.tables.exec = Jvm.exec ∧ c.code = b ∧ c.maxLocals = nL ∧ meth.sig.returnType = rt ∧ meth.locks = false ∧ (ini = true → meth.name = "<init>") ∧ s.vm.findClass own = some m.cls ∧ (∀ w ∈ ax_T, w.before args s = true) ∧ d ≤ R.frames ∧ 40 * d ≤ R.locals
abbrev ax_R : Type := Option Value × List ax_E × ax_M
def ax_Q (G : ax_G) (r : ax_R) : Array Value → State → Outcome → State → Prop := fun _ st o t => o = .returned r.1 ∧ ax_H G r.2.1 r.2.2 t.heap ∧ ∀ q, q < G.1 → t.heap[q]? = st.heap[q]?
def ax_X (G : ax_G) (l : Launch) (own : String) (b : ByteArray) (nL : Nat) (rt : Option FieldType) (ini : Bool) (d : Nat) (r : ax_R) (pc : Nat) (lv : List (Nat × Value)) (st : List Value) (sh : List ax_E) (μ : ax_M) : Prop :=
  (sh.length ≤ r.2.1.length ∧ ax_sl sh ≤ ax_sl r.2.1) ∧ ∀ (p : Program) (e : Env) (R : Room) (s : State) (m : MethodId) (args : Array Value) (below : List Frame) (meth : Method) (c : Code) (H : Heap) (locs : List Loc) (cells slots mc ms : Nat) (ls : Array Slot),
    ax_C own b nL rt ini d p R s m args meth c → mc ≤ R.cells → ms ≤ R.slots → cells + r.2.1.length = mc + sh.length → slots + ax_sl r.2.1 = ms + ax_sl sh →
    ax_W G sh μ s H → (∀ q, q < G.1 → H[q]? = s.heap[q]?) → (∀ q ∈ locs, G.1 ≤ q.base) → lv_has ls nL lv →
    W p l e R s m args below meth c H locs cells slots (MQ below (ax_Q G r) args s mc ms (fun q => G.1 ≤ q)) (F0 m pc ls st)
def ax_rm (d mc ms : Nat) : Room := { frames := d, cells := mc, slots := ms, locals := 40 * d }
/-- a method's contract -/
def ax_A (G : ax_G) (l : Launch) (y : MethodName) (b : ByteArray) (nL : Nat) (rt : Option FieldType) (d : Nat) (args : List Value) (sh : List ax_E) (μ : ax_M) (r : ax_R) : Prop :=
  (sh.length ≤ r.2.1.length ∧ ax_sl sh ≤ ax_sl r.2.1) ∧ Met l y (.code y b nL rt :: ax_T) (ax_rm d (r.2.1.length - sh.length) (ax_sl r.2.1 - ax_sl sh)) (va_Pc args (fun U => ax_W G sh μ U U.heap)) (ax_Q G r) (r.2.1.length - sh.length) (ax_sl r.2.1 - ax_sl sh) (fun q => G.1 ≤ q)
set_option maxHeartbeats 4000000 in
theorem ax_A.of {G : ax_G} {l : Launch} {y : MethodName} {b : ByteArray} {nL : Nat} {rt : Option FieldType} {d : Nat} {args : List Value} {sh : List ax_E} {μ : ax_M} {r : ax_R} (ini : Bool) (hy : plainName y.cls = true) (hini : ini = true → y.name = "<init>") (hn : (lg_sl args).length ≤ nL)
    (h : ax_X G l y.cls b nL rt ini d r 0 (lv_args 0 args) [] sh μ) : ax_A G l y b nL rt d args sh μ r := by
  refine ⟨h.1, Met.ofW (cc := b) (maxL := nL) (ret := rt) hy rfl ?_⟩
  intro p e s m args0 below meth c s₁ B hml hv
  obtain ⟨rfl, hW⟩ := hv
  have hts := atoms_spec (ws := .code y b nL rt :: ax_T) B.pre
  have hown : s.vm.findClass y.cls = some m.cls := findClass_of_methodNamed B.named
  have hin : meth.name = y.name := (name_of_methodNamed B.named B.method).1
  have hl := lv_entry args (n := nL) hn
  rw [lg_entry_eq]
  have hsh := hW.1.1
  have h1 := h.1
  exact h.2 p e (headSpec (.code y b nL rt :: ax_T) (ax_rm d (r.2.1.length - sh.length) (ax_sl r.2.1 - ax_sl sh))).room s m _ below meth c s.heap [] 0 0 _ _ _
    ⟨B.exec, B.bytes, hml, B.returns, B.notSynchronized, fun z => by rw [hin]; exact hini z, hown, fun w hw => hts w (List.mem_cons_of_mem _ hw), Nat.le_refl d, Nat.le_refl (40 * d)⟩ (Nat.le_refl _) (Nat.le_refl _) (by omega) (by omega) hW (fun _ _ => rfl) (fun _ h => by cases h) hl
theorem ax_upd {H H' : Heap} {G : ax_G} {sh : List ax_E} {μ μ' : ax_M} {k : Nat} {e : ax_E} (h : ax_H G sh μ H) (he : sh[k]? = some e) (h1 : H'.size = H.size) (h2 : ∀ q, q ≠ G.1 + k → H'[q]? = H[q]?) (h3 : va_at G.2.1 vwCl (G.1 + k, ax_en G μ' k e) H') (h4 : ∀ (k' : Nat) (e' : ax_E), k' ≠ k → sh[k']? = some e' → ax_en G μ' k' e' = ax_en G μ k' e') : ax_H G sh μ' H' := by
  refine ⟨h1.trans h.1, fun k' e' he' => ?_⟩
  by_cases hk : k' = k
  · subst hk
    rw [he] at he'
    cases he'
    exact h3
  · rw [h4 k' e' hk he']
    exact (h.2 k' e' he').kept (h2 _ (fun q => hk (Nat.add_left_cancel q)))
theorem ax_fs_get {z : Nat} {μ : ax_M} {k j : Nat} {fs : List (Option (Option Nat))} {f : Option (Option Nat)} (h : fs[j]? = some f) : (ax_fs z μ k fs)[j]? = some (ax_fv z μ k j f) := by
  unfold ax_fs
  rw [List.getElem?_mapIdx, h]
  rfl
theorem ax_fs_congr {z : Nat} {μ μ' : ax_M} {k : Nat} {fs : List (Option (Option Nat))} (h : ∀ j, μ' k j = μ k j) : ax_fs z μ' k fs = ax_fs z μ k fs := by
  unfold ax_fs
  congr 1
  funext j f
  cases f with
  | none => simp [ax_fv, h]
  | some f => cases f <;> rfl
theorem ax_en_congr {G : ax_G} {μ μ' : ax_M} {k : Nat} {e : ax_E} (h : ∀ j, μ' k j = μ k j) : ax_en G μ' k e = ax_en G μ k e := by
  have hf : μ' k = μ k := funext h
  rcases e with o | a | b
  · simp only [ax_en, ax_fs_congr h]
  · simp only [ax_en, hf]
  · rfl
theorem ax_w_ne {μ : ax_M} {k i k' : Nat} {v : Int32} (h : k' ≠ k) (j : Nat) : ax_w μ k i v k' j = μ k' j := by simp [ax_w, h]
theorem ax_w_eq {μ : ax_M} {k i : Nat} {v : Int32} : ax_w μ k i v k = upd (μ k) i v := by
  funext j
  simp only [ax_w, if_true, upd]
/-- what a field's row stands on -/
def ax_FL (own : String) (idx ci j : Nat) : Prop := ∃ r : vw_C, vwCl[ci]? = some r ∧ j < r.2.2 ∧ Cond.fieldLink own idx (r.2.1 j).1 (r.2.1 j).2.1 (r.2.1 j).2.2.1 ∈ ax_T ∧ ∀ w ∈ u_ws r.1 r.2.1 r.2.2, w ∈ ax_T
def ax_FT (ci : Nat) (t : Nat → FieldType) : Prop := ∃ r : vw_C, vwCl[ci]? = some r ∧ (∀ k, k < r.2.2 → parseFieldDescriptor (r.2.1 k).2.2.1 = some (t k)) ∧ (∀ a, a < r.2.2 → ∀ b, b < r.2.2 → a ≠ b → (r.2.1 a).2.1 ≠ (r.2.1 b).2.1)
section AX
variable {G : ax_G} {l : Launch} {own : String} {b : ByteArray} {nL : Nat} {rt : Option FieldType} {ini : Bool} {d : Nat} {r : ax_R} {pc : Nat} {lv lv' : List (Nat × Value)} {st : List Value} {sh : List ax_E} {μ : ax_M}
theorem ax_iconst {n : Int} {v : Int32} (hd : decode b pc = .ok (.iconst n, 1)) (hv : Int32.ofInt n = v) (k : ax_X G l own b nL rt ini d r (pc + 1) lv (.int v :: st) sh μ) : ax_X G l own b nL rt ini d r pc lv (st) sh μ :=
  ⟨k.1, fun p e R s m args below meth c H locs cells slots mc ms ls C h1 h2 h3 h4 hW hz hL hl => lv_iconst C.1 C.2.1 hd hv (k.2 p e R s m args below meth c H locs cells slots mc ms ls C h1 h2 h3 h4 hW hz hL hl)⟩
theorem ax_bipush {n : Int} {v : Int32} (hd : decode b pc = .ok (.bipush n, 2)) (hv : (Int8.ofInt n).toInt32 = v) (k : ax_X G l own b nL rt ini d r (pc + 2) lv (.int v :: st) sh μ) : ax_X G l own b nL rt ini d r pc lv (st) sh μ :=
  ⟨k.1, fun p e R s m args below meth c H locs cells slots mc ms ls C h1 h2 h3 h4 hW hz hL hl => lv_bipush C.1 C.2.1 hd hv (k.2 p e R s m args below meth c H locs cells slots mc ms ls C h1 h2 h3 h4 hW hz hL hl)⟩
theorem ax_sipush {n : Int} {v : Int32} (hd : decode b pc = .ok (.sipush n, 3)) (hv : (Int16.ofInt n).toInt32 = v) (k : ax_X G l own b nL rt ini d r (pc + 3) lv (.int v :: st) sh μ) : ax_X G l own b nL rt ini d r pc lv (st) sh μ :=
  ⟨k.1, fun p e R s m args below meth c H locs cells slots mc ms ls C h1 h2 h3 h4 hW hz hL hl => lv_sipush C.1 C.2.1 hd hv (k.2 p e R s m args below meth c H locs cells slots mc ms ls C h1 h2 h3 h4 hW hz hL hl)⟩
theorem ax_lconst {n : Fin 2} {v : Int64} (hd : decode b pc = .ok (.lconst n, 1)) (hv : Int64.ofNat (n : Nat) = v) (k : ax_X G l own b nL rt ini d r (pc + 1) lv (.long v :: st) sh μ) : ax_X G l own b nL rt ini d r pc lv (st) sh μ :=
  ⟨k.1, fun p e R s m args below meth c H locs cells slots mc ms ls C h1 h2 h3 h4 hW hz hL hl => lv_lconst C.1 C.2.1 hd hv (k.2 p e R s m args below meth c H locs cells slots mc ms ls C h1 h2 h3 h4 hW hz hL hl)⟩
theorem ax_ldc {idx : Nat} {v : Int32} (hd : decode b pc = .ok (.ldc idx, 2)) (hw : Cond.constant own idx v ∈ ax_T) (k : ax_X G l own b nL rt ini d r (pc + 2) lv (.int v :: st) sh μ) : ax_X G l own b nL rt ini d r pc lv (st) sh μ :=
  ⟨k.1, fun p e R s m args below meth c H locs cells slots mc ms ls C h1 h2 h3 h4 hW hz hL hl => lv_ldc C.1 C.2.1 C.2.2.2.2.2.2.1 (C.2.2.2.2.2.2.2.1 _ hw) hd (k.2 p e R s m args below meth c H locs cells slots mc ms ls C h1 h2 h3 h4 hW hz hL hl)⟩
theorem ax_ldc2 {idx : Nat} {v : Int64} (hd : decode b pc = .ok (.ldc2_w idx, 3)) (hw : Cond.constantLong own idx v ∈ ax_T) (k : ax_X G l own b nL rt ini d r (pc + 3) lv (.long v :: st) sh μ) : ax_X G l own b nL rt ini d r pc lv (st) sh μ :=
  ⟨k.1, fun p e R s m args below meth c H locs cells slots mc ms ls C h1 h2 h3 h4 hW hz hL hl => lv_ldc2 C.1 C.2.1 C.2.2.2.2.2.2.1 (C.2.2.2.2.2.2.2.1 _ hw) hd (k.2 p e R s m args below meth c H locs cells slots mc ms ls C h1 h2 h3 h4 hW hz hL hl)⟩
theorem ax_iload {i q : Nat} {x : Int32} (hd : decode b pc = .ok (.iload i, 2)) (hq : lv[q]? = some (i, .int x)) (k : ax_X G l own b nL rt ini d r (pc + 2) lv (.int x :: st) sh μ) : ax_X G l own b nL rt ini d r pc lv (st) sh μ :=
  ⟨k.1, fun p e R s m args below meth c H locs cells slots mc ms ls C h1 h2 h3 h4 hW hz hL hl => lv_iload C.1 C.2.1 hd (lv_at hl q hq) (k.2 p e R s m args below meth c H locs cells slots mc ms ls C h1 h2 h3 h4 hW hz hL hl)⟩
theorem ax_iload_n {n : Fin 4} {i q : Nat} {x : Int32} (hd : decode b pc = .ok (.iload_n n, 1)) (hi : (n : Nat) = i) (hq : lv[q]? = some (i, .int x)) (k : ax_X G l own b nL rt ini d r (pc + 1) lv (.int x :: st) sh μ) : ax_X G l own b nL rt ini d r pc lv (st) sh μ :=
  ⟨k.1, fun p e R s m args below meth c H locs cells slots mc ms ls C h1 h2 h3 h4 hW hz hL hl => lv_iload_n C.1 C.2.1 hd hi (lv_at hl q hq) (k.2 p e R s m args below meth c H locs cells slots mc ms ls C h1 h2 h3 h4 hW hz hL hl)⟩
theorem ax_lload {i q : Nat} {x : Int64} (hd : decode b pc = .ok (.lload i, 2)) (hq : lv[q]? = some (i, .long x)) (k : ax_X G l own b nL rt ini d r (pc + 2) lv (.long x :: st) sh μ) : ax_X G l own b nL rt ini d r pc lv (st) sh μ :=
  ⟨k.1, fun p e R s m args below meth c H locs cells slots mc ms ls C h1 h2 h3 h4 hW hz hL hl => lv_lload C.1 C.2.1 hd (lv_at hl q hq) (k.2 p e R s m args below meth c H locs cells slots mc ms ls C h1 h2 h3 h4 hW hz hL hl)⟩
theorem ax_lload_n {n : Fin 4} {i q : Nat} {x : Int64} (hd : decode b pc = .ok (.lload_n n, 1)) (hi : (n : Nat) = i) (hq : lv[q]? = some (i, .long x)) (k : ax_X G l own b nL rt ini d r (pc + 1) lv (.long x :: st) sh μ) : ax_X G l own b nL rt ini d r pc lv (st) sh μ :=
  ⟨k.1, fun p e R s m args below meth c H locs cells slots mc ms ls C h1 h2 h3 h4 hW hz hL hl => lv_lload_n C.1 C.2.1 hd hi (lv_at hl q hq) (k.2 p e R s m args below meth c H locs cells slots mc ms ls C h1 h2 h3 h4 hW hz hL hl)⟩
theorem ax_aload {i q : Nat} {x : Nat} (hd : decode b pc = .ok (.aload i, 2)) (hq : lv[q]? = some (i, .ref x)) (k : ax_X G l own b nL rt ini d r (pc + 2) lv (.ref x :: st) sh μ) : ax_X G l own b nL rt ini d r pc lv (st) sh μ :=
  ⟨k.1, fun p e R s m args below meth c H locs cells slots mc ms ls C h1 h2 h3 h4 hW hz hL hl => lv_aload C.1 C.2.1 hd (lv_at hl q hq) (k.2 p e R s m args below meth c H locs cells slots mc ms ls C h1 h2 h3 h4 hW hz hL hl)⟩
theorem ax_aload_n {n : Fin 4} {i q : Nat} {x : Nat} (hd : decode b pc = .ok (.aload_n n, 1)) (hi : (n : Nat) = i) (hq : lv[q]? = some (i, .ref x)) (k : ax_X G l own b nL rt ini d r (pc + 1) lv (.ref x :: st) sh μ) : ax_X G l own b nL rt ini d r pc lv (st) sh μ :=
  ⟨k.1, fun p e R s m args below meth c H locs cells slots mc ms ls C h1 h2 h3 h4 hW hz hL hl => lv_aload_n C.1 C.2.1 hd hi (lv_at hl q hq) (k.2 p e R s m args below meth c H locs cells slots mc ms ls C h1 h2 h3 h4 hW hz hL hl)⟩
theorem ax_istore {i : Nat} {x : Int32} (hd : decode b pc = .ok (.istore i, 2)) (hn : i < nL) (hlv : (i, Value.int x) :: lv.filter (fun q => !(q.1 == i) && !(q.1 + 1 == i && q.2.category == 2)) = lv') (k : ax_X G l own b nL rt ini d r (pc + 2) lv' st sh μ) : ax_X G l own b nL rt ini d r pc lv (.int x :: st) sh μ :=
  ⟨k.1, fun p e R s m args below meth c H locs cells slots mc ms ls C h1 h2 h3 h4 hW hz hL hl => lv_istore C.1 C.2.1 hd hl hn hlv (fun ls' hl' => k.2 p e R s m args below meth c H locs cells slots mc ms ls' C h1 h2 h3 h4 hW hz hL hl')⟩
theorem ax_istore_n {n : Fin 4} {i : Nat} {x : Int32} (hd : decode b pc = .ok (.istore_n n, 1)) (hi : (n : Nat) = i) (hn : i < nL) (hlv : (i, Value.int x) :: lv.filter (fun q => !(q.1 == i) && !(q.1 + 1 == i && q.2.category == 2)) = lv') (k : ax_X G l own b nL rt ini d r (pc + 1) lv' st sh μ) : ax_X G l own b nL rt ini d r pc lv (.int x :: st) sh μ :=
  ⟨k.1, fun p e R s m args below meth c H locs cells slots mc ms ls C h1 h2 h3 h4 hW hz hL hl => lv_istore_n C.1 C.2.1 hd hi hl hn hlv (fun ls' hl' => k.2 p e R s m args below meth c H locs cells slots mc ms ls' C h1 h2 h3 h4 hW hz hL hl')⟩
theorem ax_lstore {i : Nat} {x : Int64} (hd : decode b pc = .ok (.lstore i, 2)) (hn : i + 1 < nL) (hlv : (i, Value.long x) :: lv.filter (fun q => !(q.1 == i) && (!(q.1 == i + 1) && !(q.1 + 1 == i && q.2.category == 2))) = lv') (k : ax_X G l own b nL rt ini d r (pc + 2) lv' st sh μ) : ax_X G l own b nL rt ini d r pc lv (.long x :: st) sh μ :=
  ⟨k.1, fun p e R s m args below meth c H locs cells slots mc ms ls C h1 h2 h3 h4 hW hz hL hl => lv_lstore C.1 C.2.1 hd hl hn hlv (fun ls' hl' => k.2 p e R s m args below meth c H locs cells slots mc ms ls' C h1 h2 h3 h4 hW hz hL hl')⟩
theorem ax_lstore_n {n : Fin 4} {i : Nat} {x : Int64} (hd : decode b pc = .ok (.lstore_n n, 1)) (hi : (n : Nat) = i) (hn : i + 1 < nL) (hlv : (i, Value.long x) :: lv.filter (fun q => !(q.1 == i) && (!(q.1 == i + 1) && !(q.1 + 1 == i && q.2.category == 2))) = lv') (k : ax_X G l own b nL rt ini d r (pc + 1) lv' st sh μ) : ax_X G l own b nL rt ini d r pc lv (.long x :: st) sh μ :=
  ⟨k.1, fun p e R s m args below meth c H locs cells slots mc ms ls C h1 h2 h3 h4 hW hz hL hl => lv_lstore_n C.1 C.2.1 hd hi hl hn hlv (fun ls' hl' => k.2 p e R s m args below meth c H locs cells slots mc ms ls' C h1 h2 h3 h4 hW hz hL hl')⟩
theorem ax_astore {i : Nat} {x : Nat} (hd : decode b pc = .ok (.astore i, 2)) (hn : i < nL) (hlv : (i, Value.ref x) :: lv.filter (fun q => !(q.1 == i) && !(q.1 + 1 == i && q.2.category == 2)) = lv') (k : ax_X G l own b nL rt ini d r (pc + 2) lv' st sh μ) : ax_X G l own b nL rt ini d r pc lv (.ref x :: st) sh μ :=
  ⟨k.1, fun p e R s m args below meth c H locs cells slots mc ms ls C h1 h2 h3 h4 hW hz hL hl => lv_astore C.1 C.2.1 hd hl hn hlv (fun ls' hl' => k.2 p e R s m args below meth c H locs cells slots mc ms ls' C h1 h2 h3 h4 hW hz hL hl')⟩
theorem ax_astore_n {n : Fin 4} {i : Nat} {x : Nat} (hd : decode b pc = .ok (.astore_n n, 1)) (hi : (n : Nat) = i) (hn : i < nL) (hlv : (i, Value.ref x) :: lv.filter (fun q => !(q.1 == i) && !(q.1 + 1 == i && q.2.category == 2)) = lv') (k : ax_X G l own b nL rt ini d r (pc + 1) lv' st sh μ) : ax_X G l own b nL rt ini d r pc lv (.ref x :: st) sh μ :=
  ⟨k.1, fun p e R s m args below meth c H locs cells slots mc ms ls C h1 h2 h3 h4 hW hz hL hl => lv_astore_n C.1 C.2.1 hd hi hl hn hlv (fun ls' hl' => k.2 p e R s m args below meth c H locs cells slots mc ms ls' C h1 h2 h3 h4 hW hz hL hl')⟩
theorem ax_iinc {i q : Nat} {n : Int} {x v : Int32} (hd : decode b pc = .ok (.iinc i n, 3)) (hq : lv[q]? = some (i, .int x)) (hv : x + Int32.ofInt n = v) (hn : i < nL) (hlv : (i, Value.int v) :: lv.filter (fun q => !(q.1 == i) && !(q.1 + 1 == i && q.2.category == 2)) = lv') (k : ax_X G l own b nL rt ini d r (pc + 3) lv' st sh μ) : ax_X G l own b nL rt ini d r pc lv st sh μ :=
  ⟨k.1, fun p e R s m args below meth c H locs cells slots mc ms ls C h1 h2 h3 h4 hW hz hL hl => lv_iinc C.1 C.2.1 hd hl hq hv hn hlv (fun ls' hl' => k.2 p e R s m args below meth c H locs cells slots mc ms ls' C h1 h2 h3 h4 hW hz hL hl')⟩
theorem ax_iadd {x y : Int32} (hd : decode b pc = .ok (.iadd, 1))  (k : ax_X G l own b nL rt ini d r (pc + 1) lv (.int (x + y) :: st) sh μ) : ax_X G l own b nL rt ini d r pc lv (.int y :: .int x :: st) sh μ :=
  ⟨k.1, fun p e R s m args below meth c H locs cells slots mc ms ls C h1 h2 h3 h4 hW hz hL hl => lv_iadd C.1 C.2.1 hd (k.2 p e R s m args below meth c H locs cells slots mc ms ls C h1 h2 h3 h4 hW hz hL hl)⟩
theorem ax_isub {x y : Int32} (hd : decode b pc = .ok (.isub, 1))  (k : ax_X G l own b nL rt ini d r (pc + 1) lv (.int (x - y) :: st) sh μ) : ax_X G l own b nL rt ini d r pc lv (.int y :: .int x :: st) sh μ :=
  ⟨k.1, fun p e R s m args below meth c H locs cells slots mc ms ls C h1 h2 h3 h4 hW hz hL hl => lv_isub C.1 C.2.1 hd (k.2 p e R s m args below meth c H locs cells slots mc ms ls C h1 h2 h3 h4 hW hz hL hl)⟩
theorem ax_imul {x y : Int32} (hd : decode b pc = .ok (.imul, 1))  (k : ax_X G l own b nL rt ini d r (pc + 1) lv (.int (x * y) :: st) sh μ) : ax_X G l own b nL rt ini d r pc lv (.int y :: .int x :: st) sh μ :=
  ⟨k.1, fun p e R s m args below meth c H locs cells slots mc ms ls C h1 h2 h3 h4 hW hz hL hl => lv_imul C.1 C.2.1 hd (k.2 p e R s m args below meth c H locs cells slots mc ms ls C h1 h2 h3 h4 hW hz hL hl)⟩
theorem ax_iand {x y : Int32} (hd : decode b pc = .ok (.iand, 1))  (k : ax_X G l own b nL rt ini d r (pc + 1) lv (.int (x &&& y) :: st) sh μ) : ax_X G l own b nL rt ini d r pc lv (.int y :: .int x :: st) sh μ :=
  ⟨k.1, fun p e R s m args below meth c H locs cells slots mc ms ls C h1 h2 h3 h4 hW hz hL hl => lv_iand C.1 C.2.1 hd (k.2 p e R s m args below meth c H locs cells slots mc ms ls C h1 h2 h3 h4 hW hz hL hl)⟩
theorem ax_ior {x y : Int32} (hd : decode b pc = .ok (.ior, 1))  (k : ax_X G l own b nL rt ini d r (pc + 1) lv (.int (x ||| y) :: st) sh μ) : ax_X G l own b nL rt ini d r pc lv (.int y :: .int x :: st) sh μ :=
  ⟨k.1, fun p e R s m args below meth c H locs cells slots mc ms ls C h1 h2 h3 h4 hW hz hL hl => lv_ior C.1 C.2.1 hd (k.2 p e R s m args below meth c H locs cells slots mc ms ls C h1 h2 h3 h4 hW hz hL hl)⟩
theorem ax_ixor {x y : Int32} (hd : decode b pc = .ok (.ixor, 1))  (k : ax_X G l own b nL rt ini d r (pc + 1) lv (.int (x ^^^ y) :: st) sh μ) : ax_X G l own b nL rt ini d r pc lv (.int y :: .int x :: st) sh μ :=
  ⟨k.1, fun p e R s m args below meth c H locs cells slots mc ms ls C h1 h2 h3 h4 hW hz hL hl => lv_ixor C.1 C.2.1 hd (k.2 p e R s m args below meth c H locs cells slots mc ms ls C h1 h2 h3 h4 hW hz hL hl)⟩
theorem ax_ishl {x y : Int32} (hd : decode b pc = .ok (.ishl, 1))  (k : ax_X G l own b nL rt ini d r (pc + 1) lv (.int (x <<< (y &&& 31)) :: st) sh μ) : ax_X G l own b nL rt ini d r pc lv (.int y :: .int x :: st) sh μ :=
  ⟨k.1, fun p e R s m args below meth c H locs cells slots mc ms ls C h1 h2 h3 h4 hW hz hL hl => lv_ishl C.1 C.2.1 hd (k.2 p e R s m args below meth c H locs cells slots mc ms ls C h1 h2 h3 h4 hW hz hL hl)⟩
theorem ax_ishr {x y : Int32} (hd : decode b pc = .ok (.ishr, 1))  (k : ax_X G l own b nL rt ini d r (pc + 1) lv (.int (x >>> (y &&& 31)) :: st) sh μ) : ax_X G l own b nL rt ini d r pc lv (.int y :: .int x :: st) sh μ :=
  ⟨k.1, fun p e R s m args below meth c H locs cells slots mc ms ls C h1 h2 h3 h4 hW hz hL hl => lv_ishr C.1 C.2.1 hd (k.2 p e R s m args below meth c H locs cells slots mc ms ls C h1 h2 h3 h4 hW hz hL hl)⟩
theorem ax_ladd {x y : Int64} (hd : decode b pc = .ok (.ladd, 1))  (k : ax_X G l own b nL rt ini d r (pc + 1) lv (.long (x + y) :: st) sh μ) : ax_X G l own b nL rt ini d r pc lv (.long y :: .long x :: st) sh μ :=
  ⟨k.1, fun p e R s m args below meth c H locs cells slots mc ms ls C h1 h2 h3 h4 hW hz hL hl => lv_ladd C.1 C.2.1 hd (k.2 p e R s m args below meth c H locs cells slots mc ms ls C h1 h2 h3 h4 hW hz hL hl)⟩
theorem ax_lsub {x y : Int64} (hd : decode b pc = .ok (.lsub, 1))  (k : ax_X G l own b nL rt ini d r (pc + 1) lv (.long (x - y) :: st) sh μ) : ax_X G l own b nL rt ini d r pc lv (.long y :: .long x :: st) sh μ :=
  ⟨k.1, fun p e R s m args below meth c H locs cells slots mc ms ls C h1 h2 h3 h4 hW hz hL hl => lv_lsub C.1 C.2.1 hd (k.2 p e R s m args below meth c H locs cells slots mc ms ls C h1 h2 h3 h4 hW hz hL hl)⟩
theorem ax_lmul {x y : Int64} (hd : decode b pc = .ok (.lmul, 1))  (k : ax_X G l own b nL rt ini d r (pc + 1) lv (.long (x * y) :: st) sh μ) : ax_X G l own b nL rt ini d r pc lv (.long y :: .long x :: st) sh μ :=
  ⟨k.1, fun p e R s m args below meth c H locs cells slots mc ms ls C h1 h2 h3 h4 hW hz hL hl => lv_lmul C.1 C.2.1 hd (k.2 p e R s m args below meth c H locs cells slots mc ms ls C h1 h2 h3 h4 hW hz hL hl)⟩
theorem ax_land {x y : Int64} (hd : decode b pc = .ok (.land, 1))  (k : ax_X G l own b nL rt ini d r (pc + 1) lv (.long (x &&& y) :: st) sh μ) : ax_X G l own b nL rt ini d r pc lv (.long y :: .long x :: st) sh μ :=
  ⟨k.1, fun p e R s m args below meth c H locs cells slots mc ms ls C h1 h2 h3 h4 hW hz hL hl => lv_land C.1 C.2.1 hd (k.2 p e R s m args below meth c H locs cells slots mc ms ls C h1 h2 h3 h4 hW hz hL hl)⟩
theorem ax_lor {x y : Int64} (hd : decode b pc = .ok (.lor, 1))  (k : ax_X G l own b nL rt ini d r (pc + 1) lv (.long (x ||| y) :: st) sh μ) : ax_X G l own b nL rt ini d r pc lv (.long y :: .long x :: st) sh μ :=
  ⟨k.1, fun p e R s m args below meth c H locs cells slots mc ms ls C h1 h2 h3 h4 hW hz hL hl => lv_lor C.1 C.2.1 hd (k.2 p e R s m args below meth c H locs cells slots mc ms ls C h1 h2 h3 h4 hW hz hL hl)⟩
theorem ax_lxor {x y : Int64} (hd : decode b pc = .ok (.lxor, 1))  (k : ax_X G l own b nL rt ini d r (pc + 1) lv (.long (x ^^^ y) :: st) sh μ) : ax_X G l own b nL rt ini d r pc lv (.long y :: .long x :: st) sh μ :=
  ⟨k.1, fun p e R s m args below meth c H locs cells slots mc ms ls C h1 h2 h3 h4 hW hz hL hl => lv_lxor C.1 C.2.1 hd (k.2 p e R s m args below meth c H locs cells slots mc ms ls C h1 h2 h3 h4 hW hz hL hl)⟩
theorem ax_idiv {x y : Int32} (hd : decode b pc = .ok (.idiv, 1)) (hy : ¬ y = 0) (k : ax_X G l own b nL rt ini d r (pc + 1) lv (.int (x / y) :: st) sh μ) : ax_X G l own b nL rt ini d r pc lv (.int y :: .int x :: st) sh μ :=
  ⟨k.1, fun p e R s m args below meth c H locs cells slots mc ms ls C h1 h2 h3 h4 hW hz hL hl => lv_idiv C.1 C.2.1 hd hy (k.2 p e R s m args below meth c H locs cells slots mc ms ls C h1 h2 h3 h4 hW hz hL hl)⟩
theorem ax_irem {x y : Int32} (hd : decode b pc = .ok (.irem, 1)) (hy : ¬ y = 0) (k : ax_X G l own b nL rt ini d r (pc + 1) lv (.int (x - x / y * y) :: st) sh μ) : ax_X G l own b nL rt ini d r pc lv (.int y :: .int x :: st) sh μ :=
  ⟨k.1, fun p e R s m args below meth c H locs cells slots mc ms ls C h1 h2 h3 h4 hW hz hL hl => lv_irem C.1 C.2.1 hd hy (k.2 p e R s m args below meth c H locs cells slots mc ms ls C h1 h2 h3 h4 hW hz hL hl)⟩
theorem ax_ldiv {x y : Int64} (hd : decode b pc = .ok (.ldiv, 1)) (hy : ¬ y = 0) (k : ax_X G l own b nL rt ini d r (pc + 1) lv (.long (x / y) :: st) sh μ) : ax_X G l own b nL rt ini d r pc lv (.long y :: .long x :: st) sh μ :=
  ⟨k.1, fun p e R s m args below meth c H locs cells slots mc ms ls C h1 h2 h3 h4 hW hz hL hl => lv_ldiv C.1 C.2.1 hd hy (k.2 p e R s m args below meth c H locs cells slots mc ms ls C h1 h2 h3 h4 hW hz hL hl)⟩
theorem ax_lrem {x y : Int64} (hd : decode b pc = .ok (.lrem, 1)) (hy : ¬ y = 0) (k : ax_X G l own b nL rt ini d r (pc + 1) lv (.long (x - x / y * y) :: st) sh μ) : ax_X G l own b nL rt ini d r pc lv (.long y :: .long x :: st) sh μ :=
  ⟨k.1, fun p e R s m args below meth c H locs cells slots mc ms ls C h1 h2 h3 h4 hW hz hL hl => lv_lrem C.1 C.2.1 hd hy (k.2 p e R s m args below meth c H locs cells slots mc ms ls C h1 h2 h3 h4 hW hz hL hl)⟩
theorem ax_ineg {x : Int32} (hd : decode b pc = .ok (.ineg, 1))  (k : ax_X G l own b nL rt ini d r (pc + 1) lv (.int (-x) :: st) sh μ) : ax_X G l own b nL rt ini d r pc lv (.int x :: st) sh μ :=
  ⟨k.1, fun p e R s m args below meth c H locs cells slots mc ms ls C h1 h2 h3 h4 hW hz hL hl => lv_ineg C.1 C.2.1 hd (k.2 p e R s m args below meth c H locs cells slots mc ms ls C h1 h2 h3 h4 hW hz hL hl)⟩
theorem ax_i2l {x : Int32} (hd : decode b pc = .ok (.i2l, 1))  (k : ax_X G l own b nL rt ini d r (pc + 1) lv (.long x.toInt64 :: st) sh μ) : ax_X G l own b nL rt ini d r pc lv (.int x :: st) sh μ :=
  ⟨k.1, fun p e R s m args below meth c H locs cells slots mc ms ls C h1 h2 h3 h4 hW hz hL hl => lv_i2l C.1 C.2.1 hd rfl (k.2 p e R s m args below meth c H locs cells slots mc ms ls C h1 h2 h3 h4 hW hz hL hl)⟩
theorem ax_l2i {x : Int64} (hd : decode b pc = .ok (.l2i, 1))  (k : ax_X G l own b nL rt ini d r (pc + 1) lv (.int x.toInt32 :: st) sh μ) : ax_X G l own b nL rt ini d r pc lv (.long x :: st) sh μ :=
  ⟨k.1, fun p e R s m args below meth c H locs cells slots mc ms ls C h1 h2 h3 h4 hW hz hL hl => lv_l2i C.1 C.2.1 hd rfl (k.2 p e R s m args below meth c H locs cells slots mc ms ls C h1 h2 h3 h4 hW hz hL hl)⟩
theorem ax_i2b {x : Int32} (hd : decode b pc = .ok (.i2b, 1))  (k : ax_X G l own b nL rt ini d r (pc + 1) lv (.int x.toInt8.toInt32 :: st) sh μ) : ax_X G l own b nL rt ini d r pc lv (.int x :: st) sh μ :=
  ⟨k.1, fun p e R s m args below meth c H locs cells slots mc ms ls C h1 h2 h3 h4 hW hz hL hl => lv_i2b C.1 C.2.1 hd rfl (k.2 p e R s m args below meth c H locs cells slots mc ms ls C h1 h2 h3 h4 hW hz hL hl)⟩
theorem ax_i2s {x : Int32} (hd : decode b pc = .ok (.i2s, 1))  (k : ax_X G l own b nL rt ini d r (pc + 1) lv (.int x.toInt16.toInt32 :: st) sh μ) : ax_X G l own b nL rt ini d r pc lv (.int x :: st) sh μ :=
  ⟨k.1, fun p e R s m args below meth c H locs cells slots mc ms ls C h1 h2 h3 h4 hW hz hL hl => lv_i2s C.1 C.2.1 hd rfl (k.2 p e R s m args below meth c H locs cells slots mc ms ls C h1 h2 h3 h4 hW hz hL hl)⟩
theorem ax_i2c {x : Int32} (hd : decode b pc = .ok (.i2c, 1))  (k : ax_X G l own b nL rt ini d r (pc + 1) lv (.int (x.toUInt32 % 65536).toInt32 :: st) sh μ) : ax_X G l own b nL rt ini d r pc lv (.int x :: st) sh μ :=
  ⟨k.1, fun p e R s m args below meth c H locs cells slots mc ms ls C h1 h2 h3 h4 hW hz hL hl => lv_i2c C.1 C.2.1 hd rfl (k.2 p e R s m args below meth c H locs cells slots mc ms ls C h1 h2 h3 h4 hW hz hL hl)⟩
theorem ax_lshl {x : Int64} {y : Int32} (hd : decode b pc = .ok (.lshl, 1))  (k : ax_X G l own b nL rt ini d r (pc + 1) lv (.long (x <<< (y.toInt64 &&& 63)) :: st) sh μ) : ax_X G l own b nL rt ini d r pc lv (.int y :: .long x :: st) sh μ :=
  ⟨k.1, fun p e R s m args below meth c H locs cells slots mc ms ls C h1 h2 h3 h4 hW hz hL hl => lv_lshl C.1 C.2.1 hd rfl (k.2 p e R s m args below meth c H locs cells slots mc ms ls C h1 h2 h3 h4 hW hz hL hl)⟩
theorem ax_lcmp {x y : Int64} (hd : decode b pc = .ok (.lcmp, 1))  (k : ax_X G l own b nL rt ini d r (pc + 1) lv (.int (lg_cmp x y) :: st) sh μ) : ax_X G l own b nL rt ini d r pc lv (.long y :: .long x :: st) sh μ :=
  ⟨k.1, fun p e R s m args below meth c H locs cells slots mc ms ls C h1 h2 h3 h4 hW hz hL hl => W.lcmp C.1 C.2.1 hd (k.2 p e R s m args below meth c H locs cells slots mc ms ls C h1 h2 h3 h4 hW hz hL hl)⟩
theorem ax_dup {v : Value} (hd : decode b pc = .ok (.dup, 1)) (hv : v.category = 1) (k : ax_X G l own b nL rt ini d r (pc + 1) lv (v :: v :: st) sh μ) : ax_X G l own b nL rt ini d r pc lv (v :: st) sh μ :=
  ⟨k.1, fun p e R s m args below meth c H locs cells slots mc ms ls C h1 h2 h3 h4 hW hz hL hl => lv_dup C.1 C.2.1 hd hv (k.2 p e R s m args below meth c H locs cells slots mc ms ls C h1 h2 h3 h4 hW hz hL hl)⟩
theorem ax_pop {v : Value} (hd : decode b pc = .ok (.pop, 1)) (hv : v.category = 1) (k : ax_X G l own b nL rt ini d r (pc + 1) lv (st) sh μ) : ax_X G l own b nL rt ini d r pc lv (v :: st) sh μ :=
  ⟨k.1, fun p e R s m args below meth c H locs cells slots mc ms ls C h1 h2 h3 h4 hW hz hL hl => lv_pop C.1 C.2.1 hd hv (k.2 p e R s m args below meth c H locs cells slots mc ms ls C h1 h2 h3 h4 hW hz hL hl)⟩
theorem ax_dup_x1 {v u : Value} (hd : decode b pc = .ok (.dup_x1, 1)) (hv : v.category = 1) (hu : u.category = 1) (k : ax_X G l own b nL rt ini d r (pc + 1) lv (v :: u :: v :: st) sh μ) : ax_X G l own b nL rt ini d r pc lv (v :: u :: st) sh μ :=
  ⟨k.1, fun p e R s m args below meth c H locs cells slots mc ms ls C h1 h2 h3 h4 hW hz hL hl => lv_dup_x1 C.1 C.2.1 hd hv hu (k.2 p e R s m args below meth c H locs cells slots mc ms ls C h1 h2 h3 h4 hW hz hL hl)⟩
theorem ax_dup2 {v u : Value} (hd : decode b pc = .ok (.dup2, 1)) (hv : v.category = 1) (hu : u.category = 1) (k : ax_X G l own b nL rt ini d r (pc + 1) lv (v :: u :: v :: u :: st) sh μ) : ax_X G l own b nL rt ini d r pc lv (v :: u :: st) sh μ :=
  ⟨k.1, fun p e R s m args below meth c H locs cells slots mc ms ls C h1 h2 h3 h4 hW hz hL hl => lv_dup2_11 C.1 C.2.1 hd hv hu (k.2 p e R s m args below meth c H locs cells slots mc ms ls C h1 h2 h3 h4 hW hz hL hl)⟩
theorem ax_if_eq_t {x : Int32} {off : Int} {tgt : Nat} (hd : decode b pc = .ok (.ifCond .eq off, 3)) (ht : (pc : Int) + off = (tgt : Int)) (hc : x = 0) (k : ax_X G l own b nL rt ini d r tgt lv st sh μ) : ax_X G l own b nL rt ini d r pc lv (.int x :: st) sh μ :=
  ⟨k.1, fun p e R s m args below meth c H locs cells slots mc ms ls C h1 h2 h3 h4 hW hz hL hl => lv_if_eq C.1 C.2.1 hd ht (fun _ => k.2 p e R s m args below meth c H locs cells slots mc ms ls C h1 h2 h3 h4 hW hz hL hl) (fun q => absurd hc q)⟩
theorem ax_if_eq_f {x : Int32} {off : Int} {tgt : Nat} (hd : decode b pc = .ok (.ifCond .eq off, 3)) (ht : (pc : Int) + off = (tgt : Int)) (hc : ¬ (x = 0)) (k : ax_X G l own b nL rt ini d r (pc + 3) lv st sh μ) : ax_X G l own b nL rt ini d r pc lv (.int x :: st) sh μ :=
  ⟨k.1, fun p e R s m args below meth c H locs cells slots mc ms ls C h1 h2 h3 h4 hW hz hL hl => lv_if_eq C.1 C.2.1 hd ht (fun q => absurd q hc) (fun _ => k.2 p e R s m args below meth c H locs cells slots mc ms ls C h1 h2 h3 h4 hW hz hL hl)⟩
theorem ax_icmp_eq_t {x y : Int32} {off : Int} {tgt : Nat} (hd : decode b pc = .ok (.if_icmp .eq off, 3)) (ht : (pc : Int) + off = (tgt : Int)) (hc : x = y) (k : ax_X G l own b nL rt ini d r tgt lv st sh μ) : ax_X G l own b nL rt ini d r pc lv (.int y :: .int x :: st) sh μ :=
  ⟨k.1, fun p e R s m args below meth c H locs cells slots mc ms ls C h1 h2 h3 h4 hW hz hL hl => lv_icmp_eq C.1 C.2.1 hd ht (fun _ => k.2 p e R s m args below meth c H locs cells slots mc ms ls C h1 h2 h3 h4 hW hz hL hl) (fun q => absurd hc q)⟩
theorem ax_icmp_eq_f {x y : Int32} {off : Int} {tgt : Nat} (hd : decode b pc = .ok (.if_icmp .eq off, 3)) (ht : (pc : Int) + off = (tgt : Int)) (hc : ¬ (x = y)) (k : ax_X G l own b nL rt ini d r (pc + 3) lv st sh μ) : ax_X G l own b nL rt ini d r pc lv (.int y :: .int x :: st) sh μ :=
  ⟨k.1, fun p e R s m args below meth c H locs cells slots mc ms ls C h1 h2 h3 h4 hW hz hL hl => lv_icmp_eq C.1 C.2.1 hd ht (fun q => absurd q hc) (fun _ => k.2 p e R s m args below meth c H locs cells slots mc ms ls C h1 h2 h3 h4 hW hz hL hl)⟩
theorem ax_if_ne_t {x : Int32} {off : Int} {tgt : Nat} (hd : decode b pc = .ok (.ifCond .ne off, 3)) (ht : (pc : Int) + off = (tgt : Int)) (hc : ¬ x = 0) (k : ax_X G l own b nL rt ini d r tgt lv st sh μ) : ax_X G l own b nL rt ini d r pc lv (.int x :: st) sh μ :=
  ⟨k.1, fun p e R s m args below meth c H locs cells slots mc ms ls C h1 h2 h3 h4 hW hz hL hl => lv_if_ne C.1 C.2.1 hd ht (fun _ => k.2 p e R s m args below meth c H locs cells slots mc ms ls C h1 h2 h3 h4 hW hz hL hl) (fun q => absurd q hc)⟩
theorem ax_if_ne_f {x : Int32} {off : Int} {tgt : Nat} (hd : decode b pc = .ok (.ifCond .ne off, 3)) (ht : (pc : Int) + off = (tgt : Int)) (hc : ¬ (¬ x = 0)) (k : ax_X G l own b nL rt ini d r (pc + 3) lv st sh μ) : ax_X G l own b nL rt ini d r pc lv (.int x :: st) sh μ :=
  ⟨k.1, fun p e R s m args below meth c H locs cells slots mc ms ls C h1 h2 h3 h4 hW hz hL hl => lv_if_ne C.1 C.2.1 hd ht (fun q => absurd q hc) (fun _ => k.2 p e R s m args below meth c H locs cells slots mc ms ls C h1 h2 h3 h4 hW hz hL hl)⟩
theorem ax_icmp_ne_t {x y : Int32} {off : Int} {tgt : Nat} (hd : decode b pc = .ok (.if_icmp .ne off, 3)) (ht : (pc : Int) + off = (tgt : Int)) (hc : ¬ x = y) (k : ax_X G l own b nL rt ini d r tgt lv st sh μ) : ax_X G l own b nL rt ini d r pc lv (.int y :: .int x :: st) sh μ :=
  ⟨k.1, fun p e R s m args below meth c H locs cells slots mc ms ls C h1 h2 h3 h4 hW hz hL hl => lv_icmp_ne C.1 C.2.1 hd ht (fun _ => k.2 p e R s m args below meth c H locs cells slots mc ms ls C h1 h2 h3 h4 hW hz hL hl) (fun q => absurd q hc)⟩
theorem ax_icmp_ne_f {x y : Int32} {off : Int} {tgt : Nat} (hd : decode b pc = .ok (.if_icmp .ne off, 3)) (ht : (pc : Int) + off = (tgt : Int)) (hc : ¬ (¬ x = y)) (k : ax_X G l own b nL rt ini d r (pc + 3) lv st sh μ) : ax_X G l own b nL rt ini d r pc lv (.int y :: .int x :: st) sh μ :=
  ⟨k.1, fun p e R s m args below meth c H locs cells slots mc ms ls C h1 h2 h3 h4 hW hz hL hl => lv_icmp_ne C.1 C.2.1 hd ht (fun q => absurd q hc) (fun _ => k.2 p e R s m args below meth c H locs cells slots mc ms ls C h1 h2 h3 h4 hW hz hL hl)⟩
theorem ax_if_lt_t {x : Int32} {off : Int} {tgt : Nat} (hd : decode b pc = .ok (.ifCond .lt off, 3)) (ht : (pc : Int) + off = (tgt : Int)) (hc : x < 0) (k : ax_X G l own b nL rt ini d r tgt lv st sh μ) : ax_X G l own b nL rt ini d r pc lv (.int x :: st) sh μ :=
  ⟨k.1, fun p e R s m args below meth c H locs cells slots mc ms ls C h1 h2 h3 h4 hW hz hL hl => lv_if_lt C.1 C.2.1 hd ht (fun _ => k.2 p e R s m args below meth c H locs cells slots mc ms ls C h1 h2 h3 h4 hW hz hL hl) (fun q => absurd hc q)⟩
theorem ax_if_lt_f {x : Int32} {off : Int} {tgt : Nat} (hd : decode b pc = .ok (.ifCond .lt off, 3)) (ht : (pc : Int) + off = (tgt : Int)) (hc : ¬ (x < 0)) (k : ax_X G l own b nL rt ini d r (pc + 3) lv st sh μ) : ax_X G l own b nL rt ini d r pc lv (.int x :: st) sh μ :=
  ⟨k.1, fun p e R s m args below meth c H locs cells slots mc ms ls C h1 h2 h3 h4 hW hz hL hl => lv_if_lt C.1 C.2.1 hd ht (fun q => absurd q hc) (fun _ => k.2 p e R s m args below meth c H locs cells slots mc ms ls C h1 h2 h3 h4 hW hz hL hl)⟩
theorem ax_icmp_lt_t {x y : Int32} {off : Int} {tgt : Nat} (hd : decode b pc = .ok (.if_icmp .lt off, 3)) (ht : (pc : Int) + off = (tgt : Int)) (hc : x < y) (k : ax_X G l own b nL rt ini d r tgt lv st sh μ) : ax_X G l own b nL rt ini d r pc lv (.int y :: .int x :: st) sh μ :=
  ⟨k.1, fun p e R s m args below meth c H locs cells slots mc ms ls C h1 h2 h3 h4 hW hz hL hl => lv_icmp_lt C.1 C.2.1 hd ht (fun _ => k.2 p e R s m args below meth c H locs cells slots mc ms ls C h1 h2 h3 h4 hW hz hL hl) (fun q => absurd hc q)⟩
theorem ax_icmp_lt_f {x y : Int32} {off : Int} {tgt : Nat} (hd : decode b pc = .ok (.if_icmp .lt off, 3)) (ht : (pc : Int) + off = (tgt : Int)) (hc : ¬ (x < y)) (k : ax_X G l own b nL rt ini d r (pc + 3) lv st sh μ) : ax_X G l own b nL rt ini d r pc lv (.int y :: .int x :: st) sh μ :=
  ⟨k.1, fun p e R s m args below meth c H locs cells slots mc ms ls C h1 h2 h3 h4 hW hz hL hl => lv_icmp_lt C.1 C.2.1 hd ht (fun q => absurd q hc) (fun _ => k.2 p e R s m args below meth c H locs cells slots mc ms ls C h1 h2 h3 h4 hW hz hL hl)⟩
theorem ax_if_ge_t {x : Int32} {off : Int} {tgt : Nat} (hd : decode b pc = .ok (.ifCond .ge off, 3)) (ht : (pc : Int) + off = (tgt : Int)) (hc : 0 ≤ x) (k : ax_X G l own b nL rt ini d r tgt lv st sh μ) : ax_X G l own b nL rt ini d r pc lv (.int x :: st) sh μ :=
  ⟨k.1, fun p e R s m args below meth c H locs cells slots mc ms ls C h1 h2 h3 h4 hW hz hL hl => lv_if_ge C.1 C.2.1 hd ht (fun _ => k.2 p e R s m args below meth c H locs cells slots mc ms ls C h1 h2 h3 h4 hW hz hL hl) (fun q => absurd hc q)⟩
theorem ax_if_ge_f {x : Int32} {off : Int} {tgt : Nat} (hd : decode b pc = .ok (.ifCond .ge off, 3)) (ht : (pc : Int) + off = (tgt : Int)) (hc : ¬ (0 ≤ x)) (k : ax_X G l own b nL rt ini d r (pc + 3) lv st sh μ) : ax_X G l own b nL rt ini d r pc lv (.int x :: st) sh μ :=
  ⟨k.1, fun p e R s m args below meth c H locs cells slots mc ms ls C h1 h2 h3 h4 hW hz hL hl => lv_if_ge C.1 C.2.1 hd ht (fun q => absurd q hc) (fun _ => k.2 p e R s m args below meth c H locs cells slots mc ms ls C h1 h2 h3 h4 hW hz hL hl)⟩
theorem ax_icmp_ge_t {x y : Int32} {off : Int} {tgt : Nat} (hd : decode b pc = .ok (.if_icmp .ge off, 3)) (ht : (pc : Int) + off = (tgt : Int)) (hc : y ≤ x) (k : ax_X G l own b nL rt ini d r tgt lv st sh μ) : ax_X G l own b nL rt ini d r pc lv (.int y :: .int x :: st) sh μ :=
  ⟨k.1, fun p e R s m args below meth c H locs cells slots mc ms ls C h1 h2 h3 h4 hW hz hL hl => lv_icmp_ge C.1 C.2.1 hd ht (fun _ => k.2 p e R s m args below meth c H locs cells slots mc ms ls C h1 h2 h3 h4 hW hz hL hl) (fun q => absurd hc q)⟩
theorem ax_icmp_ge_f {x y : Int32} {off : Int} {tgt : Nat} (hd : decode b pc = .ok (.if_icmp .ge off, 3)) (ht : (pc : Int) + off = (tgt : Int)) (hc : ¬ (y ≤ x)) (k : ax_X G l own b nL rt ini d r (pc + 3) lv st sh μ) : ax_X G l own b nL rt ini d r pc lv (.int y :: .int x :: st) sh μ :=
  ⟨k.1, fun p e R s m args below meth c H locs cells slots mc ms ls C h1 h2 h3 h4 hW hz hL hl => lv_icmp_ge C.1 C.2.1 hd ht (fun q => absurd q hc) (fun _ => k.2 p e R s m args below meth c H locs cells slots mc ms ls C h1 h2 h3 h4 hW hz hL hl)⟩
theorem ax_if_gt_t {x : Int32} {off : Int} {tgt : Nat} (hd : decode b pc = .ok (.ifCond .gt off, 3)) (ht : (pc : Int) + off = (tgt : Int)) (hc : 0 < x) (k : ax_X G l own b nL rt ini d r tgt lv st sh μ) : ax_X G l own b nL rt ini d r pc lv (.int x :: st) sh μ :=
  ⟨k.1, fun p e R s m args below meth c H locs cells slots mc ms ls C h1 h2 h3 h4 hW hz hL hl => lv_if_gt C.1 C.2.1 hd ht (fun _ => k.2 p e R s m args below meth c H locs cells slots mc ms ls C h1 h2 h3 h4 hW hz hL hl) (fun q => absurd hc q)⟩
theorem ax_if_gt_f {x : Int32} {off : Int} {tgt : Nat} (hd : decode b pc = .ok (.ifCond .gt off, 3)) (ht : (pc : Int) + off = (tgt : Int)) (hc : ¬ (0 < x)) (k : ax_X G l own b nL rt ini d r (pc + 3) lv st sh μ) : ax_X G l own b nL rt ini d r pc lv (.int x :: st) sh μ :=
  ⟨k.1, fun p e R s m args below meth c H locs cells slots mc ms ls C h1 h2 h3 h4 hW hz hL hl => lv_if_gt C.1 C.2.1 hd ht (fun q => absurd q hc) (fun _ => k.2 p e R s m args below meth c H locs cells slots mc ms ls C h1 h2 h3 h4 hW hz hL hl)⟩
theorem ax_icmp_gt_t {x y : Int32} {off : Int} {tgt : Nat} (hd : decode b pc = .ok (.if_icmp .gt off, 3)) (ht : (pc : Int) + off = (tgt : Int)) (hc : y < x) (k : ax_X G l own b nL rt ini d r tgt lv st sh μ) : ax_X G l own b nL rt ini d r pc lv (.int y :: .int x :: st) sh μ :=
  ⟨k.1, fun p e R s m args below meth c H locs cells slots mc ms ls C h1 h2 h3 h4 hW hz hL hl => lv_icmp_gt C.1 C.2.1 hd ht (fun _ => k.2 p e R s m args below meth c H locs cells slots mc ms ls C h1 h2 h3 h4 hW hz hL hl) (fun q => absurd hc q)⟩
theorem ax_icmp_gt_f {x y : Int32} {off : Int} {tgt : Nat} (hd : decode b pc = .ok (.if_icmp .gt off, 3)) (ht : (pc : Int) + off = (tgt : Int)) (hc : ¬ (y < x)) (k : ax_X G l own b nL rt ini d r (pc + 3) lv st sh μ) : ax_X G l own b nL rt ini d r pc lv (.int y :: .int x :: st) sh μ :=
  ⟨k.1, fun p e R s m args below meth c H locs cells slots mc ms ls C h1 h2 h3 h4 hW hz hL hl => lv_icmp_gt C.1 C.2.1 hd ht (fun q => absurd q hc) (fun _ => k.2 p e R s m args below meth c H locs cells slots mc ms ls C h1 h2 h3 h4 hW hz hL hl)⟩
theorem ax_if_le_t {x : Int32} {off : Int} {tgt : Nat} (hd : decode b pc = .ok (.ifCond .le off, 3)) (ht : (pc : Int) + off = (tgt : Int)) (hc : x ≤ 0) (k : ax_X G l own b nL rt ini d r tgt lv st sh μ) : ax_X G l own b nL rt ini d r pc lv (.int x :: st) sh μ :=
  ⟨k.1, fun p e R s m args below meth c H locs cells slots mc ms ls C h1 h2 h3 h4 hW hz hL hl => lv_if_le C.1 C.2.1 hd ht (fun _ => k.2 p e R s m args below meth c H locs cells slots mc ms ls C h1 h2 h3 h4 hW hz hL hl) (fun q => absurd hc q)⟩
theorem ax_if_le_f {x : Int32} {off : Int} {tgt : Nat} (hd : decode b pc = .ok (.ifCond .le off, 3)) (ht : (pc : Int) + off = (tgt : Int)) (hc : ¬ (x ≤ 0)) (k : ax_X G l own b nL rt ini d r (pc + 3) lv st sh μ) : ax_X G l own b nL rt ini d r pc lv (.int x :: st) sh μ :=
  ⟨k.1, fun p e R s m args below meth c H locs cells slots mc ms ls C h1 h2 h3 h4 hW hz hL hl => lv_if_le C.1 C.2.1 hd ht (fun q => absurd q hc) (fun _ => k.2 p e R s m args below meth c H locs cells slots mc ms ls C h1 h2 h3 h4 hW hz hL hl)⟩
theorem ax_icmp_le_t {x y : Int32} {off : Int} {tgt : Nat} (hd : decode b pc = .ok (.if_icmp .le off, 3)) (ht : (pc : Int) + off = (tgt : Int)) (hc : x ≤ y) (k : ax_X G l own b nL rt ini d r tgt lv st sh μ) : ax_X G l own b nL rt ini d r pc lv (.int y :: .int x :: st) sh μ :=
  ⟨k.1, fun p e R s m args below meth c H locs cells slots mc ms ls C h1 h2 h3 h4 hW hz hL hl => lv_icmp_le C.1 C.2.1 hd ht (fun _ => k.2 p e R s m args below meth c H locs cells slots mc ms ls C h1 h2 h3 h4 hW hz hL hl) (fun q => absurd hc q)⟩
theorem ax_icmp_le_f {x y : Int32} {off : Int} {tgt : Nat} (hd : decode b pc = .ok (.if_icmp .le off, 3)) (ht : (pc : Int) + off = (tgt : Int)) (hc : ¬ (x ≤ y)) (k : ax_X G l own b nL rt ini d r (pc + 3) lv st sh μ) : ax_X G l own b nL rt ini d r pc lv (.int y :: .int x :: st) sh μ :=
  ⟨k.1, fun p e R s m args below meth c H locs cells slots mc ms ls C h1 h2 h3 h4 hW hz hL hl => lv_icmp_le C.1 C.2.1 hd ht (fun q => absurd q hc) (fun _ => k.2 p e R s m args below meth c H locs cells slots mc ms ls C h1 h2 h3 h4 hW hz hL hl)⟩
theorem ax_goto {off : Int} {tgt : Nat} (hd : decode b pc = .ok (.goto off, 3)) (ht : (pc : Int) + off = (tgt : Int)) (k : ax_X G l own b nL rt ini d r tgt lv st sh μ) : ax_X G l own b nL rt ini d r pc lv st sh μ :=
  ⟨k.1, fun p e R s m args below meth c H locs cells slots mc ms ls C h1 h2 h3 h4 hW hz hL hl => lv_goto C.1 C.2.1 hd ht (k.2 p e R s m args below meth c H locs cells slots mc ms ls C h1 h2 h3 h4 hW hz hL hl)⟩
theorem ax_tab {dflt lo hi : Int} {offs : Array Int} {len : Nat} {x : Int32} {off : Int} {tgt : Nat} (hd : decode b pc = .ok (.tableswitch dflt lo hi offs, len)) (h1 : ¬ x.toInt < lo) (h2 : ¬ hi < x.toInt) (ho : offs[(x.toInt - lo).toNat]? = some off) (ht : (pc : Int) + off = (tgt : Int)) (k : ax_X G l own b nL rt ini d r tgt lv st sh μ) : ax_X G l own b nL rt ini d r pc lv (.int x :: st) sh μ :=
  ⟨k.1, fun p e R s m args below meth c H locs cells slots mc ms ls C g1 g2 g3 g4 hW hz hL hl => lv_tableIn C.1 C.2.1 hd h1 h2 ho ht (k.2 p e R s m args below meth c H locs cells slots mc ms ls C g1 g2 g3 g4 hW hz hL hl)⟩
theorem ax_tabD {dflt lo hi : Int} {offs : Array Int} {len : Nat} {x : Int32} {tgt : Nat} (hd : decode b pc = .ok (.tableswitch dflt lo hi offs, len)) (h : x.toInt < lo ∨ hi < x.toInt) (ht : (pc : Int) + dflt = (tgt : Int)) (k : ax_X G l own b nL rt ini d r tgt lv st sh μ) : ax_X G l own b nL rt ini d r pc lv (.int x :: st) sh μ :=
  ⟨k.1, fun p e R s m args below meth c H locs cells slots mc ms ls C g1 g2 g3 g4 hW hz hL hl => lv_tableOut C.1 C.2.1 hd h ht (k.2 p e R s m args below meth c H locs cells slots mc ms ls C g1 g2 g3 g4 hW hz hL hl)⟩
theorem ax_look {dflt : Int} {ps : Array (Int × Int)} {len : Nat} {x : Int32} {off : Int} {tgt : Nat} (hd : decode b pc = .ok (.lookupswitch dflt ps, len)) (hp : (ps.toList.zip (ps.toList.drop 1)).all (fun (a, next) => a.1 < next.1) = true) (ho : Op.lookupswitch.offset ps.toList dflt x.toInt = off) (ht : (pc : Int) + off = (tgt : Int)) (k : ax_X G l own b nL rt ini d r tgt lv st sh μ) : ax_X G l own b nL rt ini d r pc lv (.int x :: st) sh μ :=
  ⟨k.1, fun p e R s m args below meth c H locs cells slots mc ms ls C g1 g2 g3 g4 hW hz hL hl => lv_lookup C.1 C.2.1 hd hp ho ht (k.2 p e R s m args below meth c H locs cells slots mc ms ls C g1 g2 g3 g4 hW hz hL hl)⟩
/-- fewer locals told -/
theorem ax_sub (ks : List Nat) (hl' : lv_pick lv ks = lv') (k : ax_X G l own b nL rt ini d r pc lv' st sh μ) : ax_X G l own b nL rt ini d r pc lv st sh μ :=
  ⟨k.1, fun p e R s m args below meth c H locs cells slots mc ms ls C g1 g2 g3 g4 hW hz hL hl => k.2 p e R s m args below meth c H locs cells slots mc ms ls C g1 g2 g3 g4 hW hz hL (lv_sub hl ks hl')⟩
theorem ax_one {k : Nat} {e0 : ax_E} {H : Heap} (h : ax_H G sh μ H) (he : sh[k]? = some e0) : va_P G.2.1 vwCl [(G.1 + k, ax_en G μ k e0)] H := by
  intro i q hq
  match i, hq with
  | 0, hq => cases hq; exact h.2 k e0 he
  | i + 1, hq => simp at hq
theorem ax_getf {idx ci j k : Nat} {fs : List (Option (Option Nat))} {f : Option (Option Nat)} (hd : decode b pc = .ok (.getfield idx, 3)) (hf : ax_FL own idx ci j) (he : sh[k]? = some (.inl (ci, fs))) (hv : fs[j]? = some f) (kk : ax_X G l own b nL rt ini d r (pc + 3) lv (ax_fv G.1 μ k j f :: st) sh μ) : ax_X G l own b nL rt ini d r pc lv (.ref (G.1 + k) :: st) sh μ := by
  refine ⟨kk.1, fun p e R s m args below meth c H locs cells slots mc ms ls C h1 h2 h3 h4 hW hz hL hl => ?_⟩
  obtain ⟨⟨C0, T, N⟩, hc, hj, hlink, hin⟩ := hf
  exact va_get (C := C0) (T := T) (N := N) C.1 C.2.1 C.2.2.2.2.2.2.2.1 hin C.2.2.2.2.2.2.1 hW.2.1 (ax_one hW.1 he) 0 rfl hc j hj (C.2.2.2.2.2.2.2.1 _ hlink) (fun _ h => h) (ax_fs_get hv) hd (kk.2 p e R s m args below meth c H locs cells slots mc ms ls C h1 h2 h3 h4 hW hz hL hl)
theorem ax_getI {idx ci j k : Nat} {fs : List (Option (Option Nat))} (hd : decode b pc = .ok (.getfield idx, 3)) (hf : ax_FL own idx ci j) (he : sh[k]? = some (.inl (ci, fs))) (hv : fs[j]? = some none) (kk : ax_X G l own b nL rt ini d r (pc + 3) lv (.int (μ k j) :: st) sh μ) : ax_X G l own b nL rt ini d r pc lv (.ref (G.1 + k) :: st) sh μ := ax_getf hd hf he hv kk
theorem ax_getR {idx ci j k q : Nat} {fs : List (Option (Option Nat))} (hd : decode b pc = .ok (.getfield idx, 3)) (hf : ax_FL own idx ci j) (he : sh[k]? = some (.inl (ci, fs))) (hv : fs[j]? = some (some (some q))) (kk : ax_X G l own b nL rt ini d r (pc + 3) lv (.ref (G.1 + q) :: st) sh μ) : ax_X G l own b nL rt ini d r pc lv (.ref (G.1 + k) :: st) sh μ := ax_getf hd hf he hv kk
theorem ax_putI {idx ci j k : Nat} {fs : List (Option (Option Nat))} {t : Nat → FieldType} {x : Int32} (hd : decode b pc = .ok (.putfield idx, 3)) (hf : ax_FL own idx ci j) (ht : ax_FT ci t) (he : sh[k]? = some (.inl (ci, fs))) (hv : fs[j]? = some none) (hfin : ∀ r : vw_C, vwCl[ci]? = some r → (r.2.1 j).2.2.2 = false) (hn : narrow (t j) (.int x) = .int x) (hfit : fits (t j) (.int x) = true) (kk : ax_X G l own b nL rt ini d r (pc + 3) lv st sh (ax_w μ k j x)) : ax_X G l own b nL rt ini d r pc lv (.int x :: .ref (G.1 + k) :: st) sh μ := by
  refine ⟨kk.1, fun p e R s m args below meth c H locs cells slots mc ms ls C h1 h2 h3 h4 hW hz hL hl => ?_⟩
  obtain ⟨⟨C0, T, N⟩, hc, hj, hlink, hin⟩ := hf
  obtain ⟨r', hc', hty, hnm⟩ := ht
  cases hc.symm.trans hc'
  have hts := C.2.2.2.2.2.2.2.1
  have hown := C.2.2.2.2.2.2.1
  have hap := va_apart (own := own) hts hin t hty hnm hW.2.1 hc
  obtain ⟨r1, g1, cell, q1, q2, q3, q4⟩ := hW.1.2 k _ he
  cases g1.symm.trans hc
  obtain ⟨hS, hfc, kC, hkC, hkind⟩ := hW.2.1.1 ci _ hc
  obtain ⟨cf, kf, fi, f, hi, hsl⟩ := hS j hj
  have hlay := hts _ (hin _ (u_in_lay hj))
  unfold u_lay at hlay
  rw [if_neg (by rw [hfin _ hc]; decide)] at hlay
  have hst := (u_facts hfc hkC (u_lays hts hin hj) hi).1
  have h6 := u_store hfc hkC hkind hlay hi (hty j hj) hn hfit
  refine W.putK C.1 C.2.1 (f := f) ⟨hown, hts _ hlink, ⟨_, _, _, hi⟩, hst⟩ (by rw [q2]; exact h6) q1 q3 (by rw [hsl]; exact k2_hasslot (q4 j hj)) rfl rfl hd fun H' e1 e2 e3 => ?_
  rw [hsl] at e1 ⊢
  have hlen : j < (ax_fs G.1 μ k fs).length := by rw [show (ax_fs G.1 μ k fs).length = fs.length by simp [ax_fs]]; exact (List.getElem?_eq_some_iff.mp hv).1
  have hkeep : ∀ q, q < G.1 → H'[q]? = H[q]? := fun q hq => e3 q (fun z => by rw [z] at hq; exact absurd hq (Nat.not_lt.mpr (Nat.le_add_right _ _)))
  refine kk.2 p e R s m args below meth c H' _ cells slots mc ms ls C h1 h2 h3 h4 ⟨ax_upd hW.1 he e2 e3 ?_ ?_, hW.2.1, hW.2.2.kept hkeep⟩ (fun q hq => (hkeep q hq).trans (hz q hq)) ?_ hl
  · refine ⟨_, hc, t_OB.to (V := updV (vp_V (ax_fs G.1 μ k fs)) j (.int x)) ⟨_, e1, q2, q3, t_set q4 hap hj _⟩ (fun i hi' => ?_)⟩
    by_cases hij : i = j
    · subst hij
      simp only [updV, if_true, vp_V]
      rw [List.getD_eq_getElem?_getD, ax_fs_get hv]
      simp [ax_fv, ax_w]
    · simp only [updV, if_neg hij, vp_V, List.getD_eq_getElem?_getD]
      unfold ax_fs
      rw [List.getElem?_mapIdx, List.getElem?_mapIdx]
      cases hx : fs[i]? with
      | none => rfl
      | some f1 =>
        cases f1 with
        | none => simp [ax_fv, ax_w, hij]
        | some f2 => cases f2 <;> rfl
  · exact fun k' e' hk' _ => ax_en_congr (ax_w_ne hk')
  · intro q hq
    rcases List.mem_append.mp hq with h | h
    · exact hL q h
    · rw [List.mem_singleton.mp h]
      exact Nat.le_add_right _ _
theorem ax_en1 (G : ax_G) (μ : ax_M) (k t n : Nat) : ax_en G μ k (.inr (.inl (t, n))) = .inl (G.2.2.1 t, (n, .inl (μ k))) := rfl
theorem ax_putR {idx ci j k q : Nat} {fs fs' : List (Option (Option Nat))} {t : Nat → FieldType} {f0 : Option Nat} {sh' : List ax_E} (hd : decode b pc = .ok (.putfield idx, 3)) (hf : ax_FL own idx ci j) (ht : ax_FT ci t) (he : sh[k]? = some (.inl (ci, fs))) (hv : fs[j]? = some (some f0)) (hini : ini = true) (hfin : ∀ r : vw_C, vwCl[ci]? = some r → (r.2.1 j).2.2.2 = true ∧ (r.2.1 j).1 = own) (hn : narrow (t j) (.ref (G.1 + q)) = .ref (G.1 + q)) (hfit : fits (t j) (.ref (G.1 + q)) = true) (hfs : fs.set j (some (some q)) = fs') (hsh : sh.set k (.inl (ci, fs')) = sh') (kk : ax_X G l own b nL rt ini d r (pc + 3) lv st sh' μ) : ax_X G l own b nL rt ini d r pc lv (.ref (G.1 + q) :: .ref (G.1 + k) :: st) sh μ := by
  subst hfs
  subst hsh
  have hlsh : (sh.set k (.inl (ci, fs.set j (some (some q))))).length = sh.length := List.length_set
  have hsl0 : ax_sl (sh.set k (.inl (ci, fs.set j (some (some q))))) = ax_sl sh := by
    unfold ax_sl
    rw [List.map_set, show ax_e1 (.inl (ci, fs.set j (some (some q)))) = ax_e1 (.inl (ci, fs)) from List.length_set]
    congr 1
    apply List.ext_getElem?
    intro i
    rw [List.getElem?_set, List.length_map]
    by_cases hik : k = i
    · subst hik
      have hlt := (List.getElem?_eq_some_iff.mp he).1
      rw [if_pos rfl, if_pos hlt, List.getElem?_map, he]
      rfl
    · rw [if_neg hik]
  have kk1 := kk.1
  rw [hlsh, hsl0] at kk1
  refine ⟨kk1, fun p e R s m args below meth c H locs cells slots mc ms ls C h1 h2 h3 h4 hW hz hL hl => ?_⟩
  obtain ⟨⟨C0, T, N⟩, hc, hj, hlink, hin⟩ := hf
  obtain ⟨r', hc', hty, hnm⟩ := ht
  cases hc.symm.trans hc'
  have hts := C.2.2.2.2.2.2.2.1
  have hown := C.2.2.2.2.2.2.1
  have hap := va_apart (own := own) hts hin t hty hnm hW.2.1 hc
  obtain ⟨r1, g1, cell, q1, q2, q3, q4⟩ := hW.1.2 k _ he
  cases g1.symm.trans hc
  obtain ⟨hS, hfc, kC, hkC, hkind⟩ := hW.2.1.1 ci _ hc
  obtain ⟨cf, kf, fi, f, hi, hsl⟩ := hS j hj
  have hlay := hts _ (hin _ (u_in_lay hj))
  unfold u_lay at hlay
  rw [if_pos (hfin _ hc).1] at hlay
  have hst := (u_facts hfc hkC (u_lays hts hin hj) hi).1
  have hcf : m.cls = cf := by
    obtain ⟨_, _, c', _, _, _, -, -, hf', -, -, -, hown2, -⟩ := Cond.laysFinal_spec hlay
    have e1 : c' = cf := by have := hi.symm.trans hf'; simp at this; exact this.1.symm
    rw [(hfin _ hc).2] at hown2
    rw [← e1]; exact Option.some.inj (hown.symm.trans hown2)
  have h6 := u_fits hfc hkC hkind (Or.inr hlay) hi (hty j hj) hn hfit
  refine W.putFinK C.1 C.2.1 hown (hts _ hlink) hi hst hcf (C.2.2.2.2.2.1 hini) (by rw [q2]; exact h6) q1 q3 (by rw [hsl]; exact k2_hasslot (q4 j hj)) rfl rfl hd fun H' e1 e2 e3 => ?_
  rw [hsl] at e1 ⊢
  have hkeep : ∀ q, q < G.1 → H'[q]? = H[q]? := fun q hq => e3 q (fun z => by rw [z] at hq; exact absurd hq (Nat.not_lt.mpr (Nat.le_add_right _ _)))
  refine kk.2 p e R s m args below meth c H' _ cells slots mc ms ls C h1 h2 (by rw [hlsh]; exact h3) (by rw [hsl0]; exact h4) ⟨⟨by rw [hlsh]; exact e2.trans hW.1.1, fun k' e' he' => ?_⟩, hW.2.1, hW.2.2.kept hkeep⟩ (fun q hq => (hkeep q hq).trans (hz q hq)) ?_ hl
  · rw [List.getElem?_set] at he'
    by_cases hk : k = k'
    · subst hk
      rw [if_pos rfl, if_pos (List.getElem?_eq_some_iff.mp he).1] at he'
      cases he'
      refine ⟨_, hc, t_OB.to (V := updV (vp_V (ax_fs G.1 μ k fs)) j (.ref (G.1 + q))) ⟨_, e1, q2, q3, t_set q4 hap hj _⟩ (fun i hi' => ?_)⟩
      have hjl := (List.getElem?_eq_some_iff.mp hv).1
      by_cases hij : i = j
      · subst hij
        simp only [updV, if_true, vp_V]
        rw [List.getD_eq_getElem?_getD, ax_fs_get (f := some (some q)) (by rw [List.getElem?_set, if_pos rfl, if_pos hjl])]
        rfl
      · simp only [updV, if_neg hij, vp_V, List.getD_eq_getElem?_getD]
        unfold ax_fs
        rw [List.getElem?_mapIdx, List.getElem?_mapIdx, List.getElem?_set, if_neg (fun z => hij z.symm)]
    · rw [if_neg hk] at he'
      exact (hW.1.2 k' e' he').kept (e3 _ (fun z => hk (Nat.add_left_cancel z).symm))
  · intro q hq
    rcases List.mem_append.mp hq with h | h
    · exact hL q h
    · rw [List.mem_singleton.mp h]
      exact Nat.le_add_right _ _
theorem ax_iald {k n : Nat} {i : Int32} (hd : decode b pc = .ok (.iaload, 1)) (he : sh[k]? = some (.inr (.inl (0, n)))) (hi : vp_in i n) (kk : ax_X G l own b nL rt ini d r (pc + 1) lv (.int (μ k i.toNatClampNeg) :: st) sh μ) : ax_X G l own b nL rt ini d r pc lv (.int i :: .ref (G.1 + k) :: st) sh μ :=
  ⟨kk.1, fun p e R s m args below meth c H locs cells slots mc ms ls C h1 h2 h3 h4 hW hz hL hl => va_iald C.1 C.2.1 hW.2.1 (ax_one hW.1 he) 0 0 rfl rfl hi hd (kk.2 p e R s m args below meth c H locs cells slots mc ms ls C h1 h2 h3 h4 hW hz hL hl)⟩
theorem ax_zald {k n : Nat} {i : Int32} (hd : decode b pc = .ok (.baload, 1)) (he : sh[k]? = some (.inr (.inl (1, n)))) (hi : vp_in i n) (kk : ax_X G l own b nL rt ini d r (pc + 1) lv (.int (μ k i.toNatClampNeg) :: st) sh μ) : ax_X G l own b nL rt ini d r pc lv (.int i :: .ref (G.1 + k) :: st) sh μ :=
  ⟨kk.1, fun p e R s m args below meth c H locs cells slots mc ms ls C h1 h2 h3 h4 hW hz hL hl => va_zald C.1 C.2.1 hW.2.1 (ax_one hW.1 he) 0 1 rfl rfl hi hd (kk.2 p e R s m args below meth c H locs cells slots mc ms ls C h1 h2 h3 h4 hW hz hL hl)⟩
theorem ax_alen {k t n : Nat} {v : Int32} (hd : decode b pc = .ok (.arraylength, 1)) (he : sh[k]? = some (.inr (.inl (t, n)))) (htt : t < 2) (hv : Int32.ofNat n = v) (kk : ax_X G l own b nL rt ini d r (pc + 1) lv (.int v :: st) sh μ) : ax_X G l own b nL rt ini d r pc lv (.ref (G.1 + k) :: st) sh μ := by
  refine ⟨kk.1, fun p e R s m args below meth c H locs cells slots mc ms ls C h1 h2 h3 h4 hW hz hL hl => ?_⟩
  match t, htt, he with
  | 0, _, he => exact va_alen C.1 C.2.1 hW.2.1 (ax_one hW.1 he) 0 0 rfl rfl hv hd (kk.2 p e R s m args below meth c H locs cells slots mc ms ls C h1 h2 h3 h4 hW hz hL hl)
  | 1, _, he => exact va_alen C.1 C.2.1 hW.2.1 (ax_one hW.1 he) 0 1 rfl rfl hv hd (kk.2 p e R s m args below meth c H locs cells slots mc ms ls C h1 h2 h3 h4 hW hz hL hl)
theorem ax_aald {k b0 n : Nat} {i : Int32} (hd : decode b pc = .ok (.aaload, 1)) (he : sh[k]? = some (.inr (.inr (b0, n)))) (hi : vp_in i n) (kk : ax_X G l own b nL rt ini d r (pc + 1) lv (.ref (G.1 + (b0 + i.toNatClampNeg)) :: st) sh μ) : ax_X G l own b nL rt ini d r pc lv (.int i :: .ref (G.1 + k) :: st) sh μ := by
  refine ⟨kk.1, fun p e R s m args below meth c H locs cells slots mc ms ls C h1 h2 h3 h4 hW hz hL hl => ?_⟩
  have hlt : i.toNatClampNeg < n := Nat.not_le.mp fun q => hi (Or.inr q)
  have hc := hW.1.2 k _ he
  refine W.aald (v := .ref (G.1 + (b0 + i.toNatClampNeg))) (ty := .array .int) C.1 C.2.1 hc ((hW.2.1.2 2 _ rfl).1 n _) rfl (fun q => by cases q) (by show ¬ (i < 0 ∨ (arrV _ _ _).slots.size ≤ _); rw [arrV_size]; exact hi) (by show (arrV _ _ _).slots[_]? = _; rw [arrV_read _ _ hlt]; simp [hlt, va_rf]) rfl rfl hd (kk.2 p e R s m args below meth c H locs cells slots mc ms ls C h1 h2 h3 h4 hW hz hL hl)
theorem ax_iast {k n : Nat} {i x : Int32} (hd : decode b pc = .ok (.iastore, 1)) (he : sh[k]? = some (.inr (.inl (0, n)))) (hi : vp_in i n) (kk : ax_X G l own b nL rt ini d r (pc + 1) lv st sh (ax_w μ k i.toNatClampNeg x)) : ax_X G l own b nL rt ini d r pc lv (.int x :: .int i :: .ref (G.1 + k) :: st) sh μ := by
  refine ⟨kk.1, fun p e R s m args below meth c H locs cells slots mc ms ls C h1 h2 h3 h4 hW hz hL hl => ?_⟩
  have hc := hW.1.2 k _ he
  refine W.iast C.1 C.2.1 hc ((hW.2.1.2 0 _ rfl).1 n (fun j => .int (μ k j))) (fun q => by cases q) (by show ¬ (i < 0 ∨ (arrV _ _ _).slots.size ≤ _); rw [arrV_size]; exact hi) rfl rfl hd fun H1 e1 e2 e3 => ?_
  have hkeep : ∀ q, q < G.1 → H1[q]? = H[q]? := fun q hq => e3 q (fun z => by rw [z] at hq; exact absurd hq (Nat.not_lt.mpr (Nat.le_add_right _ _)))
  refine kk.2 p e R s m args below meth c H1 _ cells slots mc ms ls C h1 h2 h3 h4 ⟨ax_upd hW.1 he e2 e3 ?_ (fun k' e' hk' _ => ax_en_congr (ax_w_ne hk')), hW.2.1, hW.2.2.kept hkeep⟩ (fun q hq => (hkeep q hq).trans (hz q hq)) (fun q hq => ?_) hl
  · show H1[_]? = some (vp_cell _ _)
    rw [e1, ax_w_eq, vp_cell_i, vp_cell_i, arrV_store]
    congr 2
    funext q
    by_cases hq : q = i.toNatClampNeg
    · subst hq
      simp [updV, upd]
    · simp [updV, upd, hq]
  · rcases List.mem_append.mp hq with h | h
    · exact hL q h
    · rw [List.mem_singleton.mp h]
      exact Nat.le_add_right _ _
theorem ax_zast {k n : Nat} {i x : Int32} (hd : decode b pc = .ok (.bastore, 1)) (he : sh[k]? = some (.inr (.inl (1, n)))) (hi : vp_in i n) (kk : ax_X G l own b nL rt ini d r (pc + 1) lv st sh (ax_w μ k i.toNatClampNeg (vp_nar .boolean x))) : ax_X G l own b nL rt ini d r pc lv (.int x :: .int i :: .ref (G.1 + k) :: st) sh μ := by
  refine ⟨kk.1, fun p e R s m args below meth c H locs cells slots mc ms ls C h1 h2 h3 h4 hW hz hL hl => ?_⟩
  have hc := hW.1.2 k _ he
  refine W.zast C.1 C.2.1 hc ((hW.2.1.2 1 _ rfl).1 n (fun j => .int (μ k j))) (fun q => by cases q) (by show ¬ (i < 0 ∨ (arrV _ _ _).slots.size ≤ _); rw [arrV_size]; exact hi) rfl rfl hd fun H1 e1 e2 e3 => ?_
  have hkeep : ∀ q, q < G.1 → H1[q]? = H[q]? := fun q hq => e3 q (fun z => by rw [z] at hq; exact absurd hq (Nat.not_lt.mpr (Nat.le_add_right _ _)))
  refine kk.2 p e R s m args below meth c H1 _ cells slots mc ms ls C h1 h2 h3 h4 ⟨ax_upd hW.1 he e2 e3 ?_ (fun k' e' hk' _ => ax_en_congr (ax_w_ne hk')), hW.2.1, hW.2.2.kept hkeep⟩ (fun q hq => (hkeep q hq).trans (hz q hq)) (fun q hq => ?_) hl
  · show H1[_]? = some (vp_cell _ _)
    rw [e1, ax_w_eq, vp_cell_i, vp_cell_i, arrV_store]
    congr 2
    funext q
    by_cases hq : q = i.toNatClampNeg
    · subst hq
      simp [updV, upd, vp_nar, narrow]
    · simp [updV, upd, hq]
  · rcases List.mem_append.mp hq with h | h
    · exact hL q h
    · rw [List.mem_singleton.mp h]
      exact Nat.le_add_right _ _
/-- ends -/
theorem ax_ireti {x : Int32} (hd : decode b pc = .ok (.ireturn, 1)) (hrt : ∃ ty, rt = some ty ∧ narrow ty (.int x) = .int x) (hr : r = (some (.int x), sh, μ)) : ax_X G l own b nL rt ini d r pc lv [.int x] sh μ := by
  subst hr
  refine ⟨⟨Nat.le_refl _, Nat.le_refl _⟩, fun p e R s m args below meth c H locs cells slots mc ms ls C h1 h2 h3 h4 hW hz hL hl => ?_⟩
  obtain ⟨ty, rfl, hn⟩ := hrt
  obtain rfl : mc = cells := by dsimp only at h3; omega
  obtain rfl : ms = slots := by dsimp only at h4; omega
  exact W.zret C.1 C.2.1 C.2.2.2.1 hn (fun t ht hWt => ⟨rfl, by rw [ht]; exact hW.1, fun q hq => by rw [ht]; exact hz q hq⟩) hL hd C.2.2.2.2.1
theorem ax_lret {x : Int64} (hd : decode b pc = .ok (.lreturn, 1)) (hrt : rt = some .long) (hr : r = (some (.long x), sh, μ)) : ax_X G l own b nL rt ini d r pc lv [.long x] sh μ := by
  subst hr
  subst hrt
  refine ⟨⟨Nat.le_refl _, Nat.le_refl _⟩, fun p e R s m args below meth c H locs cells slots mc ms ls C h1 h2 h3 h4 hW hz hL hl => ?_⟩
  obtain rfl : mc = cells := by dsimp only at h3; omega
  obtain rfl : ms = slots := by dsimp only at h4; omega
  exact W.lret C.1 C.2.1 C.2.2.2.1 (fun t ht hWt => ⟨rfl, by rw [ht]; exact hW.1, fun q hq => by rw [ht]; exact hz q hq⟩) hL hd C.2.2.2.2.1
theorem ax_vret (hd : decode b pc = .ok (.return_, 1)) (hrt : rt = none) (hr : r = (none, sh, μ)) : ax_X G l own b nL rt ini d r pc lv [] sh μ := by
  subst hr
  subst hrt
  refine ⟨⟨Nat.le_refl _, Nat.le_refl _⟩, fun p e R s m args below meth c H locs cells slots mc ms ls C h1 h2 h3 h4 hW hz hL hl => ?_⟩
  obtain rfl : mc = cells := by dsimp only at h3; omega
  obtain rfl : ms = slots := by dsimp only at h4; omega
  exact W.vret C.1 C.2.1 C.2.2.2.1 (fun t ht hWt => ⟨rfl, by rw [ht]; exact hW.1, fun q hq => by rw [ht]; exact hz q hq⟩) hL hd C.2.2.2.2.1
theorem ax_aret {x : Nat} {nm : String} (hd : decode b pc = .ok (.areturn, 1)) (hrt : rt = some (.object nm)) (hr : r = (some (.ref x), sh, μ)) : ax_X G l own b nL rt ini d r pc lv [.ref x] sh μ := by
  subst hr
  subst hrt
  refine ⟨⟨Nat.le_refl _, Nat.le_refl _⟩, fun p e R s m args below meth c H locs cells slots mc ms ls C h1 h2 h3 h4 hW hz hL hl => ?_⟩
  obtain rfl : mc = cells := by dsimp only at h3; omega
  obtain rfl : ms = slots := by dsimp only at h4; omega
  exact W.aret C.1 C.2.1 C.2.2.2.1 (Or.inl ⟨nm, rfl⟩) (Or.inr ⟨x, rfl⟩) (fun t ht hWt => ⟨rfl, by rw [ht]; exact hW.1, fun q hq => by rw [ht]; exact hz q hq⟩) hL hd C.2.2.2.2.1
theorem ax_ldcS {idx i : Nat} {q : String × Nat × String × List Int32} (hd : decode b pc = .ok (.ldc idx, 2)) (hq : ax_strs[i]? = some q) (ho : q.1 = own) (hi : q.2.1 = idx) (kk : ax_X G l own b nL rt ini d r (pc + 2) lv (.ref (G.2.2.2.1 i) :: st) sh μ) : ax_X G l own b nL rt ini d r pc lv st sh μ := by
  refine ⟨kk.1, fun p e R s m args below meth c H locs cells slots mc ms ls C h1 h2 h3 h4 hW hz hL hl => ?_⟩
  subst ho
  subst hi
  exact va_ldcS C.1 C.2.1 C.2.2.2.2.2.2.1 (hW.2.2.2.1 i q hq) hd (kk.2 p e R s m args below meth c H locs cells slots mc ms ls C h1 h2 h3 h4 hW hz hL hl)
/-- calls -/
theorem ax_blind {args0 : List Value} : FrameBlind (va_Pc args0 (fun U => ax_W G sh μ U U.heap)) := fun a U g mk h => by
  obtain ⟨h0, h1, h2, hs, hr, hz1, ⟨v, h4, h5⟩, h6, h7, h8, h9⟩ := h
  exact ⟨h0, h1, va_K.moved (u := U) (U := U.calling g mk a) (Vm.Alike.refl U.vm) h2, hs.moved (u := U) (U := U.calling g mk a) (Vm.Alike.refl U.vm), fun i q hq => vk_R.same (u := U) (U := U.calling g mk a) rfl (hr i q hq), va_Z.moved (u := U) (U := U.calling g mk a) (Vm.Alike.refl U.vm) hz1, ⟨v, h4, va_Z.moved (u := U) (U := U.calling g mk a) (Vm.Alike.refl U.vm) h5⟩, fun q hq => va_Nw.same (u := U) (U := U.calling g mk a) rfl rfl (h6 q hq), Jvm.Stand.arrayOver_alikeB (s := U) (U := U.calling g mk a) (Vm.Alike.refl U.vm) h7, va_X.moved (u := U) (U := U.calling g mk a) (Vm.Alike.refl U.vm) h8, h9⟩
theorem ax_pre {s U : State} {H : Heap} {As : List Value} (hW : ax_W G sh μ s H) (hU : U.heap = H) (hw : s.WarmedH U.vm) : va_Pc As (fun U => ax_W G sh μ U U.heap) As.toArray U := ⟨rfl, by rw [hU]; exact hW.1, va_K.moved hw.alike hW.2.1, by rw [hU]; exact hW.2.2.moved hw⟩
theorem ax_good {y : MethodName} {b' : ByteArray} {nL' : Nat} {rt' : Option FieldType} (hc : Cond.code y b' nL' rt' ∈ ax_T) : GoodIn ax_T (.code y b' nL' rt' :: ax_T) := fun w hw => by
  have h : w ∈ ax_T := (List.mem_cons.mp hw).elim (fun e => e ▸ hc) id
  exact ⟨h, good_of_word (List.mem_filter.mp h).2⟩
/-- what is known behind a call -/
theorem ax_back {y : MethodName} {b' : ByteArray} {nL' : Nat} {rt' : Option FieldType} {d' : Nat} {As : List Value} {r' : ax_R} {rest st0 : List Value} (hA : sh.length ≤ r'.2.1.length ∧ ax_sl sh ≤ ax_sl r'.2.1) (kk : ax_X G l own b nL rt ini d r (pc + 3) lv (r'.1.toList ++ rest) r'.2.1 r'.2.2)
    {p : Program} {e : Env} {R : Room} {s : State} {m : MethodId} {args : Array Value} {below : List Frame} {meth : Method} {c : Code} {H : Heap} {locs : List Loc} {cells slots mc ms : Nat} {ls : Array Slot} (C : ax_C own b nL rt ini d p R s m args meth c) (h1 : mc ≤ R.cells) (h2 : ms ≤ R.slots) (h3 : cells + r.2.1.length = mc + sh.length) (h4 : slots + ax_sl r.2.1 = ms + ax_sl sh) (hW : ax_W G sh μ s H) (hz : ∀ q, q < G.1 → H[q]? = s.heap[q]?) (hL : ∀ q ∈ locs, G.1 ≤ q.base) (hl : lv_has ls nL lv) {a : Array Value}
    (hr : va_Run p l e R s m args below meth c H locs cells slots (r'.2.1.length - sh.length) (ax_sl r'.2.1 - ax_sl sh) (F0 m pc ls st0) rest (ax_Q G r' a) (fun q => G.1 ≤ q)) : W p l e R s m args below meth c H locs cells slots (MQ below (ax_Q G r) args s mc ms (fun q => G.1 ≤ q)) (F0 m pc ls st0) := by
  intro T hT X
  obtain ⟨v, st₀, t, T', L, h0, X', hL', e1, e2, ⟨hv, hH, hk⟩, sx⟩ := hr T hT X
  have hv' : v = r'.1 := by cases hv; rfl
  subst hv'
  have hw : s.WarmedH T'.vm := X'.warmed
  have k1 := kk.1
  have hkz : ∀ q, q < G.1 → T'.heap[q]? = H[q]? := fun q hq => by rw [e1, hk q hq, h0]
  obtain ⟨t2, a1, b1⟩ := kk.2 p e R s m args below meth c T'.heap (locs ++ L) _ _ mc ms ls C h1 h2 (by omega) (by omega) ⟨by rw [e1]; exact hH, hW.2.1, hW.2.2.kept hkz⟩ (fun q hq => (hkz q hq).trans (hz q hq)) (fun q hq => (List.mem_append.mp hq).elim (hL q) (hL' q)) hl T' rfl X'
  exact ⟨t2, sx t2 a1, b1⟩
theorem ax_callV {idx ci k n : Nat} {y : MethodName} {b' : ByteArray} {nL' : Nat} {rt' : Option FieldType} {d' : Nat} {As : List Value} {r' : ax_R} {rest : List Value} {fs : List (Option (Option Nat))} {st0 : List Value} (hd : decode b pc = .ok (.invokevirtual idx, 3)) (hA : ax_A G l y b' nL' rt' d' (.ref (G.1 + k) :: As) sh μ r')
    (hw : Cond.code y b' nL' rt' ∈ ax_T ∧ Cond.methodLink own idx y ∈ ax_T ∧ Cond.instanceMethod y ∈ ax_T ∧ Cond.selects y.cls y y ∈ ax_T ∧ Cond.initialized y.cls ∈ ax_T)
    (hy : y.cls ≠ "java/lang/invoke/MethodHandle" ∧ y.cls ≠ "java/lang/invoke/VarHandle" ∧ (parseMethodDescriptor y.desc).map (fun d => d.parameters.length) = some n)
    (he : sh[k]? = some (.inl (ci, fs))) (hcl : ∀ q : vw_C, vwCl[ci]? = some q → q.1 = y.cls) (hci : ci < vwCl.length) (hst : st0 = As.reverse ++ .ref (G.1 + k) :: rest) (hn : As.length = n) (hd' : d' + 1 ≤ d) (hnL : nL' ≤ 21) (hcat : (rest.map fun v => v.category).sum ≤ 8) (kk : ax_X G l own b nL rt ini d r (pc + 3) lv (r'.1.toList ++ rest) r'.2.1 r'.2.2) : ax_X G l own b nL rt ini d r pc lv st0 sh μ := by
  refine ⟨⟨Nat.le_trans hA.1.1 kk.1.1, Nat.le_trans hA.1.2 kk.1.2⟩, fun p e R s m args below meth c H locs cells slots mc ms ls C h1 h2 h3 h4 hW hz hL hl => ?_⟩
  have hA1 := hA.1
  have k1 := kk.1
  have hts := C.2.2.2.2.2.2.2.1
  have hfr := C.2.2.2.2.2.2.2.2.1
  have hlo := C.2.2.2.2.2.2.2.2.2
  have hgood := ax_good hw.1
  subst hst
  have hq : vwCl[ci]? = some vwCl[ci] := List.getElem?_eq_getElem hci
  refine ax_back (y := y) (b' := b') (nL' := nL') (rt' := rt') (d' := d') (As := As) (r' := r') hA.1 kk C h1 h2 h3 h4 hW hz hL hl (va_runV (C := y.cls) (n := n) (Ts := ax_T) ⟨C.1, C.2.1, C.2.2.1, C.2.2.2.2.2.2.1, hts⟩ hA.2 ⟨callB_of (Ts := ax_T) (ws' := ax_T) n hts hgood rfl rfl rfl (hts _ hw.2.2.2.2) (hts _ hw.2.1) hy ⟨by show d' + 1 ≤ _; omega, by show 8 + (nL' + 11) + 40 * d' ≤ _; omega⟩, hts _ hw.2.2.1, hts _ hw.2.2.2.1⟩ ⟨ax_blind, ?_, fun U hU hWU => ax_pre hW hU hWU⟩ rfl hn hl.1 rfl (by show 2 * 0 + _ ≤ 8; omega) hd ⟨by omega, by omega⟩)
  have hrc := va_recv hW.2.1 (ax_one hW.1 he) (q0 := 0) (ci := ci) hq rfl
  rw [hcl _ hq] at hrc
  exact hrc
theorem ax_callS {idx n : Nat} {y : MethodName} {b' : ByteArray} {nL' : Nat} {rt' : Option FieldType} {d' : Nat} {As : List Value} {r' : ax_R} {rest : List Value} {st0 : List Value} (hd : decode b pc = .ok (.invokestatic idx, 3)) (hA : ax_A G l y b' nL' rt' d' As sh μ r')
    (hw : Cond.code y b' nL' rt' ∈ ax_T ∧ Cond.methodLink own idx y ∈ ax_T ∧ Cond.static y ∈ ax_T ∧ Cond.initialized y.cls ∈ ax_T)
    (hy : y.cls ≠ "java/lang/invoke/MethodHandle" ∧ y.cls ≠ "java/lang/invoke/VarHandle" ∧ (parseMethodDescriptor y.desc).map (fun d => d.parameters.length) = some n)
    (hst : st0 = As.reverse ++ rest) (hn : As.length = n) (hd' : d' + 1 ≤ d) (hnL : nL' ≤ 21) (hcat : (rest.map fun v => v.category).sum ≤ 8) (kk : ax_X G l own b nL rt ini d r (pc + 3) lv (r'.1.toList ++ rest) r'.2.1 r'.2.2) : ax_X G l own b nL rt ini d r pc lv st0 sh μ := by
  refine ⟨⟨Nat.le_trans hA.1.1 kk.1.1, Nat.le_trans hA.1.2 kk.1.2⟩, fun p e R s m args below meth c H locs cells slots mc ms ls C h1 h2 h3 h4 hW hz hL hl => ?_⟩
  have hA1 := hA.1
  have k1 := kk.1
  have hts := C.2.2.2.2.2.2.2.1
  have hfr := C.2.2.2.2.2.2.2.2.1
  have hlo := C.2.2.2.2.2.2.2.2.2
  have hgood := ax_good hw.1
  subst hst
  exact ax_back (y := y) (b' := b') (nL' := nL') (rt' := rt') (d' := d') (As := As) (r' := r') hA.1 kk C h1 h2 h3 h4 hW hz hL hl (va_runS (n := n) (Ts := ax_T) ⟨C.1, C.2.1, C.2.2.1, C.2.2.2.2.2.2.1, hts⟩ hA.2 ⟨callB_of (Ts := ax_T) (ws' := ax_T) n hts hgood rfl rfl rfl (hts _ hw.2.2.2) (hts _ hw.2.1) hy ⟨by show d' + 1 ≤ _; omega, by show 8 + (nL' + 11) + 40 * d' ≤ _; omega⟩, hts _ hw.2.2.1⟩ ⟨ax_blind, fun U hU hWU => ax_pre hW hU hWU⟩ rfl hn hl.1 rfl (by show 2 * 0 + _ ≤ 8; omega) hd ⟨by omega, by omega⟩)

theorem ax_objInit {idx k : Nat} (hd : decode b pc = .ok (.invokespecial idx, 3)) (hw : Cond.methodLink own idx Lib.objectInit ∈ ax_T ∧ Cond.instanceMethod Lib.objectInit ∈ ax_T ∧ Cond.code Lib.objectInit ⟨#[0xb1]⟩ 1 none ∈ ax_T) (hd1 : 1 ≤ d) (hcat : (st.map fun v => v.category).sum ≤ 8) (kk : ax_X G l own b nL rt ini d r (pc + 3) lv st sh μ) : ax_X G l own b nL rt ini d r pc lv (.ref k :: st) sh μ := by
  refine ⟨kk.1, fun p e R s m args below meth c H locs cells slots mc ms ls C h1 h2 h3 h4 hW hz hL hl => ?_⟩
  have hts := C.2.2.2.2.2.2.2.1
  have hfr := C.2.2.2.2.2.2.2.2.1
  have hlo := C.2.2.2.2.2.2.2.2.2
  exact W.objInit C.1 C.2.1 C.2.2.2.2.2.2.1 (hts _ hw.1) (hts _ hw.2.1) (hts _ hw.2.2) rfl (by rw [C.2.2.1]; exact hl.1) rfl hd (by omega) (by show 2 * 0 + _ + 12 ≤ _; omega) (kk.2 p e R s m args below meth c H locs cells slots mc ms ls C h1 h2 h3 h4 hW hz hL hl)
theorem ax_slapp {e0 : ax_E} : ax_sl (sh ++ [e0]) = ax_sl sh + ax_e1 e0 := by unfold ax_sl; simp
theorem ax_Happ {e0 : ax_E} {μ' : ax_M} {H H' : Heap} (h : ax_H G sh μ H) (h1 : H'.size = H.size + 1) (h2 : ∀ q, q < H.size → H'[q]? = H[q]?) (h3 : ∀ (k : Nat) (j : Nat), k < sh.length → μ' k j = μ k j) (h4 : va_at G.2.1 vwCl (G.1 + sh.length, ax_en G μ' sh.length e0) H') : ax_H G (sh ++ [e0]) μ' H' := by
  refine ⟨by rw [h1, h.1, List.length_append]; rfl, fun k e hk => ?_⟩
  by_cases hl : k < sh.length
  · rw [List.getElem?_append_left hl] at hk
    rw [ax_en_congr (fun j => h3 k j hl)]
    exact (h.2 k e hk).kept (h2 _ (by rw [h.1]; exact Nat.add_lt_add_left hl _))
  · rw [List.getElem?_append_right (Nat.not_lt.mp hl)] at hk
    have h0 : k - sh.length < 1 := (List.getElem?_eq_some_iff.mp hk).1
    have hk0 : k = sh.length := by omega
    subst hk0
    rw [Nat.sub_self] at hk
    cases hk
    exact h4
theorem ax_z_ne {k k' : Nat} (h : k' ≠ k) (j : Nat) : ax_z μ k k' j = μ k' j := by simp [ax_z, h]
theorem ax_new {idx ci k : Nat} {C0 : String} {T : u_T} {N : Nat} {t : Nat → FieldType} {fs : List (Option (Option Nat))} {sh' : List ax_E} (hd : decode b pc = .ok (.new idx, 3)) (hc : vwCl[ci]? = some (C0, T, N)) (hw : Cond.classLink own idx C0 ∈ ax_T ∧ Cond.instantiable C0 N ∈ ax_T ∧ Cond.initialized C0 ∈ ax_T) (hin : ∀ w ∈ u_ws C0 T N, w ∈ ax_T) (ht : ∀ k, k < N → parseFieldDescriptor (T k).2.2.1 = some (t k)) (hfs : (List.range N).map (fun j => defaultValue (t j)) = ax_fs 0 (fun _ _ => 0) 0 fs) (hnn : fs.all (fun f => f = none ∨ f = some none) = true) (hk : sh.length = k) (hsh : sh ++ [.inl (ci, fs)] = sh') (kk : ax_X G l own b nL rt ini d r (pc + 3) lv (.ref (G.1 + k) :: st) sh' (ax_z μ k)) : ax_X G l own b nL rt ini d r pc lv st sh μ := by
  subst hk
  subst hsh
  have hlen : N = fs.length := by
    have := congrArg List.length hfs
    simpa [ax_fs] using this
  have k1 := kk.1
  rw [ax_slapp, List.length_append] at k1
  have k11 : sh.length + 1 ≤ r.2.1.length := k1.1
  have k12 : ax_sl sh + fs.length ≤ ax_sl r.2.1 := k1.2
  refine ⟨⟨by omega, by omega⟩, fun p e R s m args below meth c H locs cells slots mc ms ls C h1 h2 h3 h4 hW hz hL hl => ?_⟩
  have hts := C.2.2.2.2.2.2.2.1
  have hKn := hW.2.1.1 ci _ hc
  refine W.newcK C.1 C.2.1 C.2.2.2.2.2.2.1 (hts _ hw.1) (hts _ hw.2.1) (hts _ hw.2.2) rfl hd (by omega) (by omega) hKn.2.1 hW.1.1 fun H1 kC hkC e1 z1 o1 => ?_
  have hsz := hW.1.1
  have hkeep : ∀ q, q < G.1 → H1[q]? = H[q]? := fun q hq => o1 q (by omega)
  refine kk.2 p e R s m args below meth c H1 locs _ _ mc ms ls C h1 h2 (by rw [List.length_append]; show cells + 1 + _ = _ + (_ + 1); omega) (by rw [ax_slapp]; show slots + N + _ = _ + (_ + fs.length); omega) ⟨ax_Happ hW.1 (by rw [hsz]; exact z1) (fun q hq => o1 q (by omega)) (fun k' j hk' => ax_z_ne (Nat.ne_of_lt hk') j) ?_, hW.2.1, hW.2.2.kept hkeep⟩ (fun q hq => (hkeep q hq).trans (hz q hq)) hL hl
  refine ⟨_, hc, (u_born t hts hin hKn hkC e1 ht).to (fun j hj => ?_)⟩
  have h5 : ((List.range N).map (fun j => defaultValue (t j)))[j]? = (ax_fs 0 (fun _ _ => 0) 0 fs)[j]? := by rw [hfs]
  rw [List.getElem?_map, List.getElem?_range hj] at h5
  simp only [vp_V, List.getD_eq_getElem?_getD]
  have hj2 : j < fs.length := by omega
  have h6 : (ax_fs G.1 (ax_z μ sh.length) sh.length fs)[j]? = (ax_fs 0 (fun _ _ => 0) 0 fs)[j]? := by
    unfold ax_fs
    rw [List.getElem?_mapIdx, List.getElem?_mapIdx]
    have h7 := List.all_eq_true.mp hnn fs[j] (List.getElem_mem hj2)
    rw [List.getElem?_eq_getElem hj2]
    rcases (by simpa using h7 : fs[j] = none ∨ fs[j] = some none) with h8 | h8 <;> rw [h8]
    · simp [ax_fv, ax_z]
    · rfl
  rw [h6, ← h5]
  rfl
theorem ax_newa {k t N : Nat} {at' : ArrayType} {n : Int32} {sh' : List ax_E} (hd : decode b pc = .ok (.newarray at', 2)) (ht : (t = 0 ∧ at' = .int) ∨ (t = 1 ∧ at' = .boolean)) (hn : ¬ n < 0) (hN : n.toNatClampNeg = N) (hb : N ≤ 100000000) (hw : Cond.arrayClass (newarray.typeOf at') ∈ ax_T) (hk : sh.length = k) (hsh : sh ++ [.inr (.inl (t, N))] = sh') (kk : ax_X G l own b nL rt ini d r (pc + 2) lv (.ref (G.1 + k) :: st) sh' (ax_z μ k)) : ax_X G l own b nL rt ini d r pc lv (.int n :: st) sh μ := by
  subst hk
  subst hsh
  have k1 := kk.1
  rw [ax_slapp, List.length_append] at k1
  have k11 : sh.length + 1 ≤ r.2.1.length := k1.1
  have k12 : ax_sl sh + N ≤ ax_sl r.2.1 := k1.2
  refine ⟨⟨by omega, by omega⟩, fun p e R s m args below meth c H locs cells slots mc ms ls C h1 h2 h3 h4 hW hz hL hl => ?_⟩
  have hts := C.2.2.2.2.2.2.2.1
  have hsz := hW.1.1
  have hcb : componentBytes (newarray.typeOf at') ≤ 4 := by rcases ht with ⟨-, rfl⟩ | ⟨-, rfl⟩ <;> decide
  have hmul : N * componentBytes (newarray.typeOf at') ≤ N * 4 := Nat.mul_le_mul_left _ hcb
  refine va_newaK (N := N) C.1 C.2.1 (hts _ hw) rfl hd rfl hn hN (by omega) (by omega) (by omega) hsz fun H1 cA e1 z1 o1 hAr hNm => ?_
  have hkeep : ∀ q, q < G.1 → H1[q]? = H[q]? := fun q hq => o1 q (by omega)
  refine kk.2 p e R s m args below meth c H1 locs _ _ mc ms ls C h1 h2 (by rw [List.length_append]; show cells + 1 + _ = _ + (_ + 1); omega) (by rw [ax_slapp]; show slots + N + _ = _ + (_ + N); omega) ⟨ax_Happ hW.1 (by rw [hsz]; exact z1) (fun q hq => o1 q (by omega)) (fun k' j hk' => ax_z_ne (Nat.ne_of_lt hk') j) ?_, hW.2.1, hW.2.2.kept hkeep⟩ (fun q hq => (hkeep q hq).trans (hz q hq)) hL hl
  show H1[_]? = some (vp_cell _ _)
  rw [e1, vp_cell_i]
  have hz0 : (fun j => Value.int (ax_z μ sh.length sh.length j)) = (fun _ => Value.int 0) := by funext j; simp [ax_z]
  rw [hz0]
  rcases ht with ⟨rfl, rfl⟩ | ⟨rfl, rfl⟩
  · have h9 := (hW.2.1.2 0 _ rfl).2
    cases Option.some.inj (hNm.symm.trans h9)
    rfl
  · have h9 := (hW.2.1.2 1 _ rfl).2
    cases Option.some.inj (hNm.symm.trans h9)
    rfl
theorem ax_cpw {a sp b0 dp n : Nat} : ax_cp μ a sp b0 dp n b0 = va_cpy (μ a) (μ b0) sp dp n := by funext i; simp [ax_cp]
theorem ax_copy {idx ka kb na nb : Nat} {sp dp n : Int32} (hd : decode b pc = .ok (.invokestatic idx, 3)) (hw : Cond.methodLink own idx arraycopyName ∈ ax_T ∧ Cond.native arraycopyName ∈ ax_T ∧ Cond.static arraycopyName ∈ ax_T ∧ Cond.initialized "java/lang/System" ∈ ax_T) (hea : sh[ka]? = some (.inr (.inl (0, na)))) (heb : sh[kb]? = some (.inr (.inl (0, nb)))) (g1 : ¬ sp < 0) (g2 : ¬ dp < 0) (g3 : ¬ n < 0) (g4 : sp.toNatClampNeg + n.toNatClampNeg ≤ na) (g5 : dp.toNatClampNeg + n.toNatClampNeg ≤ nb) (hd1 : 2 ≤ d) (hcat : (st.map fun v => v.category).sum ≤ 8)
    (kk : ax_X G l own b nL rt ini d r (pc + 3) lv st sh (ax_cp μ ka sp.toNatClampNeg kb dp.toNatClampNeg n.toNatClampNeg)) : ax_X G l own b nL rt ini d r pc lv (.int n :: .int dp :: .ref (G.1 + kb) :: .int sp :: .ref (G.1 + ka) :: st) sh μ := by
  refine ⟨kk.1, fun p e R s m args below meth c H locs cells slots mc ms ls C h1 h2 h3 h4 hW hz hL hl => ?_⟩
  have hts := C.2.2.2.2.2.2.2.1
  have hfr := C.2.2.2.2.2.2.2.2.1
  have hlo := C.2.2.2.2.2.2.2.2.2
  have nn : ∀ z : Int32, ¬ z < 0 → z.toInt = (z.toNatClampNeg : Int) := by
    intro z hz
    have hz0 : (0 : Int) ≤ z.toInt := by
      have := Int32.not_lt.mp hz
      simpa using Int32.le_iff_toInt_le.mp this
    show z.toInt = ((z.toInt.toNat : Nat) : Int)
    omega
  intro T hT X
  have hc0 : H[G.1 + ka]? = some (vp_cell (G.2.2.1 0) (na, .inl (μ ka))) := hW.1.2 ka _ hea
  have hc1 : H[G.1 + kb]? = some (vp_cell (G.2.2.1 0) (nb, .inl (μ kb))) := hW.1.2 kb _ heb
  obtain ⟨-, k0, hk0, cm0, hkk0⟩ := (hW.2.1.2 0 _ rfl).1 na (fun j => .int (μ ka j))
  obtain ⟨-, k1, hk1, cm1, hkk1⟩ := (hW.2.1.2 0 _ rfl).1 nb (fun j => .int (μ kb j))
  obtain ⟨vm', X', step⟩ := X.arraycopy C.1 C.2.2.2.2.2.2.1 (hts _ hw.1) (hts _ hw.2.1) (hts _ hw.2.2.1) (hts _ hw.2.2.2) (src := G.1 + ka) (dst := G.1 + kb) (cs := vp_cell (G.2.2.1 0) (na, .inl (μ ka))) (cd := vp_cell (G.2.2.1 0) (nb, .inl (μ kb))) (srcPos := sp) (destPos := dp) (n := n) (by rw [hT]; exact hc0) (by rw [hT]; exact hc1)
    (fun _ h => by cases h) (fun _ h => by cases h) (fun h => by cases h) (fun h => by cases h) hk0 hk1 hkk0 hkk1 (by simp [refKind]) g1 g2 g3
    (by rw [nn sp g1, nn n g3]; show ¬ _ > ((arrV (G.2.2.1 0) na (fun j => .int (μ ka j))).slots.size : Int); rw [arrV_size]; omega)
    (by rw [nn dp g2, nn n g3]; show ¬ _ > ((arrV (G.2.2.1 0) nb (fun j => .int (μ kb j))).slots.size : Int); rw [arrV_size]; omega)
    (fun vm₁ _ i hi => by
      have e : (vp_cell (G.2.2.1 0) (na, .inl (μ ka))).slots.getD (sp.toNatClampNeg + i) .null = .int (μ ka (sp.toNatClampNeg + i)) := by
        show (arrV (G.2.2.1 0) na (fun j => .int (μ ka j))).slots.getD _ _ = _
        rw [Array.getD_eq_getD_getElem?, arrV_read _ _ (by omega)]
        rfl
      refine ⟨?_, ?_⟩
      · rw [e]
        rfl
      · rw [e]
        exact trivial)
    (g := F0 m pc ls (.int n :: .int dp :: .ref (G.1 + kb) :: .int sp :: .ref (G.1 + ka) :: st)) rfl (by rw [C.2.2.1]; exact hl.1) (rest := st) rfl (by rw [C.2.1]; exact hd) (by omega) (by show 2 * 0 + _ + (nativeFrameWords "java/lang/System" "arraycopy" 5 + 11) ≤ _; rw [show nativeFrameWords "java/lang/System" "arraycopy" 5 = 7 from by decide +kernel]; omega)
  have e1 : copied (vp_cell (G.2.2.1 0) (na, .inl (μ ka))) (vp_cell (G.2.2.1 0) (nb, .inl (μ kb))) sp dp n = vp_cell (G.2.2.1 0) (nb, .inl (va_cpy (μ ka) (μ kb) sp.toNatClampNeg dp.toNatClampNeg n.toNatClampNeg)) := va_copied (fun z => .int z) _ _ (μ ka) (μ kb) g4
  rw [e1] at X' step
  have hheap : ((T.setVm vm').setCell (G.1 + kb) (vp_cell (G.2.2.1 0) (nb, .inl (va_cpy (μ ka) (μ kb) sp.toNatClampNeg dp.toNatClampNeg n.toNatClampNeg)))).heap = H.setIfInBounds (G.1 + kb) (vp_cell (G.2.2.1 0) (nb, .inl (va_cpy (μ ka) (μ kb) sp.toNatClampNeg dp.toNatClampNeg n.toNatClampNeg))) := by rw [← hT]; rfl
  have hlt : G.1 + kb < H.size := (Array.getElem?_eq_some_iff.mp hc1).1
  have oq : ∀ q : Nat, q ≠ G.1 + kb → (H.setIfInBounds (G.1 + kb) (vp_cell (G.2.2.1 0) (nb, .inl (va_cpy (μ ka) (μ kb) sp.toNatClampNeg dp.toNatClampNeg n.toNatClampNeg))))[q]? = H[q]? := fun q hq => by simp [Array.getElem?_setIfInBounds, Ne.symm hq]
  have hkeep : ∀ q, q < G.1 → (H.setIfInBounds (G.1 + kb) (vp_cell (G.2.2.1 0) (nb, .inl (va_cpy (μ ka) (μ kb) sp.toNatClampNeg dp.toNatClampNeg n.toNatClampNeg))))[q]? = H[q]? := fun q hq => oq q (by omega)
  obtain ⟨t, a1, b1⟩ := kk.2 p e R s m args below meth c _ _ cells slots mc ms ls C h1 h2 h3 h4 ⟨ax_upd hW.1 heb (by simp) oq (by
      show _ = some (vp_cell _ _)
      rw [ax_cpw]
      simp [Array.getElem?_setIfInBounds, hlt]) (fun k' e' hk' _ => ax_en_congr (fun j => by simp [ax_cp, hk'])), hW.2.1, hW.2.2.kept hkeep⟩ (fun q hq => (hkeep q hq).trans (hz q hq)) (fun q hq => by
      rcases List.mem_append.mp hq with h | h
      · exact hL q h
      · obtain ⟨z, -, hz⟩ := List.mem_map.mp h
        rw [← hz]
        exact Nat.le_add_right _ _) hl _ hheap X'
  exact ⟨t, step t a1, b1⟩
theorem ax_max {idx : Nat} {x y : Int32} (hd : decode b pc = .ok (.invokestatic idx, 3)) (hw : Cond.methodLink own idx Lib.Math.max.name ∈ ax_T ∧ Cond.static Lib.Math.max.name ∈ ax_T ∧ Cond.initialized "java/lang/Math" ∈ ax_T ∧ Cond.code Lib.Math.max.name Lib.Math.max.code 2 (some .int) ∈ ax_T) (hd1 : 1 ≤ d) (hcat : (st.map fun v => v.category).sum ≤ 8) (kk : ax_X G l own b nL rt ini d r (pc + 3) lv (.int (if x < y then y else x) :: st) sh μ) : ax_X G l own b nL rt ini d r pc lv (.int y :: .int x :: st) sh μ := by
  refine ⟨kk.1, fun p e R s m args below meth c H locs cells slots mc ms ls C h1 h2 h3 h4 hW hz hL hl => ?_⟩
  have hts := C.2.2.2.2.2.2.2.1
  have hfr := C.2.2.2.2.2.2.2.2.1
  have hlo := C.2.2.2.2.2.2.2.2.2
  have k1 := kk.1
  exact va_mmax C.1 C.2.1 (by rw [C.2.2.1]; exact hl.1.symm) C.2.2.2.2.2.2.1 (hts _ hw.1) (hts _ hw.2.1) (hts _ hw.2.2.1) (hts _ hw.2.2.2) (by omega) (by omega) (by omega) (by omega) hd (kk.2 p e R s m args below meth c H locs cells slots mc ms ls C h1 h2 h3 h4 hW hz hL hl)
theorem ax_min {idx : Nat} {x y : Int32} (hd : decode b pc = .ok (.invokestatic idx, 3)) (hw : Cond.methodLink own idx Lib.Math.min.name ∈ ax_T ∧ Cond.static Lib.Math.min.name ∈ ax_T ∧ Cond.initialized "java/lang/Math" ∈ ax_T ∧ Cond.code Lib.Math.min.name Lib.Math.min.code 2 (some .int) ∈ ax_T) (hd1 : 1 ≤ d) (hcat : (st.map fun v => v.category).sum ≤ 8) (kk : ax_X G l own b nL rt ini d r (pc + 3) lv (.int (if y < x then y else x) :: st) sh μ) : ax_X G l own b nL rt ini d r pc lv (.int y :: .int x :: st) sh μ := by
  refine ⟨kk.1, fun p e R s m args below meth c H locs cells slots mc ms ls C h1 h2 h3 h4 hW hz hL hl => ?_⟩
  have hts := C.2.2.2.2.2.2.2.1
  have hfr := C.2.2.2.2.2.2.2.2.1
  have hlo := C.2.2.2.2.2.2.2.2.2
  have k1 := kk.1
  exact va_mmin C.1 C.2.1 (by rw [C.2.2.1]; exact hl.1.symm) C.2.2.2.2.2.2.1 (hts _ hw.1) (hts _ hw.2.1) (hts _ hw.2.2.1) (hts _ hw.2.2.2) (by omega) (by omega) (by omega) (by omega) hd (kk.2 p e R s m args below meth c H locs cells slots mc ms ls C h1 h2 h3 h4 hW hz hL hl)
theorem ax_abs {idx : Nat} {x : Int32} (hd : decode b pc = .ok (.invokestatic idx, 3)) (hw : Cond.methodLink own idx Lib.Math.abs.name ∈ ax_T ∧ Cond.static Lib.Math.abs.name ∈ ax_T ∧ Cond.initialized "java/lang/Math" ∈ ax_T ∧ Cond.code Lib.Math.abs.name Lib.Math.abs.code 1 (some .int) ∈ ax_T) (hd1 : 1 ≤ d) (hcat : (st.map fun v => v.category).sum ≤ 8) (kk : ax_X G l own b nL rt ini d r (pc + 3) lv (.int (if 0 ≤ x then x else 0 - x) :: st) sh μ) : ax_X G l own b nL rt ini d r pc lv (.int x :: st) sh μ := by
  refine ⟨kk.1, fun p e R s m args below meth c H locs cells slots mc ms ls C h1 h2 h3 h4 hW hz hL hl => ?_⟩
  have hts := C.2.2.2.2.2.2.2.1
  have hfr := C.2.2.2.2.2.2.2.2.1
  have hlo := C.2.2.2.2.2.2.2.2.2
  have k1 := kk.1
  exact va_mabs C.1 C.2.1 (by rw [C.2.2.1]; exact hl.1.symm) C.2.2.2.2.2.2.1 (hts _ hw.1) (hts _ hw.2.1) (hts _ hw.2.2.1) (hts _ hw.2.2.2) (by omega) (by omega) (by omega) (by omega) hd (kk.2 p e R s m args below meth c H locs cells slots mc ms ls C h1 h2 h3 h4 hW hz hL hl)
theorem ax_callI {idx k n : Nat} {y : MethodName} {b' : ByteArray} {nL' : Nat} {d' : Nat} {As : List Value} {r' : ax_R} {rest : List Value} {st0 : List Value} (hd : decode b pc = .ok (.invokespecial idx, 3)) (hA : ax_A G l y b' nL' none d' (.ref k :: As) sh μ r')
    (hw : Cond.code y b' nL' none ∈ ax_T ∧ Cond.methodLink own idx y ∈ ax_T ∧ Cond.instanceMethod y ∈ ax_T ∧ Cond.initialized y.cls ∈ ax_T)
    (hy : y.cls ≠ "java/lang/invoke/MethodHandle" ∧ y.cls ≠ "java/lang/invoke/VarHandle" ∧ (parseMethodDescriptor y.desc).map (fun d => d.parameters.length) = some n) (hy1 : y.name = "<init>")
    (hst : st0 = As.reverse ++ .ref k :: rest) (hn : As.length = n) (hd' : d' + 1 ≤ d) (hnL : nL' ≤ 21) (hcat : (rest.map fun v => v.category).sum ≤ 8) (kk : ax_X G l own b nL rt ini d r (pc + 3) lv (r'.1.toList ++ rest) r'.2.1 r'.2.2) : ax_X G l own b nL rt ini d r pc lv st0 sh μ := by
  refine ⟨⟨Nat.le_trans hA.1.1 kk.1.1, Nat.le_trans hA.1.2 kk.1.2⟩, fun p e R s m args below meth c H locs cells slots mc ms ls C h1 h2 h3 h4 hW hz hL hl => ?_⟩
  have hA1 := hA.1
  have k1 := kk.1
  have hts := C.2.2.2.2.2.2.2.1
  have hfr := C.2.2.2.2.2.2.2.2.1
  have hlo := C.2.2.2.2.2.2.2.2.2
  have hgood := ax_good hw.1
  subst hst
  exact ax_back (y := y) (b' := b') (nL' := nL') (rt' := none) (d' := d') (As := As) (r' := r') hA.1 kk C h1 h2 h3 h4 hW hz hL hl (va_runI (n := n) (Ts := ax_T) ⟨C.1, C.2.1, C.2.2.1, C.2.2.2.2.2.2.1, hts⟩ hA.2 ⟨callB_of (Ts := ax_T) (ws' := ax_T) n hts hgood rfl rfl rfl (hts _ hw.2.2.2) (hts _ hw.2.1) hy ⟨by show d' + 1 ≤ _; omega, by show 8 + (nL' + 11) + 40 * d' ≤ _; omega⟩, hy1, hts _ hw.2.2.1⟩ ⟨ax_blind, fun U hU hWU => ax_pre hW hU hWU⟩ rfl hn hl.1 rfl (by show 2 * 0 + _ ≤ 8; omega) hd ⟨by omega, by omega⟩)
theorem ax_callIN {idx k n i : Nat} {host : String} {y : MethodName} {b' : ByteArray} {nL' : Nat} {d' : Nat} {As : List Value} {r' : ax_R} {rest : List Value} {st0 : List Value} (hd : decode b pc = .ok (.invokespecial idx, 3)) (hA : ax_A G l y b' nL' none d' (.ref k :: As) sh μ r')
    (hw : Cond.code y b' nL' none ∈ ax_T ∧ Cond.instanceMethod y ∈ ax_T ∧ Cond.initialized y.cls ∈ ax_T) (hnest : ax_nests[i]? = some (own, idx, y, host))
    (hy : y.cls ≠ "java/lang/invoke/MethodHandle" ∧ y.cls ≠ "java/lang/invoke/VarHandle" ∧ (parseMethodDescriptor y.desc).map (fun d => d.parameters.length) = some n) (hy1 : y.name = "<init>")
    (hst : st0 = As.reverse ++ .ref k :: rest) (hn : As.length = n) (hd' : d' + 1 ≤ d) (hnL : nL' ≤ 21) (hcat : (rest.map fun v => v.category).sum ≤ 8) (kk : ax_X G l own b nL rt ini d r (pc + 3) lv (r'.1.toList ++ rest) r'.2.1 r'.2.2) : ax_X G l own b nL rt ini d r pc lv st0 sh μ := by
  refine ⟨⟨Nat.le_trans hA.1.1 kk.1.1, Nat.le_trans hA.1.2 kk.1.2⟩, fun p e R s m args below meth c H locs cells slots mc ms ls C h1 h2 h3 h4 hW hz hL hl => ?_⟩
  have hA1 := hA.1
  have k1 := kk.1
  have hts := C.2.2.2.2.2.2.2.1
  have hfr := C.2.2.2.2.2.2.2.2.1
  have hlo := C.2.2.2.2.2.2.2.2.2
  have hgood := ax_good hw.1
  subst hst
  exact ax_back (y := y) (b' := b') (nL' := nL') (rt' := none) (d' := d') (As := As) (r' := r') hA.1 kk C h1 h2 h3 h4 hW hz hL hl (va_runIN (n := n) (Ts := ax_T) ⟨C.1, C.2.1, C.2.2.1, C.2.2.2.2.2.2.1, hts⟩ hA.2 ⟨va_cnB (Ts := ax_T) (ws' := ax_T) n hts hgood rfl rfl rfl (hW.2.2.2.2.2.2.1 _ (List.mem_of_getElem? hnest)) (hts _ hw.2.2) hy ⟨by show d' + 1 ≤ _; omega, by show 8 + (nL' + 11) + 40 * d' ≤ _; omega⟩, hy1, hts _ hw.2.1⟩ ⟨ax_blind, fun U hU hWU => ax_pre hW hU hWU⟩ rfl hn hl.1 rfl (by show 2 * 0 + _ ≤ 8; omega) hd ⟨by omega, by omega⟩)
theorem ax_callSN {idx n i : Nat} {host : String} {y : MethodName} {b' : ByteArray} {nL' : Nat} {rt' : Option FieldType} {d' : Nat} {As : List Value} {r' : ax_R} {rest : List Value} {st0 : List Value} (hd : decode b pc = .ok (.invokestatic idx, 3)) (hA : ax_A G l y b' nL' rt' d' As sh μ r')
    (hw : Cond.code y b' nL' rt' ∈ ax_T ∧ Cond.static y ∈ ax_T ∧ Cond.initialized y.cls ∈ ax_T) (hnest : ax_nests[i]? = some (own, idx, y, host))
    (hy : y.cls ≠ "java/lang/invoke/MethodHandle" ∧ y.cls ≠ "java/lang/invoke/VarHandle" ∧ (parseMethodDescriptor y.desc).map (fun d => d.parameters.length) = some n)
    (hst : st0 = As.reverse ++ rest) (hn : As.length = n) (hd' : d' + 1 ≤ d) (hnL : nL' ≤ 21) (hcat : (rest.map fun v => v.category).sum ≤ 8) (kk : ax_X G l own b nL rt ini d r (pc + 3) lv (r'.1.toList ++ rest) r'.2.1 r'.2.2) : ax_X G l own b nL rt ini d r pc lv st0 sh μ := by
  refine ⟨⟨Nat.le_trans hA.1.1 kk.1.1, Nat.le_trans hA.1.2 kk.1.2⟩, fun p e R s m args below meth c H locs cells slots mc ms ls C h1 h2 h3 h4 hW hz hL hl => ?_⟩
  have hA1 := hA.1
  have k1 := kk.1
  have hts := C.2.2.2.2.2.2.2.1
  have hfr := C.2.2.2.2.2.2.2.2.1
  have hlo := C.2.2.2.2.2.2.2.2.2
  have hgood := ax_good hw.1
  subst hst
  exact ax_back (y := y) (b' := b') (nL' := nL') (rt' := rt') (d' := d') (As := As) (r' := r') hA.1 kk C h1 h2 h3 h4 hW hz hL hl (va_runSN (n := n) (Ts := ax_T) ⟨C.1, C.2.1, C.2.2.1, C.2.2.2.2.2.2.1, hts⟩ hA.2 ⟨va_cnB (Ts := ax_T) (ws' := ax_T) n hts hgood rfl rfl rfl (hW.2.2.2.2.2.2.1 _ (List.mem_of_getElem? hnest)) (hts _ hw.2.2) hy ⟨by show d' + 1 ≤ _; omega, by show 8 + (nL' + 11) + 40 * d' ≤ _; omega⟩, hts _ hw.2.1, trivial⟩ ⟨ax_blind, fun U hU hWU => ax_pre hW hU hWU⟩ rfl hn hl.1 rfl (by show 2 * 0 + _ ≤ 8; omega) hd ⟨by omega, by omega⟩)
/-- texts -/
theorem ax_sgetf {idx i : Nat} {n dsc : String} {v : Value} (hd : decode b pc = .ok (.getfield idx, 3)) (hi : i < ax_strs.length) (hw : Cond.fieldLink own idx "java/lang/String" n dsc ∈ ax_T) (hv : (n = "coder" ∧ dsc = "B" ∧ v = .int 0) ∨ (n = "value" ∧ dsc = "[B" ∧ v = .ref (G.2.2.2.2.1 i))) (kk : ax_X G l own b nL rt ini d r (pc + 3) lv (v :: st) sh μ) : ax_X G l own b nL rt ini d r pc lv (.ref (G.2.2.2.1 i) :: st) sh μ := by
  refine ⟨kk.1, fun p e R s m args below meth c H locs cells slots mc ms ls C h1 h2 h3 h4 hW hz hL hl => ?_⟩
  have hts := C.2.2.2.2.2.2.2.1
  have hE : va_OF "java/lang/String" n dsc v (G.2.2.2.1 i) (fun q => G.1 ≤ q) s H := by
    rcases hv with ⟨rfl, rfl, rfl⟩ | ⟨rfl, rfl, rfl⟩
    · exact (hW.2.2.1.1 i hi).2.1
    · exact (hW.2.2.1.1 i hi).2.2.1
  obtain ⟨cf, k, fi, f, cell, q1, q2, q3, q4, q5, q6⟩ := hE
  exact W.getf C.1 C.2.1 C.2.2.2.2.2.2.1 (hts _ hw) q1 q2 q3 q4 (v := v) q5 rfl rfl hd (kk.2 p e R s m args below meth c H locs cells slots mc ms ls C h1 h2 h3 h4 hW hz hL hl)
theorem ax_slen {i : Nat} {v : Int32} (hd : decode b pc = .ok (.arraylength, 1)) (hi : i < ax_strs.length) (hv : Int32.ofNat (ax_len.getD i 0) = v) (kk : ax_X G l own b nL rt ini d r (pc + 1) lv (.int v :: st) sh μ) : ax_X G l own b nL rt ini d r pc lv (.ref (G.2.2.2.2.1 i) :: st) sh μ := by
  refine ⟨kk.1, fun p e R s m args below meth c H locs cells slots mc ms ls C h1 h2 h3 h4 hW hz hL hl => ?_⟩
  subst hv
  obtain ⟨cell, q1, q2, q3, q4, q5, q6, q7⟩ := (hW.2.2.1.1 i hi).2.2.2
  exact W.alen (n := Int32.ofNat (ax_len.getD i 0)) C.1 C.2.1 q1 q2 q5 rfl rfl hd (kk.2 p e R s m args below meth c H locs cells slots mc ms ls C h1 h2 h3 h4 hW hz hL hl)
theorem ax_sbald {i : Nat} {j : Int32} (hd : decode b pc = .ok (.baload, 1)) (hi : i < ax_strs.length) (hj : vp_in j (ax_len.getD i 0)) (kk : ax_X G l own b nL rt ini d r (pc + 1) lv (.int ((ax_byt.getD i []).getD j.toNatClampNeg 0) :: st) sh μ) : ax_X G l own b nL rt ini d r pc lv (.int j :: .ref (G.2.2.2.2.1 i) :: st) sh μ := by
  refine ⟨kk.1, fun p e R s m args below meth c H locs cells slots mc ms ls C h1 h2 h3 h4 hW hz hL hl => ?_⟩
  obtain ⟨cell, q1, q2, q3, q4, q5, q6, q7⟩ := (hW.2.2.1.1 i hi).2.2.2
  have hlt : j.toNatClampNeg < ax_len.getD i 0 := Nat.not_le.mp fun q => hj (Or.inr q)
  have hin' : ¬ (j < 0 ∨ cell.slots.size ≤ j.toNatClampNeg) := by
    intro q
    rcases q with q | q
    · exact hj (Or.inl q)
    · omega
  exact W.bald C.1 C.2.1 q1 q2 q3 hin' (q6 _ hlt) rfl rfl hd (kk.2 p e R s m args below meth c H locs cells slots mc ms ls C h1 h2 h3 h4 hW hz hL hl)
theorem ax_gets1 {idx : Nat} (hd : decode b pc = .ok (.getstatic idx, 3)) (hw : Cond.fieldLink own idx "java/lang/String" "COMPACT_STRINGS" "Z" ∈ ax_T) (kk : ax_X G l own b nL rt ini d r (pc + 3) lv (.int 1 :: st) sh μ) : ax_X G l own b nL rt ini d r pc lv st sh μ := by
  refine ⟨kk.1, fun p e R s m args below meth c H locs cells slots mc ms ls C h1 h2 h3 h4 hW hz hL hl => ?_⟩
  have hts := C.2.2.2.2.2.2.2.1
  obtain ⟨cf, kf, fi, f, a, cell, q1, q2, q3, q4, q5, q6, q7, q8⟩ := hW.2.2.2.2.1
  exact W.gets C.1 C.2.1 C.2.2.2.2.2.2.1 (hts _ hw) q1 q2 q3 q4 q5 (fun e => by rw [e] at q6; cases q6) q7 rfl hd (kk.2 p e R s m args below meth c H locs cells slots mc ms ls C h1 h2 h3 h4 hW hz hL hl)
theorem ax_gets2 {idx : Nat} (hd : decode b pc = .ok (.getstatic idx, 3)) (hw : Cond.fieldLink own idx "jdk/internal/util/Preconditions" "SIOOBE_FORMATTER" "Ljava/util/function/BiFunction;" ∈ ax_T) (hx : (sh.length ≤ r.2.1.length ∧ ax_sl sh ≤ ax_sl r.2.1)) (kk : ∀ v : Value, (v = .null ∨ ∃ a, v = .ref a) → ax_X G l own b nL rt ini d r (pc + 3) lv (v :: st) sh μ) : ax_X G l own b nL rt ini d r pc lv st sh μ := by
  refine ⟨hx, fun p e R s m args below meth c H locs cells slots mc ms ls C h1 h2 h3 h4 hW hz hL hl => ?_⟩
  have hts := C.2.2.2.2.2.2.2.1
  obtain ⟨v, hv, cf, kf, fi, f, a, cell, q1, q2, q3, q4, q5, q6, q7, q8⟩ := hW.2.2.2.2.2.1
  exact W.gets C.1 C.2.1 C.2.2.2.2.2.2.1 (hts _ hw) q1 q2 q3 q4 q5 (fun e => by rw [e] at q6; cases q6) q7 rfl hd ((kk v hv).2 p e R s m args below meth c H locs cells slots mc ms ls C h1 h2 h3 h4 hW hz hL hl)
theorem ax_callVS {idx i n : Nat} {y : MethodName} {b' : ByteArray} {nL' : Nat} {rt' : Option FieldType} {d' : Nat} {As : List Value} {r' : ax_R} {rest : List Value} {st0 : List Value} (hd : decode b pc = .ok (.invokevirtual idx, 3)) (hA : ax_A G l y b' nL' rt' d' (.ref (G.2.2.2.1 i) :: As) sh μ r') (hi : i < ax_strs.length)
    (hw : Cond.code y b' nL' rt' ∈ ax_T ∧ Cond.methodLink own idx y ∈ ax_T ∧ Cond.instanceMethod y ∈ ax_T ∧ Cond.selects y.cls y y ∈ ax_T ∧ Cond.initialized y.cls ∈ ax_T)
    (hy : y.cls ≠ "java/lang/invoke/MethodHandle" ∧ y.cls ≠ "java/lang/invoke/VarHandle" ∧ (parseMethodDescriptor y.desc).map (fun d => d.parameters.length) = some n) (hyS : y.cls = "java/lang/String")
    (hst : st0 = As.reverse ++ .ref (G.2.2.2.1 i) :: rest) (hn : As.length = n) (hd' : d' + 1 ≤ d) (hnL : nL' ≤ 21) (hcat : (rest.map fun v => v.category).sum ≤ 8) (kk : ax_X G l own b nL rt ini d r (pc + 3) lv (r'.1.toList ++ rest) r'.2.1 r'.2.2) : ax_X G l own b nL rt ini d r pc lv st0 sh μ := by
  refine ⟨⟨Nat.le_trans hA.1.1 kk.1.1, Nat.le_trans hA.1.2 kk.1.2⟩, fun p e R s m args below meth c H locs cells slots mc ms ls C h1 h2 h3 h4 hW hz hL hl => ?_⟩
  have hA1 := hA.1
  have k1 := kk.1
  have hts := C.2.2.2.2.2.2.2.1
  have hfr := C.2.2.2.2.2.2.2.2.1
  have hlo := C.2.2.2.2.2.2.2.2.2
  have hgood := ax_good hw.1
  subst hst
  refine ax_back (y := y) (b' := b') (nL' := nL') (rt' := rt') (d' := d') (As := As) (r' := r') hA.1 kk C h1 h2 h3 h4 hW hz hL hl (va_runV (C := y.cls) (n := n) (Ts := ax_T) ⟨C.1, C.2.1, C.2.2.1, C.2.2.2.2.2.2.1, hts⟩ hA.2 ⟨callB_of (Ts := ax_T) (ws' := ax_T) n hts hgood rfl rfl rfl (hts _ hw.2.2.2.2) (hts _ hw.2.1) hy ⟨by show d' + 1 ≤ _; omega, by show 8 + (nL' + 11) + 40 * d' ≤ _; omega⟩, hts _ hw.2.2.1, hts _ hw.2.2.2.1⟩ ⟨ax_blind, ?_, fun U hU hWU => ax_pre hW hU hWU⟩ rfl hn hl.1 rfl (by show 2 * 0 + _ ≤ 8; omega) hd ⟨by omega, by omega⟩)
  obtain ⟨cell, q1, q2, q3, -⟩ := (hW.2.2.1.1 i hi).1
  rw [hyS]
  exact ⟨cell, q1, q2, q3⟩

theorem ax_slcons {es : List ax_E} : ax_sl (sh ++ es) = ax_sl sh + ax_sl es := by unfold ax_sl; simp
theorem ax_slrep {e0 : ax_E} (n : Nat) : ax_sl (List.replicate n e0) = n * ax_e1 e0 := by
  induction n with
  | zero => simp [ax_sl]
  | succ n ih => rw [List.replicate_succ, show ∀ (a : ax_E) (q : List ax_E), ax_sl (a :: q) = ax_e1 a + ax_sl q from fun a q => by unfold ax_sl; simp, ih, Nat.succ_mul]; omega
theorem ax_slrows {k N M : Nat} : ax_sl (.inr (.inr (k + 1, N)) :: List.replicate N (.inr (.inl (0, M)))) = N + N * M := by
  rw [show ∀ (a : ax_E) (q : List ax_E), ax_sl (a :: q) = ax_e1 a + ax_sl q from fun a q => by unfold ax_sl; simp, ax_slrep]
  rfl
theorem ax_mna {idx k N M : Nat} {n m' : Int32} {sh' : List ax_E} (hd : decode b pc = .ok (.multianewarray idx 2, 4)) (hw : Cond.classLink own idx "[[I" ∈ ax_T ∧ Cond.arrayClass .int ∈ ax_T) (hn : ¬ n < 0) (hm : ¬ m' < 0) (hN : n.toNatClampNeg = N) (hM : m'.toNatClampNeg = M) (hbN : N ≤ 1000) (hbM : M ≤ 1000) (hk : sh.length = k) (hsh : sh ++ (.inr (.inr (k + 1, N)) :: List.replicate N (.inr (.inl (0, M)))) = sh') (kk : ax_X G l own b nL rt ini d r (pc + 4) lv (.ref (G.1 + k) :: st) sh' (ax_zz μ k (N + 1))) : ax_X G l own b nL rt ini d r pc lv (.int m' :: .int n :: st) sh μ := by
  subst hk
  subst hsh
  subst hN
  subst hM
  have k1 := kk.1
  rw [ax_slcons, List.length_append, ax_slrows] at k1
  simp only [List.length_cons, List.length_replicate] at k1
  refine ⟨⟨by omega, by omega⟩, fun p e R s m args below meth c H locs cells slots mc ms ls C h1 h2 h3 h4 hW hz hL hl => ?_⟩
  have hts := C.2.2.2.2.2.2.2.1
  have hsz := hW.1.1
  intro T hT X
  obtain ⟨vm₁, cA, comp, -, fA, fC, -, -, X', step⟩ := X.multianewarray2F (ty := .int) C.1 C.2.2.2.2.2.2.1 (hts _ hw.1) hW.2.2.2.2.2.2.2.1 (hts _ hw.2) (g := F0 m pc ls (.int m' :: .int n :: st)) rfl (by rw [C.2.1]; exact hd) rfl hn hm (by omega) (by show m'.toNatClampNeg * 4 ≤ _; omega) (by omega) rfl rfl (by omega) (by omega)
  have ec1 : G.2.2.1 0 = comp := Option.some.inj ((hW.2.1.2 0 _ rfl).2.symm.trans fC)
  have ec2 : G.2.2.1 2 = cA := Option.some.inj ((hW.2.1.2 2 _ rfl).2.symm.trans fA)
  subst ec1
  subst ec2
  generalize hF : Jvm.Free.Multi.fill (T.setVm vm₁) (G.2.2.1 2) (G.2.2.1 0) n.toNatClampNeg m'.toNatClampNeg (defaultValue .int) n.toNatClampNeg = F at X' step
  have hTh : (T.setVm vm₁).heap = H := hT
  obtain ⟨f1, f2, -, -⟩ := Jvm.Free.Multi.fill_facts (T.setVm vm₁) (G.2.2.1 2) (G.2.2.1 0) n.toNatClampNeg m'.toNatClampNeg (defaultValue .int) n.toNatClampNeg
  rw [hF, hTh] at f1 f2
  have hold : ∀ x : Nat, x < H.size → F.heap[x]? = H[x]? := fun x hx => by
    have := Jvm.Free.Multi.fill_old (T.setVm vm₁) (G.2.2.1 2) (G.2.2.1 0) n.toNatClampNeg m'.toNatClampNeg (defaultValue .int) (a := x) (by rw [hTh]; exact hx) n.toNatClampNeg
    rw [hF, hTh] at this
    exact this
  have hrow : ∀ j : Nat, j < n.toNatClampNeg → F.heap[H.size + 1 + j]? = some (vp_cell (G.2.2.1 0) (m'.toNatClampNeg, .inl (fun _ => 0))) := fun j hj => by
    have := Jvm.Free.Multi.fill_inner (T.setVm vm₁) (G.2.2.1 2) (G.2.2.1 0) n.toNatClampNeg m'.toNatClampNeg (defaultValue .int) n.toNatClampNeg j hj
    rw [hF, hTh] at this
    rw [this]
    exact congrArg some (arrV_new _ _ _)
  rw [vr_outer] at f2
  have hkeep : ∀ q, q < G.1 → F.heap[q]? = H[q]? := fun q hq => hold q (by omega)
  have eT : T.heap.size = G.1 + sh.length := by rw [hT, hsz]
  rw [eT] at step
  have hH : ax_H G (sh ++ (.inr (.inr (sh.length + 1, n.toNatClampNeg)) :: List.replicate n.toNatClampNeg (.inr (.inl (0, m'.toNatClampNeg))))) (ax_zz μ sh.length (n.toNatClampNeg + 1)) F.heap := by
    refine ⟨by rw [f1, hsz, List.length_append]; simp only [List.length_cons, List.length_replicate]; omega, fun k0 e0 he0 => ?_⟩
    by_cases hl0 : k0 < sh.length
    · rw [List.getElem?_append_left hl0] at he0
      rw [ax_en_congr (fun j => by simp only [ax_zz]; rw [if_neg (by omega)])]
      exact (hW.1.2 k0 e0 he0).kept (hold _ (by show G.1 + k0 < _; omega))
    · rw [List.getElem?_append_right (Nat.not_lt.mp hl0)] at he0
      cases hkk : k0 - sh.length with
      | zero =>
        rw [hkk] at he0
        cases he0
        have hk0 : k0 = sh.length := by omega
        subst hk0
        show F.heap[_]? = some (vp_cell _ _)
        rw [← hsz, f2, vp_cell_q, hsz]
        refine congrArg (fun f => some (arrV _ _ f)) (funext fun j => ?_)
        by_cases hj : j < n.toNatClampNeg
        · simp only [if_pos hj]
          rw [show G.1 + sh.length + 1 + j = G.1 + (sh.length + 1 + j) by omega]
        · simp only [if_neg hj]
      | succ j =>
        rw [hkk, List.getElem?_cons_succ] at he0
        have hj : j < n.toNatClampNeg := by
          have := (List.getElem?_eq_some_iff.mp he0).1
          rwa [List.length_replicate] at this
        rw [List.getElem?_replicate, if_pos hj] at he0
        cases he0
        have hk0 : k0 = sh.length + 1 + j := by omega
        subst hk0
        show F.heap[_]? = some (vp_cell _ _)
        rw [show G.1 + (sh.length + 1 + j) = H.size + 1 + j by omega, hrow j hj]
        refine congrArg (fun f => some (vp_cell _ (_, .inl f))) (funext fun i => ?_)
        simp only [ax_zz]
        rw [if_pos (by omega)]
  obtain ⟨t, a1, b1⟩ := kk.2 p e R s m args below meth c F.heap locs (cells + 1 + n.toNatClampNeg) (slots + n.toNatClampNeg + n.toNatClampNeg * m'.toNatClampNeg) mc ms ls C h1 h2 (by rw [List.length_append]; simp only [List.length_cons, List.length_replicate]; show cells + 1 + n.toNatClampNeg + _ = _; omega) (by rw [ax_slcons, ax_slrows]; omega) ⟨hH, hW.2.1, hW.2.2.kept hkeep⟩ (fun q hq => (hkeep q hq).trans (hz q hq)) hL hl F rfl X'
  exact ⟨t, step t a1, b1⟩

/-- the script -/
theorem ax_scld {i : Int32} (hd : decode b pc = .ok (.iaload, 1)) (hi : vp_in i G.2.2.2.2.2.2.1) (kk : ax_X G l own b nL rt ini d r (pc + 1) lv (.int (G.2.2.2.2.2.2.2 i.toNatClampNeg) :: st) sh μ) : ax_X G l own b nL rt ini d r pc lv (.int i :: .ref G.2.2.2.2.2.1 :: st) sh μ := by
  refine ⟨kk.1, fun p e R s m args below meth c H locs cells slots mc ms ls C h1 h2 h3 h4 hW hz hL hl => ?_⟩
  obtain ⟨scr, q1, q2, q3, q4, q5⟩ := hW.2.2.2.2.2.2.2.2.1
  have hlt : i.toNatClampNeg < G.2.2.2.2.2.2.1 := Nat.not_le.mp fun q => hi (Or.inr q)
  exact W.iald (v := .int (G.2.2.2.2.2.2.2 i.toNatClampNeg)) C.1 C.2.1 q1 q2 q3 (by rw [q4]; exact hi) (q5 _ hlt) rfl rfl hd (kk.2 p e R s m args below meth c H locs cells slots mc ms ls C h1 h2 h3 h4 hW hz hL hl)
theorem ax_sclen (hd : decode b pc = .ok (.arraylength, 1)) (kk : ax_X G l own b nL rt ini d r (pc + 1) lv (.int (Int32.ofNat G.2.2.2.2.2.2.1) :: st) sh μ) : ax_X G l own b nL rt ini d r pc lv (.ref G.2.2.2.2.2.1 :: st) sh μ := by
  refine ⟨kk.1, fun p e R s m args below meth c H locs cells slots mc ms ls C h1 h2 h3 h4 hW hz hL hl => ?_⟩
  obtain ⟨scr, q1, q2, q3, q4, q5⟩ := hW.2.2.2.2.2.2.2.2.1
  exact W.alen (n := Int32.ofNat G.2.2.2.2.2.2.1) C.1 C.2.1 q1 q2 (by rw [q4] <;> rfl) rfl rfl hd (kk.2 p e R s m args below meth c H locs cells slots mc ms ls C h1 h2 h3 h4 hW hz hL hl)

end AX
