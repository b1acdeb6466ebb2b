/-! THE CLAIM OUT OF ONE WALK OF THE LAW'S BODY. Your part is whole_start (and what it stands on); all else here is the same for every law, but numbers. -/
def R_law : String := "RugIsJurisdictionLaw"
def lw_P (b : Addr) (xs : List Int32) (args : Array Value) (s : State) : Prop := args = #[.ref b] ∧ s.IntsAt b xs ∧ xs.length ≤ 3584 ∧ (Jvm.Cond.and given_1 narrow_1).before args s = true
def lw_Q (_ : Array Value) (s : State) (o : Outcome) (t : State) : Prop := o = .returned (some (.int 1)) ∧ Framed s o t [] 600000 7302250
def lw_Z (below : List Frame) (a : Array Value) (s : State) : State → Prop := fun t => ∃ o, t.status = .running ∧ Ended t below o ∧ lw_Q a s o t
/-- the law's own end, with 1 on the stack, nothing written that was there before, its room as the claim has it -/
theorem lw_ret {p : Program} {l : Launch} {e : Env} {s : State} {m : MethodId} {below : List Frame} {meth : Method} {c : Code} {b : Nat} (hx : p.tables.exec = Jvm.exec) (hb : c.code = code) (hr : meth.sig.returnType = ret) (hlocks : meth.locks = false) {pc : Nat} {H : Heap} {ls : Array Slot} (hdg : decode code pc = .ok (.ireturn, 1)) : W p l e room_1 s m #[Value.ref b] below meth c H [] 600000 7302250 (lw_Z below #[Value.ref b] s) (F0 m pc ls [.int 1]) := by
  intro T hT X
  obtain ⟨fs, hret, hrun, hended, hW, hframe⟩ := X.leave (v := some (.int 1)) (hlocks := hlocks) (fun h => by rw [hr] at h; cases h)
  have hmeth' : T.vm.method? m = some meth := X.method'
  refine ⟨T.setFrames fs, ?_, .returned (some (.int 1)), hrun, hended, rfl, ⟨_, rfl⟩, hW, hframe⟩
  jvm_step X.here [X.here.top, hx, hb, hdg, hmeth', hr, ret, narrow_b1]
  (try refine ⟨rfl, ?_⟩); (try refine ⟨rfl, ?_⟩)
  first | (intro acts; rw [hret _ acts rfl rfl rfl]) | rw [hret _ _ rfl rfl rfl]
  exact Steps.refl _
/-- what holds at the law's entry: the machine, the code, the tables' words (any of lw_tbl by 'hts w (by decide +kernel)'), the script of L ints xs at the cell b, what the Statement gives of the start (any of its parts by flat_of_before) -/
def lw_At (p : Program) (s : State) (m : MethodId) (meth : Method) (c : Code) (b L : Nat) (xs : Nat → Int32) : Prop :=
  p.tables.exec = Jvm.exec ∧ c.code = code ∧ meth.sig.returnType = ret ∧ c.maxLocals = 4 ∧ s.vm.findClass R_law = some m.cls ∧ (∀ w ∈ lw_tbl, w.before #[Value.ref b] s = true) ∧ va_X b L xs s s.heap ∧ b < s.heap.size ∧ meth.locks = false ∧ (Jvm.Cond.and given_1 narrow_1).before #[Value.ref b] s = true
def st_tm (i : Nat) : Term := match ax_strs[i]? with
  | some q => Term.string q.1 q.2.1
  | none => Term.int 0
def st_F : List Cond := flatC (Jvm.Cond.and given_1 narrow_1)
def st_V (i : Nat) : Term := .field (st_tm i) "java/lang/String" "value" "[B"
theorem st_ex : (List.range 14).all (fun i => decide (Cond.exactly (st_tm i) "java/lang/String" ∈ st_F)) = true := by decide +kernel
theorem st_co : (List.range 14).all (fun i => decide (Cond.eq (.field (st_tm i) "java/lang/String" "coder" "B") (.int 0) ∈ st_F)) = true := by decide +kernel
theorem st_ar : (List.range 14).all (fun i => decide (Cond.arrayOf (st_V i) .byte ∈ st_F)) = true := by decide +kernel
theorem st_le : (List.range 14).all (fun i => decide (Cond.eq (.length (st_V i)) (.int (Int32.ofNat (ax_len.getD i 0))) ∈ st_F)) = true := by decide +kernel
theorem st_el : (List.range 14).all (fun i => (List.range (ax_len.getD i 0)).all (fun j => decide (Cond.eq (.elem (st_V i) (.int (Int32.ofNat j))) (.int ((ax_byt.getD i []).getD j 0)) ∈ st_F))) = true := by decide +kernel
theorem st_nn : (List.range 14).all (fun i => decide (ax_len.getD i 0 < 2 ^ 31)) = true := by decide +kernel
theorem st_ne : (List.range 14).all (fun j => (List.range j).all (fun i => decide (Cond.not (Cond.eq (st_tm i) (st_tm j)) ∈ st_F))) = true := by decide +kernel
theorem st_sr : ax_strs.all (fun q => decide (Cond.stringRef q.1 q.2.1 q.2.2.1 ∈ tables_1)) = true := by decide +kernel
theorem st_ns : ax_nests.all (fun q => decide (Cond.methodLinkNest q.1 q.2.1 q.2.2.1 q.2.2.2 ∈ tables_1)) = true := by decide +kernel
theorem st_all {p : Nat → Bool} (h : (List.range 14).all p = true) {i : Nat} (hi : i < 14) : p i = true := List.all_eq_true.mp h i (List.mem_range.mpr hi)
theorem in_tbl {w : Cond} (h : w ∈ tables_1) : w ∈ lw_tbl := by unfold lw_tbl; exact List.mem_append_right _ h
set_option maxHeartbeats 8000000 in
set_option maxRecDepth 100000 in
theorem st_O {args : Array Value} {s : State} {b L : Nat} {xs : Nat → Int32} {D : va_G} {cA : Nat → ClassId} (hts : ∀ w ∈ lw_tbl, w.before args s = true) (hgv : (Jvm.Cond.and given_1 narrow_1).before args s = true) (hX : va_X b L xs s s.heap) (hbl : b < s.heap.size) : ∃ adK adV : Nat → Nat, ax_O (s.heap.size, (D, (cA, (adK, (adV, (b, (L, xs))))))) s s.heap := by
  have hs : ∀ c ∈ st_F, c.before args s = true := flat_of_before _ hgv
  have hA : ∀ a : Nat, a < s.heap.size → ¬ s.heap.size ≤ a := fun a h => Nat.not_le.mpr h
  obtain ⟨adK, adV, hS, hev⟩ := vk_Sof (args := args) (s := s) (N := 14) (tm := st_tm) (len := ax_len) (byt := ax_byt) (A := fun q => s.heap.size ≤ q)
    (fun i hi => of_decide_eq_true (st_all st_nn hi))
    (fun i hi => hs _ (of_decide_eq_true (st_all st_ex hi)))
    (fun i hi => hs _ (of_decide_eq_true (st_all st_co hi)))
    (fun i hi => hs _ (of_decide_eq_true (st_all st_ar hi)))
    (fun i hi => hs _ (of_decide_eq_true (st_all st_le hi)))
    (fun i hi j hj => hs _ (of_decide_eq_true (List.all_eq_true.mp (st_all st_el hi) j (List.mem_range.mpr hj))))
    (fun i j hi hj hij => by
      rcases Nat.lt_or_ge i j with h | h
      · exact Or.inl (hs _ (of_decide_eq_true (List.all_eq_true.mp (st_all st_ne hj) i (List.mem_range.mpr h))))
      · exact Or.inr (hs _ (of_decide_eq_true (List.all_eq_true.mp (st_all st_ne hi) j (List.mem_range.mpr (by omega))))))
    hA
  have hz2 := va_Zqof (args := args) (s := s) (A := fun q => s.heap.size ≤ q) (C := "jdk/internal/util/Preconditions") (n := "SIOOBE_FORMATTER") (d := "Ljava/util/function/BiFunction;") (hts _ (in_tbl (by decide +kernel))) (hts _ (in_tbl (by decide +kernel))) (hs _ (by decide +kernel)) hA
  refine ⟨adK, adV, hS, fun i q hq => ?_, va_Zof (hts _ (in_tbl (by decide +kernel))) (hts _ (in_tbl (by decide +kernel))) (va_eqt (hs _ (by decide +kernel))) hA, ?_, fun q hq => va_Nw.of rfl (hts _ (in_tbl (of_decide_eq_true (List.all_eq_true.mp st_ns q hq)))), ?_, hX, hbl⟩
  · have hi : i < 14 := (List.getElem?_eq_some_iff.mp hq).1
    have h1 := hev i hi
    have h2 : st_tm i = Term.string q.1 q.2.1 := by unfold st_tm; rw [hq]
    rw [h2] at h1
    exact vk_R.of (hts _ (in_tbl (of_decide_eq_true (List.all_eq_true.mp st_sr q (List.mem_of_getElem? hq))))) h1
  · rcases hz2 with h | ⟨t, h⟩
    · exact ⟨_, Or.inl rfl, h⟩
    · exact ⟨_, Or.inr ⟨t, rfl⟩, h⟩
  · exact Jvm.Stand.arrayOver_alikeB (Vm.Alike.refl s.vm) (hts (Cond.arrayOver (.array .int)) (in_tbl (by decide +kernel)))
theorem st_cls {args : Array Value} {s : State} (hts : ∀ w ∈ ax_T, w.before args s = true) (k : Nat) : ∃ (c : ClassId) (iS : Nat → Nat), ∀ q : vw_C, vwCl[k]? = some q → u_Kn s q.1 q.2.1 q.2.2 c iS := by
  match k with
  | 0 =>
    obtain ⟨c, iS, h⟩ := u_known (C := RX0) (T := TX0) (N := 12) (n := 12) hts in_X0 (hts _ nw_X9_32.2.1)
    exact ⟨c, iS, fun q hq => by cases hq; exact h⟩
  | 1 =>
    obtain ⟨c, iS, h⟩ := u_known (C := RX1) (T := TX1) (N := 7) (n := 7) hts in_X1 (hts _ nw_X9_64.2.1)
    exact ⟨c, iS, fun q hq => by cases hq; exact h⟩
  | 2 =>
    obtain ⟨c, iS, h⟩ := u_known (C := RX2) (T := TX2) (N := 4) (n := 4) hts in_X2 (hts _ nw_X9_57.2.1)
    exact ⟨c, iS, fun q hq => by cases hq; exact h⟩
  | 3 =>
    obtain ⟨c, iS, h⟩ := u_known (C := RX3) (T := TX3) (N := 6) (n := 6) hts in_X3 (hts _ nw_X9_23.2.1)
    exact ⟨c, iS, fun q hq => by cases hq; exact h⟩
  | 4 =>
    obtain ⟨c, iS, h⟩ := u_known (C := RX4) (T := TX4) (N := 3) (n := 3) hts in_X4 (hts _ nw_X9_71.2.1)
    exact ⟨c, iS, fun q hq => by cases hq; exact h⟩
  | 5 =>
    obtain ⟨c, iS, h⟩ := u_known (C := RX5) (T := TX5) (N := 5) (n := 5) hts in_X5 (hts _ nw_X9_41.2.1)
    exact ⟨c, iS, fun q hq => by cases hq; exact h⟩
  | 6 =>
    obtain ⟨c, iS, h⟩ := u_known (C := RX6) (T := TX6) (N := 5) (n := 5) hts in_X6 (hts _ nw_X9_16.2.1)
    exact ⟨c, iS, fun q hq => by cases hq; exact h⟩
  | 7 =>
    obtain ⟨c, iS, h⟩ := u_known (C := RX7) (T := TX7) (N := 5) (n := 5) hts in_X7 (hts _ nw_X9_7.2.1)
    exact ⟨c, iS, fun q hq => by cases hq; exact h⟩
  | 8 =>
    obtain ⟨c, iS, h⟩ := u_known (C := RX8) (T := TX8) (N := 3) (n := 3) hts in_X8 (hts _ nw_X9_50.2.1)
    exact ⟨c, iS, fun q hq => by cases hq; exact h⟩
  | 9 =>
    obtain ⟨c, iS, h⟩ := u_known (C := RX9) (T := TX9) (N := 9) (n := 9) hts in_X9 (hts _ nw_L_7.2.1)
    exact ⟨c, iS, fun q hq => by cases hq; exact h⟩
  | 10 =>
    obtain ⟨c, iS, h⟩ := u_known (C := RX10) (T := TX10) (N := 37) (n := 37) hts in_X10 (hts _ nw_L_10.2.1)
    exact ⟨c, iS, fun q hq => by cases hq; exact h⟩
  | k + 11 => exact ⟨0, fun _ => 0, fun q hq => by simp [vwCl] at hq⟩
theorem st_arr {args : Array Value} {s : State} {ty : FieldType} (h : (Cond.arrayClass ty).before args s = true) (hty : ∀ C, ty ≠ .object C) : ∃ c : ClassId, ArrOfT s c ty ∧ va_RA s c ty := by
  obtain ⟨c, k, comp, h1, h2, h3⟩ := Cond.arrayClass_spec h
  refine ⟨c, fun n z => ⟨fun q hq => (by cases hq), k, h2, comp, h3⟩, ?_⟩
  cases ty with
  | object C => exact absurd rfl (hty C)
  | _ => exact h1
set_option maxHeartbeats 8000000 in
set_option maxRecDepth 100000 in
theorem whole_start {p : Program} {e : Env} {s : State} {m : MethodId} {below : List Frame} {meth : Method} {c : Code} (l : Launch) (hflags : l.flags = flags0) {b L : Nat} {xs : Nat → Int32} (hL : L ≤ 3584) (C0 : lw_At p s m meth c b L xs) : W p l e room_1 s m #[Value.ref b] below meth c s.heap [] 0 0 (lw_Z below #[Value.ref b] s) (entryFrame m ([Value.ref b] : List Value).toArray 4) := by
  obtain ⟨hx, hb, hr, hml, hown, hts, hX, hbl, hlocks, hgv⟩ := C0
  have htT : ∀ w ∈ ax_T, w.before #[Value.ref b] s = true := fun w hw => hts w (List.mem_filter.mp hw).1
  have hcl := st_cls htT
  obtain ⟨c0, a0, r0⟩ := st_arr (s := s) (ty := .int) (hts _ (in_tbl (by decide +kernel))) (fun C h => by cases h)
  obtain ⟨c1, a1, r1⟩ := st_arr (s := s) (ty := .boolean) (hts _ (in_tbl (by decide +kernel))) (fun C h => by cases h)
  obtain ⟨comp, c2, k2, g1, g2, g3, g4, g5⟩ := Jvm.Stand.arrayOver_specB (hts (Cond.arrayOver (.array .int)) (in_tbl (by decide +kernel)))
  have hD : ∃ D : va_G, ∀ (k : Nat) (q : vw_C), vwCl[k]? = some q → u_Kn s q.1 q.2.1 q.2.2 (D.1 k) (D.2 k) := ⟨(fun k => Classical.choose (hcl k), fun k => Classical.choose (Classical.choose_spec (hcl k))), fun k => Classical.choose_spec (Classical.choose_spec (hcl k))⟩
  obtain ⟨D, hDk⟩ := hD
  obtain ⟨adK, adV, hO⟩ := st_O (D := D) (cA := fun t => if t = 0 then c0 else if t = 1 then c1 else c2) hts hgv hX hbl
  generalize hG : (s.heap.size, (D, ((fun t => if t = 0 then c0 else if t = 1 then c1 else c2 : Nat → ClassId), (adK, (adV, (b, (L, xs))))))) = G at hO
  have hG1 : G.1 = s.heap.size := by rw [← hG]
  have hGb : G.2.2.2.2.2.1 = b := by rw [← hG]
  have hGx : G.2.2.2.2.2.2.1 = L ∧ G.2.2.2.2.2.2.2 = xs := by rw [← hG]; exact ⟨rfl, rfl⟩
  have hK : va_K G.2.1 vwCl (ax_tys G) s := by
    rw [← hG]
    refine ⟨hDk, fun k q hq => ?_⟩
    match k, hq with
    | 0, hq => cases hq; exact ⟨a0, r0⟩
    | 1, hq => cases hq; exact ⟨a1, r1⟩
    | 2, hq => cases hq; exact ⟨fun n z => ⟨fun q hq => (by cases hq), k2, g3, comp, g4⟩, g5⟩
    | k + 3, hq => simp [ax_tys] at hq
  obtain ⟨μ', hp⟩ := law_pure xs L hL (fun _ _ => 0)
  have hX1 := a_L_law (G := G) (l := l) hGx hp
  rw [hGb] at hX1
  have hl := lv_entry ([.ref b]) (n := 4) (Nat.le_of_ble_eq_true rfl)
  rw [lg_entry_eq]
  have K := hX1.2 p e room_1 s m #[Value.ref b] below meth c s.heap [] 0 0 71 (ax_sl SHF) _ ⟨hx, hb, hml, hr, hlocks, (fun h => (by cases h)), hown, htT, (by decide), (by decide)⟩ (by decide) (show ax_sl SHF ≤ room_1.slots by decide +kernel) (show 0 + SHF.length = 71 + sh_0_111.length by decide +kernel) (show 0 + ax_sl SHF = ax_sl SHF + ax_sl sh_0_111 by decide +kernel) ⟨⟨hG1.symm, fun k e h => by simp [sh_0_111] at h⟩, hK, hO⟩ (fun _ _ => rfl) (fun _ h => by cases h) hl
  intro T hT X
  obtain ⟨t, st, o, h1, h2, ⟨h3, -, -⟩, Ls, hF, hLs⟩ := K T hT X
  refine ⟨t, st, o, h1, h2, h3, hF.1, hF.2.1, hF.2.2.weaken (fun y hy hlt => absurd hlt (Nat.not_lt.mpr (by rw [← hG1]; exact hLs y hy))) (by decide) (by decide +kernel)⟩
set_option maxHeartbeats 4000000 in
theorem lw_walk (l : Launch) (hflags : l.flags = flags0) (b : Addr) (xs : List Int32) : MetFree l x (headSpec (Jvm.Cond.code x code maxLocals ret :: tables_1) room_1) (lw_P b xs) (fun _ _ _ _ _ => True) lw_Q := by
  refine MetFree.of_bodyS (code := code) (maxLocals := maxLocals) (ret := ret) (by decide) ?_ ?_
  · intro args s m h hn
    obtain ⟨meth, c, h1, h2, h3, h4, h5, h6, -, -⟩ := Cond.code_spec hn (atoms_spec (ws := Jvm.Cond.code x code maxLocals ret :: tables_1) h _ List.mem_cons_self)
    exact ⟨meth, c, h1, h2, h3, h4, h5, h6⟩
  · intro p e s m args below meth c s₁ B hml0 hP _
    obtain ⟨rfl, hx, hbd, hgv⟩ := hP
    obtain ⟨scr, harrAt, hlist, hof, hsmall⟩ := hx
    obtain ⟨hcb, hkn, -, -⟩ := State.arrayAt?_spec harrAt
    have hown : s.vm.findClass R_law = some m.cls := findClass_of_methodNamed B.named
    have hts0 : ∀ c ∈ (Jvm.Cond.code x code maxLocals ret :: tables_1), c.before #[Value.ref b] s = true := atoms_spec (ws := Jvm.Cond.code x code maxLocals ret :: tables_1) B.pre
    have hts : ∀ w ∈ lw_tbl, w.before #[Value.ref b] s = true := k2_hts_sels lw_privs (fun w hw => hts0 w (List.mem_cons_of_mem _ hw)) lw_privs_ok
    have hml : c.maxLocals = 4 := B.maxLocals_eq (hts0 _ List.mem_cons_self)
    have X₀ : Stand p l e room_1 s m #[Value.ref b] below meth c s₁ [] 0 0 := Stand.of_body B
    have hh0 : s₁.heap = s.heap := by rw [B.state]; rfl
    have hsz : scr.slots.size = xs.length := by rw [← Array.length_toList, hlist, List.length_map]
    have hval : ∀ j : Nat, j < xs.length → scr.slots[j]? = some (.int (xs.getD j 0)) := fun j hj => by
      rw [← Array.getElem?_toList, hlist]
      simp [hj]
    have hbl : b < s.heap.size := (Array.getElem?_eq_some_iff.mp hcb).1
    have hX : va_X b xs.length (fun j => xs.getD j 0) s s.heap := ⟨scr, hcb, hof, hkn, hsz, hval⟩
    have K : W p l e room_1 s m #[Value.ref b] below meth c s₁.heap [] 0 0 (lw_Z below #[Value.ref b] s) (entryFrame m ([Value.ref b] : List Value).toArray 4) := by
      rw [hh0]
      exact whole_start l hflags hbd ⟨B.exec, B.bytes, B.returns, hml, hown, hts, hX, hbl, B.notSynchronized, hgv⟩
    obtain ⟨t, a1, o, b1, b2, b3⟩ := K s₁ rfl X₀
    exact ⟨t, o, a1, b1, b2, b3⟩
theorem lw_pre_spec {args : Array Value} {s : State} (h : (Jvm.Cond.and given_1 narrow_1).before args s = true) (hr : rest_1_c.before args s = true) : ∃ (b : Addr) (xs : List Int32), lw_P b xs args s := by
  have hs := flat_of_before _ h
  have hq := flat_of_before _ hr
  have hc : (Cond.count 1).before args s = true := hs _ (by decide +kernel)
  have harr : (Cond.arrayOf (.arg 0) .int).before args s = true := hs _ (by decide +kernel)
  have hle : (Cond.le (.length (.arg 0)) (.int 3584)).before args s = true := hs _ (by decide +kernel)
  have hlen : (Cond.isInt (.length (.arg 0))).before args s = true := hq _ (by decide +kernel)
  have hall : (Cond.all (.arg 0) (.isInt (.elem (.arg 0) (.index 0)))).before args s = true := hq _ (by decide +kernel)
  obtain ⟨b, xs, hb, hx⟩ := State.ints_of_pre rfl harr hlen hall
  have hsm : xs.length < 2 ^ 31 := hx.choose_spec.2.2.2
  have hev : (Term.length (.arg 0)).eval args s none [] s = some (.int xs.length.toInt32) := hx.length_eval hb
  have hv := Cond.le_ints hev (show (Term.int 3584).eval args s none [] s = some (.int 3584) from rfl)
  have hd : xs.length.toInt32 ≤ 3584 := by
    simpa [Cond.before, Cond.holds, hv] using hle
  have hN : xs.length ≤ 3584 := (Int32.ofNat_le_ofNat hsm (by decide)).mp (show Int32.ofNat xs.length ≤ Int32.ofNat 3584 from hd)
  exact ⟨b, xs, Cond.one_arg hc (show args[0]? = some (.ref b) from hb), hx, hN, h⟩
theorem lw_comes (l : Launch) (hflags : l.flags = flags0) : Comes l x (Jvm.Cond.code x code maxLocals ret :: tables_1) room_1 (fun tb e args s => Calls_1 tb e args s ∧ rest_1 tb e args s ∧ Pre_1 tb e args s)
    (fun _ _ args s o t => lw_Q args s o t) := by
  intro p e ha hc hk s m args below hf hfit hheap happ hpre
  obtain ⟨b, xs, hP⟩ := lw_pre_spec hpre.2.2 hpre.2.1
  obtain ⟨k, o, h1, h2, h3, hQ⟩ := lw_walk l hflags b xs p e ha hc hk s m args below hf ((Spec.applies_iff_loose hf).mp happ).1 hP trivial
  exact ⟨k, o, h1, h2, h3, hQ⟩
theorem lw_frame {s t : State} {o : Outcome} {args : Array Value} (h : Framed s o t [] 600000 7302250) :
    Framed s o t (fieldLocs frame_1_writes args s ++ arrayLocs frame_1_arrays args s ++ staticLocs frame_1_statics s) 600000 7302250 := h
theorem lw_limb (L : Cond) (hL : ∀ (args : Array Value) (s t : State), L.after args s (.returned (some (.int 1))) t = true) :
    ArmFor flags0 classFile x code maxLocals ret World_1 tables_1 room_1 Calls_1 rest_1 Pre_1
      (fun tb e a s o t => postC L tb e a s o t ∧ Framed s o t (fieldLocs frame_1_writes a s ++ arrayLocs frame_1_arrays a s ++ staticLocs frame_1_statics s) 600000 7302250) := by
  intro l hflags _ _ p e ha hc hk s m args below hf hfit hheap happ hpre
  obtain ⟨k, o, h1, h2, h3, rfl, hF⟩ := lw_comes l hflags p e ha hc hk s m args below hf hfit hheap happ hpre
  exact ⟨k, _, h1, h2, h3, hL args s _, lw_frame hF⟩
theorem i_vc : Claimed_1_1 ∧ Claimed_1_2 := ⟨lw_limb limb_1_1 (fun args s t => by simp [limb_1_1, Cond.after, Cond.holds, Cond.value]), lw_limb limb_1_2 (fun args s t => Cond.after_iff.mpr (by
  first | (rw [show limb_1_2 = Cond.eq .result (.int 1) from rfl, Cond.eq_ints (x := 1) (y := 1) rfl rfl]; simp; done) | (simp [limb_1_2, Cond.value, Term.eval]; done)))⟩
