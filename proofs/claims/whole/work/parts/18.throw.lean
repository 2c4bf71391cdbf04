/-! throws: a method that throws an exception of the class E, from a heap that it has not changed -/
def sx_S (n d : String) (A : Nat → Prop) (U : State) (H : Heap) : Prop := ∃ (c : ClassId) (k : Class) (i : Nat) (f : Field) (a : Nat) (cell : Cell) (v : Value), U.vm.findClass Bundle.tN = some c ∧ U.fieldFound? Bundle.tN n d = some (c, k, i, f) ∧ f.isStatic = true ∧ k.statics = some a ∧ H[a]? = some cell ∧ cell.vm.isStatics = true ∧ cell.cls = c ∧ f.slot < cell.slots.size ∧ k.staticTypes[f.slot]? = some f.type ∧ cell.slots[f.slot]? = some v ∧ (v = .null ∨ ∃ t, v = .ref t) ∧ ¬ A a
theorem sx_S.moved {n d : String} {A : Nat → Prop} {u U : State} {H : Heap} (hvm : u.vm.Alike U.vm) (h : sx_S n d A u H) : sx_S n d A U H := by
  obtain ⟨c, k, i, f, a, cell, v, h0, h1, h2, h3, h4, h5, h6, h7, h8, h9⟩ := h
  obtain ⟨k', hi', he⟩ := State.fieldFound?_setVm hvm h1
  exact ⟨c, k', i, f, a, cell, v, by rw [hvm.findClass]; exact h0, hi', h2, by rw [he]; exact h3, h4, h5, h6, h7, by rw [he]; exact h8, h9⟩
theorem sx_S.kept {n d : String} {A : Nat → Prop} {U : State} {H H1 : Heap} (h : sx_S n d A U H) (hq : ∀ a : Nat, a < H.size → ¬ A a → H1[a]? = H[a]?) : sx_S n d A U H1 := by
  obtain ⟨c, k, i, f, a, cell, v, h0, h1, h2, h3, h4, h5, h6, h7, h8, h9, h10, h11⟩ := h
  exact ⟨c, k, i, f, a, cell, v, h0, h1, h2, h3, by rw [hq a (Array.getElem?_eq_some_iff.mp h4).1 h11]; exact h4, h5, h6, h7, h8, h9, h10, h11⟩
theorem sx_S.narrow {n d : String} {A B : Nat → Prop} {U : State} {H : Heap} (h : sx_S n d A U H) (hAB : ∀ q, B q → A q) : sx_S n d B U H := by
  obtain ⟨c, k, i, f, a, cell, v, h0, h1, h2, h3, h4, h5, h6, h7, h8, h9, h10, h11⟩ := h
  exact ⟨c, k, i, f, a, cell, v, h0, h1, h2, h3, h4, h5, h6, h7, h8, h9, h10, fun z => h11 (hAB a z)⟩
theorem sx_S.lays {n d : String} {A : Nat → Prop} {U : State} (args : Array Value) (h : sx_S n d A U U.heap) : (Cond.laysStatic Bundle.tN n d).before args U = true := by
  obtain ⟨c, k, i, f, a, cell, v, h0, h1, h2, h3, h4, h5, h6, h7, h8, h9, h10, h11⟩ := h
  first
    | exact Cond.laysStatic_of h0 h1 h2 h3 h4 h5 h6 h7 h8
    | (simp [Cond.before, Cond.holds, Cond.value, h0, h1, h2, h3, h4, h5, h6, h7, h8])
theorem sx_S.isref {n d : String} {A : Nat → Prop} {U : State} (args : Array Value) (h : sx_S n d A U U.heap) : (Cond.isRef (.static Bundle.tN n d)).before args U = true := by
  obtain ⟨c, k, i, f, a, cell, v, h0, h1, h2, h3, h4, h5, h6, h7, h8, h9, h10, h11⟩ := h
  have e : (Term.static Bundle.tN n d).eval args U none [] U = some v := by simp [Term.eval, State.fieldNamed?, h1, h2, h3, h4, h5, h9]
  rcases h10 with rfl | ⟨t, rfl⟩ <;> simp [Cond.before, Cond.holds, Cond.value, e]
abbrev EIS : String := "java/lang/IllegalStateException"
abbrev EIO : String := "java/lang/IndexOutOfBoundsException"
abbrev EIA : String := "java/lang/IllegalArgumentException"
abbrev sx_up : List String := ["java/lang/RuntimeException", "java/lang/Exception"]
abbrev sx_face : List Cond := [.castable EIS EIS, .castable EIO EIO, .castable EIA EIA, .declares ⟨"java/lang/RuntimeException", "<init>", "(Ljava/lang/String;)V"⟩, .declares ⟨"java/lang/Exception", "<init>", "(Ljava/lang/String;)V"⟩, .declares ⟨"java/lang/Throwable", "<init>", "(Ljava/lang/String;)V"⟩]
theorem sx_face_ok : ∀ w ∈ sx_face, w.faceAtom = true ∧ w.onTables = true := by decide +kernel
abbrev sx_strs : List Nat := [182, 62, 188, 184, 78, 109, 186, 129, 164]
def sx_sr (idx : Nat) (U : State) : Prop := ∃ (cid : ClassId) (k : Class) (cf : ClassFile) (i : Nat) (a : Addr), U.vm.findClass RXB = some cid ∧ U.vm.classes[cid]? = some k ∧ k.cf = some cf ∧ cf.constantPool[idx]? = some (.string i) ∧ k.resolved[idx]? = some (some (.string a))
theorem sx_sr.moved {idx : Nat} {u U : State} (hW : u.WarmedH U.vm) (h : sx_sr idx u) : sx_sr idx U := by
  obtain ⟨cid, k, cf, i, a, h0, h1, h2, h3, h4⟩ := h
  obtain ⟨k', hk', he⟩ := hW.alike.2.2 _ _ h1
  refine ⟨cid, k', cf, i, a, by rw [hW.alike.findClass]; exact h0, hk', by rw [he]; exact h2, h3, ?_⟩
  rcases hW.entry h1 hk' idx with h | ⟨h, -⟩
  · rw [h]; exact h4
  · rw [h4] at h; cases h
def sx_nc (U : State) : Prop := ∀ c1 c2 : ClassId, U.vm.findClass EIO = some c1 → U.vm.findClass EIS = some c2 → U.vm.assignable c1 c2 = false
/-- what throwing leans on beside the tables' good words -/
def sx_Z (A : Nat → Prop) (U : State) (H : Heap) : Prop := sx_S "UNASSIGNED_STACK" Bundle.steD A U H ∧ sx_S "SUPPRESSED_SENTINEL" Bundle.listD A U H ∧ (∀ w ∈ sx_face, w.before #[] U = true) ∧ (∀ q ∈ sx_strs, sx_sr q U) ∧ sx_nc U
theorem sx_Z.moved {A : Nat → Prop} {u U : State} {H : Heap} (hW : u.WarmedH U.vm) (h : sx_Z A u H) : sx_Z A U H := by
  obtain ⟨h1, h2, h3, h4, h5⟩ := h
  refine ⟨h1.moved hW.alike, h2.moved hW.alike, fun w hw => ?_, fun q hq => (h4 q hq).moved hW, fun c1 c2 e1 e2 => ?_⟩
  · exact va_tabs (u := u.setVm U.vm) (sx_face_ok w hw).2 rfl (Cond.faceAtom_setVm hW.alike w (sx_face_ok w hw).1 (h3 w hw))
  · rw [hW.alike.findClass] at e1 e2
    rw [hW.alike.assignable]
    exact h5 c1 c2 e1 e2
theorem sx_Z.kept {A : Nat → Prop} {U : State} {H H1 : Heap} (h : sx_Z A U H) (hq : ∀ a : Nat, a < H.size → ¬ A a → H1[a]? = H[a]?) : sx_Z A U H1 := ⟨h.1.kept hq, h.2.1.kept hq, h.2.2⟩
theorem sx_Z.narrow {A B : Nat → Prop} {U : State} {H : Heap} (h : sx_Z A U H) (hAB : ∀ q, B q → A q) : sx_Z B U H := ⟨h.1.narrow hAB, h.2.1.narrow hAB, h.2.2⟩
abbrev sx_isr : List Cond := [.isRef (.static Bundle.tN "UNASSIGNED_STACK" Bundle.steD), .isRef (.static Bundle.tN "SUPPRESSED_SENTINEL" Bundle.listD), .laysStatic Bundle.tN "UNASSIGNED_STACK" Bundle.steD, .laysStatic Bundle.tN "SUPPRESSED_SENTINEL" Bundle.listD]
abbrev sx_own (own : String) (ic : Nat) (E : String) : List Cond := Bundle.ownAtoms own ic E sx_up
def sx_okw (ws : List Cond) : Bool := ws.all (fun w => decide (w ∈ sx_isr) || (decide (w ∈ sx_face) || (decide (w ∈ tables_1) && goodWord w)))
theorem sx_ok {ws : List Cond} (h : sx_okw ws = true) {A : Nat → Prop} {args : Array Value} {s : State} (ht : ∀ w ∈ sbT, w.before args s = true) (hZ : sx_Z A s s.heap) : ∀ w ∈ ws, w.before args s = true := by
  intro w hw
  have h1 := List.all_eq_true.mp h w hw
  simp only [Bool.or_eq_true, Bool.and_eq_true, decide_eq_true_eq] at h1
  rcases h1 with h1 | h1 | ⟨h1, h2⟩
  · simp only [List.mem_cons, List.not_mem_nil, or_false] at h1
    rcases h1 with rfl | rfl | rfl | rfl
    · exact hZ.1.isref args
    · exact hZ.2.1.isref args
    · exact hZ.1.lays args
    · exact hZ.2.1.lays args
  · exact va_tabs (sx_face_ok w h1).2 rfl (hZ.2.2.1 w h1)
  · exact ht w (List.mem_filter.mpr ⟨List.mem_append_right _ h1, h2⟩)
abbrev sx_no : Nat → Prop := fun _ => False
def sx_P (D : va_G) (ta : ClassId × ClassId × ClassId) (av : List Value) (ws : va_W) (sz : Nat) : Array Value → State → Prop := fun a U => sb_P D ta av ws sz a U ∧ sx_Z sx_no U U.heap
def sx_E (E : String) (st : State) (oc : Outcome) (t : State) : Prop := ∃ (a : Addr) (ce : Cell), oc = .threw a ∧ t.heap[a]? = some ce ∧ st.heap.size ≤ a ∧ ce.vm = .none ∧ st.vm.findClass E = some ce.cls ∧ st.WarmedH t.vm ∧ st.sameButNew ({ t with vm := st.vm } : State) [] 1 6
def sx (l : Launch) (y : MethodName) (wy : List Cond) (rm : Room) (D : va_G) (ta : ClassId × ClassId × ClassId) (av : List Value) (ws : va_W) (E : String) : Prop := ∀ sz : Nat, MetFree l y (headSpec wy rm) (sx_P D ta av ws sz) (fun _ _ _ _ _ => True) (fun _ st o t => sx_E E st o t)
def sx_Q (below : List Frame) (E : String) (s : State) : State → Prop := fun t => ∃ o, t.status = .running ∧ Ended t below o ∧ sx_E E s o t
section SX
variable {p : Program} {l : Launch} {e : Env} {R : Room} {s : State} {m : MethodId} {args : Array Value} {below : List Frame} {meth : Method} {c : Code} {Q : State → Prop}
variable {cc : ByteArray} {nL : Nat} {own : String} {D : va_G} {ta : ClassId × ClassId × ClassId} {A : Nat → Prop} {z : Bool} {ws : va_W} {lv lv' : List (Nat × Value)} {pc : Nat} {st : List Value} {E : String}
set_option maxHeartbeats 1000000 in
theorem sx_site {ic ix is : Nat} (G : sg p s m args c cc nL RXB D ta A) (htr : l.stackTraces = false) (hZ : sx_Z sx_no s s.heap) (hlk : meth.locks = false) (hnh : c.exceptionTable.isEmpty = true)
    (hE : Bundle.fit E = true) (hcl : Cond.classLink RXB ic E ∈ sbT) (hini : Cond.initialized E ∈ sbT) (hst : is ∈ sx_strs) (hok : sx_okw (sx_own RXB ix E) = true)
    (d0 : decode cc pc = .ok (.new ic, 3)) (d3 : decode cc (pc + 3) = .ok (.dup, 1)) (d4 : decode cc (pc + 4) = .ok (.ldc is, 2)) (d6 : decode cc (pc + 6) = .ok (.invokespecial ix, 3)) (d9 : decode cc (pc + 9) = .ok (.athrow, 1))
    (hr : 6 ≤ R.frames ∧ 1 ≤ R.cells ∧ 6 ≤ R.slots ∧ 82 ≤ R.locals) : sw p l e R s m args below meth c nL D A (sx_Q below E s) true 0 0 ws lv pc [] := by
  intro H locs ls hl hP hD hS hz T hT X
  obtain ⟨e1, e2⟩ := hz rfl
  subst e1; subst e2
  have hpre := sx_ok hok G.2.2.2.2.1 hZ
  have htr' : e.platform.stackTraces = false := by rw [Example.NoTraceControls.admits_follows X.admits]; exact htr
  obtain ⟨vm₁, cX, kX, hfX, hkX, -, -, X₁, st1⟩ := X.newCold G.1 (own := RXB) (C := E) (index := ic) (n := 6) G.2.2.2.1 (G.2.2.2.2.1 _ hcl) (hpre (.instantiable E 6) (by simp [Bundle.ownAtoms])) (G.2.2.2.2.1 _ hini)
    (g := F0 m pc ls []) rfl (by rw [G.2.1]; exact d0) (by omega) (by omega)
  generalize hT1 : (T.setVm vm₁).pushCell { cls := cX, slots := kX.instanceTypes.map defaultValue, vm := .none } = T1 at X₁ st1
  have hcellA : T1.heap[T.heap.size]? = some (freshCell cX kX) := by rw [← hT1]; exact State.heap_pushCell_size _ _
  obtain ⟨cid, k, cf, i, sa, hf, hk, hcf, hcp, hres⟩ := (hZ.2.2.2.1 is hst).moved X₁.warmed
  have hcid : cid = m.cls := by
    have h1 := X₁.warmed.alike.findClass RXB none
    exact Option.some.inj (hf.symm.trans (h1.trans G.2.2.2.1))
  subst hcid
  obtain ⟨U, hsteps, hrun, hend, hW, hsame, ce, hce, K⟩ := X₁.ctorThrowS G.1 htr' (own := RXB) (cls := E) (names := sx_up) (ic := ix) G.2.2.2.1 hE (by decide +kernel)
    hpre (fun y hy => by cases hy) hfX hkX hcellA (by rw [hT]; exact Nat.le_refl _) (msg := .ref sa) rfl
    (g := F0 m (pc + 6) ls [.ref sa, .ref T.heap.size, .ref T.heap.size]) rfl (by rw [G.2.2.1]; exact hl.1) rfl rfl (rest := []) rfl
    (by rw [G.2.1]; exact d6) (by rw [G.2.1]; exact d9) (covers_of_empty hnh _) (by show 2 + 3 < R.frames; omega) (by show 2 * 0 + 1 + (13 * 3 + 42) ≤ R.locals; omega) hlk
  refine ⟨U, ?_, .threw T.heap.size, hrun, hend, _, ce, rfl, hce, by rw [hT]; exact Nat.le_refl _, K.vm, K.cls, hW, hsame⟩
  refine st1 _ ?_
  show Steps p.tables e below (T1.setTop (F0 m (pc + 3) ls [.ref T.heap.size])) _
  have hd3 : decode c.code (pc + 3) = .ok (.dup, 1) := by rw [G.2.1]; exact d3
  have hd4 : decode c.code (pc + 4) = .ok (.ldc is, 2) := by rw [G.2.1]; exact d4
  jvm_step X₁.here [X₁.here.top, G.1, hd3, Value.category]
  show Steps p.tables e below (T1.setTop (F0 m (pc + 4) ls [.ref T.heap.size, .ref T.heap.size])) _
  jvm_step X₁.here [G.1, hd4, ldc.wp_string (e := e) (s := T1) (f := F0 m (pc + 4) ls [.ref T.heap.size, .ref T.heap.size]) X₁.here.top hk hcf hcp hres]
  exact hsteps
/-- a callee that throws: the machine comes to the note over the caller's frame -/
theorem sx_go {y : MethodName} {wy : List Cond} {rm : Room} {bytes : ByteArray} {maxL : Nat} {ret : Option FieldType} {T : State} {g : JFrame} {mk : MethodId} {a : Array Value} {ig : Instr} {len : Nat} {P : Array Value → State → Prop}
    (hM : MetFree l y (headSpec wy rm) P (fun _ _ _ _ _ => True) (fun _ st o t => sx_E E st o t)) (X : Stand p l e R s m args below meth c T [] 0 0) (hg : g.method = m) (hsize : g.locals.size = c.maxLocals) (hdg : decode c.code g.pc = .ok (ig, len))
    (hWs : 2 * g.monitorRoom + (g.stack.map fun v => v.category).sum ≤ 8) (hws : ∀ w ∈ wy, ∀ (a' : Array Value) (U : State), s.WarmedH U.vm → w.before a' U = true) (hcw : Cond.code y bytes maxL ret ∈ wy) (hini : (Cond.initialized y.cls).before args s = true)
    (hn : T.methodNamed? y = some mk) (hP : P a (T.calling g mk a)) (hfr : rm.frames + 1 ≤ R.frames) (hlo : 8 + (maxL + 11) + rm.locals ≤ R.locals) (hce : rm.cells ≤ R.cells) (hsl : rm.slots ≤ R.slots) :
    ∃ (x : Addr) (ce : Cell) (T' : State), Stand p l e R s m args below meth c T' [] 1 6 ∧ T'.heap[x]? = some ce ∧ T.heap.size ≤ x ∧ ce.vm = .none ∧ T.vm.findClass E = some ce.cls ∧ T.sameButNew (T'.setVm T.vm) [] 1 6 ∧
      Steps p.tables e below (doInvoke e (T.setTop g) [] mk a).1 ((T'.setTop g).pushFrame (.throwing x)) := by
  have h2 : (Cond.code y bytes maxL ret).before a T = true := hws _ hcw _ _ X.warmed
  have h3 : (Cond.initialized y.cls).before a T = true := word_at X.warmed (Or.inl (by first | rfl | simp [Cond.onTables, Cond.keeps, Cond.steady])) hini
  obtain ⟨methY, cY, hmY, hcY, -, hlY, -, -, -, -⟩ := Cond.code_spec hn h2
  obtain ⟨kY, hkY, -⟩ := className_of_methodNamed hn
  have hinitY : kY.init = .initialized := Cond.initialized_spec (findClass_of_methodNamed hn) hkY h3
  have h : At T g.method c below := by rw [hg]; exact X.here
  have happ : (headSpec wy rm).appliesLoose y e.platform (T.calling g mk a) = true :=
    Spec.appliesLoose_calling (g := g) h hdg hn hkY hinitY
      (X.room_calling (g := g) (R' := (headSpec wy rm).room) hsize hmY hcY hfr (by rw [hlY]; show _ + (maxL + 11) + rm.locals ≤ _; omega) (by show 0 + rm.cells ≤ _; omega) (by show 0 + rm.slots ≤ _; omega)) (atoms_intro fun w hw => hws w hw _ _ X.warmed)
  obtain ⟨mid, hmid⟩ := h.above
  have hfr' : (T.setTop g).frames = (.java g :: mid) ++ below := by rw [State.frames_setTop' g h.top, hmid]; rfl
  obtain ⟨o, s₂, hsteps, -, hend, hq⟩ := Steps.callFree hM p X.admits X.cas X.clock (acts := []) hfr' happ hP trivial
  have hq' : sx_E E (T.calling g mk a) o s₂ := hq
  rw [State.frames_setTop' g h.top, X.tail] at hend
  obtain ⟨x, ce, rfl, hc1, hc2, hc3, hc4, hW, hsame⟩ := hq'
  obtain ⟨T', X', -, hB, ht⟩ := X.outOfThrown hg hend hW hsame
  subst ht
  refine ⟨x, ce, T', X', ?_, hc2, hc3, hc4, hB, hsteps⟩
  rw [Stand.throwing_heap] at hc1
  exact hc1
theorem sx_out {y : MethodName} {T T' : State} {g : JFrame} {x : Addr} {ce : Cell} {s0 : State} {vm₁ : Vm} (hW₁ : s.WarmedH vm₁) (hlk : meth.locks = false) (hnh : c.exceptionTable.isEmpty = true) (hT : T.heap = s.heap) (hg : g.method = m) (hgl : g.locked = none) (hge : g.entered = [])
    (X' : Stand p l e R s m args below meth c T' [] 1 6) (h1 : T'.heap[x]? = some ce) (h2 : (T.setVm vm₁).heap.size ≤ x) (h3 : ce.vm = .none) (h4 : (T.setVm vm₁).vm.findClass E = some ce.cls) (hgo : Steps p.tables e below s0 ((T'.setTop g).pushFrame (.throwing x))) :
    ∃ t, Steps p.tables e below s0 t ∧ sx_Q below E s t := by
  obtain ⟨q1, q2, q3, q4, q5⟩ := X'.leaveThrown x hg hgl hge (covers_of_empty hnh _) hlk
  refine ⟨_, hgo.trans q1, .threw x, q2, q3, x, ce, rfl, h1, ?_, h3, (hW₁.alike.findClass E none).symm.trans h4, q4, q5⟩
  rw [← hT]
  exact h2
theorem sx_callV {wc : va_W} {y : MethodName} {wy : List Cond} {rm : Room} {bytes : ByteArray} {maxL N index : Nat} {As rest : List Value} {ret : Option FieldType} {C : String} {b : Nat} (G : sg p s m args c cc nL own D ta A) (hZ : sx_Z sx_no s s.heap) (hlk : meth.locks = false) (hnh : c.exceptionTable.isEmpty = true)
    (hM : sx l y wy rm D ta (.ref b :: As) wc E) (cw : CallW R s args own C index y bytes maxL ret wy rm rm.cells rm.slots N) (q0 ci : Nat) {fs : List Value} {T0 : u_T} {N' : Nat} (hc : vwCl[ci]? = some (C, T0, N')) (he : ws[q0]? = some (b, .inr (ci, fs))) (hn : As.length = N) (hst : st = As.reverse ++ .ref b :: rest) (hroom : (rest.map fun v => v.category).sum ≤ 8) (d : decode cc pc = .ok (.invokevirtual index, 3)) (hf : rm.cells ≤ R.cells ∧ rm.slots ≤ R.slots)
    (isC : List Nat) (hC : isC.map (fun i => ws[i]?) = wc.map some) (hnC : va_nd isC = true) : sw p l e R s m args below meth c nL D A (sx_Q below E s) true 0 0 ws lv pc st := by
  subst hst
  intro H locs ls hl hP hD hS hz T hT X
  obtain ⟨e1, e2⟩ := hz rfl
  subst e1; subst e2
  have hPc : va_P D vwCl wc s.heap := fun j q hj => by
    have h1 : (isC.map (fun i => ws[i]?))[j]? = some (some q) := by rw [hC, List.getElem?_map, hj]; rfl
    rw [List.getElem?_map] at h1
    cases hi : isC[j]? with
    | none => rw [hi] at h1; cases h1
    | some i => rw [hi] at h1; exact hP i q (Option.some.inj h1)
  have hDc : va_D (fun _ => True) wc := (hD.sub isC hnC hC).weaken (fun _ _ _ _ => trivial)
  obtain ⟨⟨-, -, hfr, hlo, hws, hcw, hcode, hini, hy, hlen, hlink⟩, hin, hse⟩ := cw
  obtain ⟨cellB, hcB, hoB, hclB⟩ := va_recv G.2.2.2.2.2.1 hP hc he
  obtain ⟨mk, methM, hnamed, hmethM, hstM, habM⟩ := Cond.instanceMethod_spec hin
  obtain ⟨methM', cM, hmethM', -, -, -, -, -, -, hsigM⟩ := Cond.code_spec hnamed hcode
  cases hmethM.symm.trans hmethM'
  obtain ⟨c2, r2, m2, q1, q2, q3, q4, kP, hkP, hkPi⟩ := Cond.selects_spec hse
  cases hclB.symm.trans q1
  cases (State.methodFound?_of_named hnamed hy).symm.trans q2
  cases hnamed.symm.trans q3
  have hselP : selectMethod e.platform s.vm cellB.cls mk = .method mk := by rw [Launch.admits_selectMethod X.admits]; exact q4
  have hdg : decode c.code pc = .ok (.invokevirtual index, 3) := by rw [G.2.1]; exact d
  obtain ⟨vm₁, X₁, hstep₁⟩ := X.invokevirtual G.1 G.2.2.2.1 hlink hnamed hmethM hstM hkP hkPi hy (a := b) (cell := cellB) (by rw [hT]; exact hcB)
    (fun z h => by rw [h] at hoB; cases hoB) hselP hmethM habM hkP hkPi (g := F0 m pc ls (As.reverse ++ .ref b :: rest)) rfl (argsL := As) (rest := rest) (hn.trans (hlen _ hsigM)) rfl hdg
  obtain ⟨x, ce, T', X', h1, h2, h3, h4, -, hgo⟩ := sx_go (hM s.heap.size) X₁ (g := F0 m pc ls rest) (mk := mk) (a := (Value.ref b :: As).toArray) rfl (by rw [G.2.2.1]; exact hl.1) hdg (lv_room hroom) hws hcw hini (X₁.named hnamed)
    ⟨⟨rfl, by show T.heap.size = _; rw [hT], by show va_P D vwCl wc T.heap; rw [hT]; exact hPc, va_K.moved (u := s) X₁.warmed.alike G.2.2.2.2.2.1, hDc⟩, by show sx_Z sx_no _ T.heap; rw [hT]; exact hZ.moved (u := s) X₁.warmed⟩ hfr hlo hf.1 hf.2
  exact sx_out (y := y) X₁.warmed hlk hnh hT rfl rfl rfl X' h1 h2 h3 h4 (hstep₁ _ fun acts => by rw [doInvoke_state]; exact hgo)
theorem sx_callS {wc : va_W} {y : MethodName} {wy : List Cond} {rm : Room} {bytes : ByteArray} {maxL N index : Nat} {As rest : List Value} {ret : Option FieldType} (G : sg p s m args c cc nL own D ta A) (hZ : sx_Z sx_no s s.heap) (hlk : meth.locks = false) (hnh : c.exceptionTable.isEmpty = true)
    (hM : sx l y wy rm D ta As wc E) (cw : CallB R s args own index y bytes maxL ret wy rm rm.cells rm.slots N ∧ (Cond.static y).before args s = true) (hn : As.length = N) (hst : st = As.reverse ++ rest) (hroom : (rest.map fun v => v.category).sum ≤ 8) (d : decode cc pc = .ok (.invokestatic index, 3)) (hf : rm.cells ≤ R.cells ∧ rm.slots ≤ R.slots)
    (isC : List Nat) (hC : isC.map (fun i => ws[i]?) = wc.map some) (hnC : va_nd isC = true) : sw p l e R s m args below meth c nL D A (sx_Q below E s) true 0 0 ws lv pc st := by
  subst hst
  intro H locs ls hl hP hD hS hz T hT X
  obtain ⟨e1, e2⟩ := hz rfl
  subst e1; subst e2
  have hPc : va_P D vwCl wc s.heap := fun j q hj => by
    have h1 : (isC.map (fun i => ws[i]?))[j]? = some (some q) := by rw [hC, List.getElem?_map, hj]; rfl
    rw [List.getElem?_map] at h1
    cases hi : isC[j]? with
    | none => rw [hi] at h1; cases h1
    | some i => rw [hi] at h1; exact hP i q (Option.some.inj h1)
  have hDc : va_D (fun _ => True) wc := (hD.sub isC hnC hC).weaken (fun _ _ _ _ => trivial)
  obtain ⟨⟨-, -, hfr, hlo, hws, hcw, hcode, hini, hy, hlen, hlink⟩, hstat⟩ := cw
  obtain ⟨mk, hnamed⟩ := Cond.code_named hcode
  obtain ⟨methM, cM, hmethM, -, -, -, -, -, -, hsigM⟩ := Cond.code_spec hnamed hcode
  have hstatic : methM.isStatic = true := Cond.static_spec hnamed hmethM hstat
  obtain ⟨kP, hkP, -⟩ := className_of_methodNamed hnamed
  have hinitP : kP.init = .initialized := Cond.initialized_spec (findClass_of_methodNamed hnamed) hkP hini
  have hdg : decode c.code pc = .ok (.invokestatic index, 3) := by rw [G.2.1]; exact d
  obtain ⟨vm₁, X₁, hstep₁⟩ := X.invokestatic G.1 G.2.2.2.1 hlink hnamed hmethM hstatic hkP hinitP hy (g := F0 m pc ls (As.reverse ++ rest)) rfl (argsL := As) (rest := rest) (hn.trans (hlen _ hsigM)) rfl hdg
  obtain ⟨x, ce, T', X', h1, h2, h3, h4, -, hgo⟩ := sx_go (hM s.heap.size) X₁ (g := F0 m pc ls rest) (mk := mk) (a := As.toArray) rfl (by rw [G.2.2.1]; exact hl.1) hdg (lv_room hroom) hws hcw hini (X₁.named hnamed)
    ⟨⟨rfl, by show T.heap.size = _; rw [hT], by show va_P D vwCl wc T.heap; rw [hT]; exact hPc, va_K.moved (u := s) X₁.warmed.alike G.2.2.2.2.2.1, hDc⟩, by show sx_Z sx_no _ T.heap; rw [hT]; exact hZ.moved (u := s) X₁.warmed⟩ hfr hlo hf.1 hf.2
  exact sx_out (y := y) X₁.warmed hlk hnh hT rfl rfl rfl X' h1 h2 h3 h4 (hstep₁ _ fun acts => by rw [doInvoke_state]; exact hgo)
theorem sx_ofW {y : MethodName} {rm : Room} {av : List Value} {ret : Option FieldType} (hy : plainName y.cls = true) (hlen : (lg_sl av).length ≤ nL)
    (body : ∀ (p : Program) (e : Env) (s : State) (m : MethodId) (below : List Frame) (meth : Method) (c : Code), sg p s m av.toArray c cc nL y.cls D ta (va_A ws s.heap.size) → meth.locks = false → sx_Z sx_no s s.heap → c.exceptionTable.isEmpty = true →
      sw p l e rm s m av.toArray below meth c nL D (va_A ws s.heap.size) (sx_Q below E s) true 0 0 ws (lv_args 0 av) 0 []) : sx l y (Cond.code y cc nL ret :: sbT) rm D ta av ws E := by
  intro sz
  refine MetFree.of_bodyS (code := cc) (maxLocals := nL) (ret := ret) hy ?_ ?_
  · intro args s m h hn
    obtain ⟨meth, c, h1, h2, h3, h4, h5, h6, -, -⟩ := Cond.code_spec hn (atoms_spec (ws := Cond.code y cc nL ret :: sbT) h _ List.mem_cons_self)
    exact ⟨meth, c, h1, h2, h3, h4, h5, h6⟩
  · intro p e s m args below meth c s₁ B hml hP _
    have hh0 : s₁.heap = s.heap := by rw [B.state]; rfl
    obtain ⟨⟨rfl, hsz, hP, hK, hD0⟩, hZ⟩ := hP
    subst hsz
    have hW : W p l e (headSpec (Cond.code y cc nL ret :: sbT) rm).room s m av.toArray below meth c s.heap [] 0 0 (sx_Q below E s) (entryFrame m av.toArray nL) := by
      rw [lg_entry_eq]
      exact body p e s m below meth c ⟨B.exec, B.bytes, hml, findClass_of_methodNamed B.named, fun w hw => atoms_spec (ws := Cond.code y cc nL ret :: sbT) B.pre w (List.mem_cons_of_mem _ hw), hK, fun q h => Or.inr h⟩ B.notSynchronized hZ (B.noHandlers (atoms_spec (ws := Cond.code y cc nL ret :: sbT) B.pre _ List.mem_cons_self)) s.heap [] _ (lv_entry av hlen) hP hD0.self va_S.rf (fun _ => ⟨rfl, rfl⟩)
    obtain ⟨t, a1, o, b1, b2, b3⟩ := hW s₁ hh0 (Stand.of_body B)
    exact ⟨t, o, a1, b1, b2, b3⟩
end SX
theorem sx_own64 : sx_okw (sx_own RXB 64 EIS) = true := by decide +kernel
theorem sx_own111 : sx_okw (sx_own RXB 111 EIO) = true := by decide +kernel
theorem sx_own166 : sx_okw (sx_own RXB 166 EIA) = true := by decide +kernel
