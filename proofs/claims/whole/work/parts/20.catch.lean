/-! catching: the search for a handler whose class may be cold -/
def sx_F (e : Env) (S : State) (f : JFrame) (a : Addr) (hpc : Nat) (vm' : Vm) : Prop := ∀ (Q : Handler → Pre) (E : CtlPost) (d : Bool) (acts : List Action), wp (findHandler f a) Q E e d acts S ↔ Q (.found hpc) d acts (S.setVm vm')
theorem sx_stepF {e : Env} {S : State} {f : JFrame} {a : Addr} {hpc : Nat} {vm' : Vm} {r : List Frame} (h : sx_F e S f a hpc vm') : (stepThrowing e S a (.java f :: r)).Is ((S.setVm vm').setFrames (.java { f with pc := hpc, stack := [.ref a] } :: r)) [] := by
  simp only [stepThrowing, searchFrame, vmDo]
  generalize hr : Sem.go _ e false [] S = res
  obtain ⟨as, rfl, ha⟩ := Sem.eq_ok_of hr (a := Handler.found hpc) (s' := S.setVm vm') (acts' := []) (by simp [h _ _ _ _])
  exact ⟨rfl, ha⟩
theorem sx_caught {tb : Tables} {e : Env} {T target : State} {g : JFrame} {c : Code} {below : List Frame} {a : Addr} (h : At T g.method c below) {hpc : Nat} {vm' : Vm} (hf : sx_F e ((T.setTop g).pushFrame (.throwing a)) g a hpc vm')
    (hrest : Steps tb e below ((T.setVm vm').setTop { g with pc := hpc, stack := [.ref a] }) target) : Steps tb e below ((T.setTop g).pushFrame (.throwing a)) target := by
  obtain ⟨hgo, hw⟩ := h.throwing a
  refine Steps.head hgo hw ?_
  obtain ⟨g₀, hg⟩ := Option.isSome_iff_exists.mp h.top
  obtain ⟨r, hr⟩ := State.topJava?_eq_some.mp hg
  have hr' : (T.setVm vm').frames = .java g₀ :: r := hr
  rw [stepThread_throwing (frames_entered h.top _), (sx_stepF (S := (T.setTop g).pushFrame (.throwing a)) hf).1]
  rw [State.setTop_of_frames _ hr'] at hrest
  rw [hr, List.tail_cons, State.pushFrame, State.setFrames_setVm, State.setFrames_setFrames, State.setTop_of_frames _ hr, State.setFrames_setVm, State.setFrames_setFrames]
  exact hrest
theorem sx_row {Q : Handler → Pre} {E : CtlPost} {e : Env} {d : Bool} {acts : List Action} {S : State} {f : JFrame} {a : Addr} {x : ExceptionTableEntry} {t : List ExceptionTableEntry} {c : ClassId} {cell : Cell} (hx : covers x f.pc = true) (h0 : x.catchType ≠ 0)
    (hg : (resolveClass f.method.cls x.catchType).Gives e.toSetting S.vm (.ok c) (S.vm.noted f.method.cls x.catchType (.cls c))) (hcell : S.heap[a]? = some cell) (hobj : ∀ k, cell.vm ≠ .statics k) (hk : ∃ k, (S.vm.noted f.method.cls x.catchType (.cls c)).classes[cell.cls]? = some k) (hc : ∃ k, (S.vm.noted f.method.cls x.catchType (.cls c)).classes[c]? = some k) (b : Bool) (hb : (S.vm.noted f.method.cls x.catchType (.cls c)).assignable cell.cls c = b) :
    wp (findHandler.go f a (x :: t)) Q E e d acts S ↔ (if b = true then Q (.found x.handlerPc) d acts (S.setVm (S.vm.noted f.method.cls x.catchType (.cls c))) else wp (findHandler.go f a t) Q E e d acts (S.setVm (S.vm.noted f.method.cls x.catchType (.cls c)))) := by
  simp only [covers] at hx
  obtain ⟨ha, ht⟩ := hg.op (op := VmOp.resolveClass f.method.cls x.catchType) rfl
  obtain ⟨k1, hk1⟩ := hk
  obtain ⟨k2, hk2⟩ := hc
  cases b <;> simp [findHandler.go, hx, h0, ha, ht, hcell, hobj, hk1, hk2, hb, VmOp.dirties, VmOp.acts]
section SC
variable {p : Program} {l : Launch} {e : Env} {R : Room} {s : State} {m : MethodId} {args : Array Value} {below : List Frame} {meth : Method} {c : Code} {Q : State → Prop}
variable {cc : ByteArray} {nL : Nat} {own : String} {D : va_G} {ta : ClassId × ClassId × ClassId} {A : Nat → Prop} {z : Bool} {k n : Nat} {ws : va_W} {lv lv' : List (Nat × Value)} {pc : Nat} {st : List Value} {E : String}
abbrev sx_tab (c : Code) : List (Nat × Nat × Nat × Nat) := c.exceptionTable.toList.map (fun h => (h.startPc, h.endPc, h.handlerPc, h.catchType))
def sx_cat (p : Program) (l : Launch) (e : Env) (R : Room) (s : State) (m : MethodId) (args : Array Value) (below : List Frame) (meth : Method) (c : Code) (E : String) (pc hpc : Nat) : Prop := ∀ (T' : State) (g : JFrame) (x : Addr) (ce : Cell), Stand p l e R s m args below meth c T' [] 1 6 → g.method = m → g.pc = pc → T'.heap[x]? = some ce → ce.vm = .none → s.vm.findClass E = some ce.cls →
  ∃ vm', Stand p l e R s m args below meth c (T'.setVm vm') [] 1 6 ∧ ∀ tgt, Steps p.tables e below ((T'.setVm vm').setTop { g with pc := hpc, stack := [.ref x] }) tgt → Steps p.tables e below ((T'.setTop g).pushFrame (.throwing x)) tgt
theorem sx_cat1 {a0 b0 h0 t0 : Nat} {more : List (Nat × Nat × Nat × Nat)} (G : sg p s m args c cc nL own D ta A) (hZ : sx_Z sx_no s s.heap) (htab : sx_tab c = (a0, b0, h0, t0) :: more) (hlink : Cond.classLink own t0 E ∈ sbT) (hinst : Cond.instantiable E 6 ∈ sbT) (hcast : Cond.castable E E ∈ sx_face) (hpc : a0 ≤ pc ∧ pc < b0) (ht0 : t0 ≠ 0) : sx_cat p l e R s m args below meth c E pc h0 := by
  intro T' g x ce X hg hgp hcell hvm hE
  subst hg; subst hgp
  have hpl : e.platform.magicAccessors = ({} : Platform).magicAccessors := by rw [X.admits.platform]
  cases hL : c.exceptionTable.toList with
  | nil => rw [sx_tab, hL] at htab; cases htab
  | cons y rest =>
    rw [sx_tab, hL] at htab
    simp only [List.map_cons, List.cons.injEq, Prod.mk.injEq] at htab
    obtain ⟨⟨e1, e2, e3, e4⟩, -⟩ := htab
    subst e3
    have hcl := (G.2.2.2.2.1 _ hlink)
    rw [← e4] at hcl
    obtain ⟨c', hc', hcl⟩ := Cond.classLink_spec G.2.2.2.1 hcl e.platform hpl
    have ec : c' = ce.cls := Option.some.inj (hc'.symm.trans hE)
    subst ec
    obtain ⟨hgive, hwarm, -⟩ := State.classEntry (e := e) X.warmed hcl
    obtain ⟨c1, k1, hc1, hk1, -⟩ := Cond.instantiable_spec (G.2.2.2.2.1 _ hinst)
    have ec1 : c1 = ce.cls := Option.some.inj (hc1.symm.trans hE)
    rw [ec1] at hk1
    obtain ⟨k1', hk1', -⟩ := hwarm.alike.2.2 _ _ hk1
    obtain ⟨q1, q2, w1, w2, w3⟩ := Cond.castable_spec (hZ.2.2.1 _ hcast)
    have ew1 : q1 = ce.cls := Option.some.inj (w1.symm.trans hE)
    have ew2 : q2 = ce.cls := Option.some.inj (w2.symm.trans hE)
    rw [ew1, ew2] at w3
    have hcov : covers y g.pc = true := by simp [covers, e1, e2, hpc]
    refine ⟨_, X.noted hwarm, fun tgt hrest => sx_caught X.here (fun Q E d acts => ?_) hrest⟩
    rw [W.findHandler_eq (s := (T'.setTop g).pushFrame (.throwing x)) (meth := meth) (code := c) X.method' X.code, hL]
    refine (sx_row (cell := ce) (S := (T'.setTop g).pushFrame (.throwing x)) hcov (by rw [e4]; exact ht0) hgive hcell (fun k h => by rw [hvm] at h; cases h) ⟨k1', hk1'⟩ ⟨k1', hk1'⟩ true (by have q := w3; rw [← hwarm.alike.assignable] at q; exact q)).trans ?_
    rw [if_pos rfl]
    exact Iff.rfl
theorem sx_cat2 {a1 b1 h1 t1 a0 b0 h0 t0 : Nat} {more : List (Nat × Nat × Nat × Nat)} (G : sg p s m args c cc nL own D ta A) (hZ : sx_Z sx_no s s.heap) (htab : sx_tab c = (a1, b1, h1, t1) :: (a0, b0, h0, t0) :: more) (hlink1 : Cond.classLink own t1 EIS ∈ sbT) (hlink : Cond.classLink own t0 EIO ∈ sbT) (hinst1 : Cond.instantiable EIS 6 ∈ sbT) (hinst : Cond.instantiable EIO 6 ∈ sbT) (hpc1 : a1 ≤ pc ∧ pc < b1) (hpc : a0 ≤ pc ∧ pc < b0) (ht1 : t1 ≠ 0) (ht0 : t0 ≠ 0) : sx_cat p l e R s m args below meth c EIO pc h0 := by
  intro T' g x ce X hg hgp hcell hvm hE
  subst hg; subst hgp
  have hpl : e.platform.magicAccessors = ({} : Platform).magicAccessors := by rw [X.admits.platform]
  cases hL : c.exceptionTable.toList with
  | nil => rw [sx_tab, hL] at htab; cases htab
  | cons y1 rest1 =>
    rw [sx_tab, hL] at htab
    simp only [List.map_cons, List.cons.injEq, Prod.mk.injEq] at htab
    obtain ⟨⟨f1, f2, f3, f4⟩, htab⟩ := htab
    cases rest1 with
    | nil => cases htab
    | cons y rest =>
      simp only [List.map_cons, List.cons.injEq, Prod.mk.injEq] at htab
      obtain ⟨⟨e1, e2, e3, e4⟩, -⟩ := htab
      subst e3
      have hcl1 := (G.2.2.2.2.1 _ hlink1)
      rw [← f4] at hcl1
      obtain ⟨cS, hcS, hcl1⟩ := Cond.classLink_spec G.2.2.2.1 hcl1 e.platform hpl
      have hcl := (G.2.2.2.2.1 _ hlink)
      rw [← e4] at hcl
      obtain ⟨c', hc', hcl⟩ := Cond.classLink_spec G.2.2.2.1 hcl e.platform hpl
      have ec : c' = ce.cls := Option.some.inj (hc'.symm.trans hE)
      subst ec
      obtain ⟨hgive1, hwarm1, -⟩ := State.classEntry (e := e) X.warmed hcl1
      obtain ⟨hgive, hwarm, -⟩ := State.classEntry (e := e) hwarm1 hcl
      obtain ⟨c1, k1, hc1, hk1, -⟩ := Cond.instantiable_spec (G.2.2.2.2.1 _ hinst)
      have ec1 : c1 = ce.cls := Option.some.inj (hc1.symm.trans hE)
      rw [ec1] at hk1
      obtain ⟨cS', kS, hcS', hkS, -⟩ := Cond.instantiable_spec (G.2.2.2.2.1 _ hinst1)
      have ecS : cS' = cS := Option.some.inj (hcS'.symm.trans hcS)
      rw [ecS] at hkS
      obtain ⟨k1', hk1', -⟩ := hwarm.alike.2.2 _ _ hk1
      obtain ⟨k1'', hk1'', -⟩ := hwarm1.alike.2.2 _ _ hk1
      obtain ⟨kS', hkS', -⟩ := hwarm1.alike.2.2 _ _ hkS
      obtain ⟨q1, q2, w1, w2, w3⟩ := Cond.castable_spec (hZ.2.2.1 (.castable EIO EIO) (by decide))
      have ew1 : q1 = ce.cls := Option.some.inj (w1.symm.trans hE)
      have ew2 : q2 = ce.cls := Option.some.inj (w2.symm.trans hE)
      rw [ew1, ew2] at w3
      have hcov1 : covers y1 g.pc = true := by simp [covers, f1, f2, hpc1]
      have hcov : covers y g.pc = true := by simp [covers, e1, e2, hpc]
      refine ⟨_, X.noted hwarm, fun tgt hrest => sx_caught X.here (fun Q E d acts => ?_) hrest⟩
      rw [W.findHandler_eq (s := (T'.setTop g).pushFrame (.throwing x)) (meth := meth) (code := c) X.method' X.code, hL]
      refine (sx_row (cell := ce) (S := (T'.setTop g).pushFrame (.throwing x)) hcov1 (by rw [f4]; exact ht1) hgive1 hcell (fun k h => by rw [hvm] at h; cases h) ⟨k1'', hk1''⟩ ⟨kS', hkS'⟩ false (by have q := hZ.2.2.2.2 _ _ hE hcS; rw [← hwarm1.alike.assignable] at q; exact q)).trans ?_
      rw [if_neg (by decide)]
      refine (sx_row (cell := ce) (S := ((T'.setTop g).pushFrame (.throwing x)).setVm (T'.vm.noted g.method.cls y1.catchType (.cls cS))) hcov (by rw [e4]; exact ht0) hgive hcell (fun k h => by rw [hvm] at h; cases h) ⟨k1', hk1'⟩ ⟨k1', hk1'⟩ true (by have q := w3; rw [← hwarm.alike.assignable] at q; exact q)).trans ?_
      rw [if_pos rfl]
      exact Iff.rfl
theorem sx_old {a b : State} {k n : Nat} (h : a.sameButNew b [] k n) : a.heap.size ≤ b.heap.size ∧ ∀ q : Nat, q < a.heap.size → b.heap[q]? = a.heap[q]? := by
  refine ⟨h.2.1, fun q hq => ?_⟩
  have hc : a.heap[q]? = some a.heap[q] := Array.getElem?_eq_getElem hq
  obtain ⟨c', h1, h2, h3, h4⟩ := h.2.2.2.2.2 q _ hc
  rw [h1, hc]
  have e : c'.slots = a.heap[q].slots := by
    apply Array.ext_getElem?
    intro i
    exact h4 i (fun z => nomatch z)
  rw [h2, e]
theorem sw_catchV {wc : va_W} {y : MethodName} {wy : List Cond} {rm : Room} {bytes : ByteArray} {maxL N index hpc : Nat} {As rest : List Value} {ret : Option FieldType} {C : String} {b : Nat} (G : sg p s m args c cc nL own D ta A) (hZ : sx_Z sx_no s s.heap) (hcat : sx_cat p l e R s m args below meth c E pc hpc)
    (hM : sx l y wy rm D ta (.ref b :: As) wc E) (cw : CallW R s args own C index y bytes maxL ret wy rm rm.cells rm.slots N) (q0 ci : Nat) {fs : List Value} {T0 : u_T} {N' : Nat} (hc : vwCl[ci]? = some (C, T0, N')) (he : ws[q0]? = some (b, .inr (ci, fs))) (hn : As.length = N) (hst : st = As.reverse ++ .ref b :: rest) (hroom : (rest.map fun v => v.category).sum ≤ 8) (d : decode cc pc = .ok (.invokevirtual index, 3)) (hf : rm.cells ≤ R.cells ∧ rm.slots ≤ R.slots)
    (isC : List Nat) (hC : isC.map (fun i => ws[i]?) = wc.map some) (hnC : va_nd isC = true) (kk : ∀ x : Nat, sw p l e R s m args below meth c nL D A Q false 1 6 ws lv hpc [.ref x]) : sw p l e R s m args below meth c nL D A Q true 0 0 ws lv pc st := by
  subst hst
  intro H locs ls hl hP hD hS hz T hT X
  obtain ⟨e1, e2⟩ := hz rfl
  subst e1; subst e2
  have hPc : va_P D vwCl wc s.heap := fun j q hj => by
    have h1 : (isC.map (fun i => ws[i]?))[j]? = some (some q) := by rw [hC, List.getElem?_map, hj]; rfl
    rw [List.getElem?_map] at h1
    cases hi : isC[j]? with
    | none => rw [hi] at h1; cases h1
    | some i => rw [hi] at h1; exact hP i q (Option.some.inj h1)
  have hDc : va_D (fun _ => True) wc := (hD.sub isC hnC hC).weaken (fun _ _ _ _ => trivial)
  obtain ⟨⟨-, -, hfr, hlo, hws, hcw, hcode, hini, hy, hlen, hlink⟩, hin, hse⟩ := cw
  obtain ⟨cellB, hcB, hoB, hclB⟩ := va_recv G.2.2.2.2.2.1 hP hc he
  obtain ⟨mk, methM, hnamed, hmethM, hstM, habM⟩ := Cond.instanceMethod_spec hin
  obtain ⟨methM', cM, hmethM', -, -, -, -, -, -, hsigM⟩ := Cond.code_spec hnamed hcode
  cases hmethM.symm.trans hmethM'
  obtain ⟨c2, r2, m2, q1, q2, q3, q4, kP, hkP, hkPi⟩ := Cond.selects_spec hse
  cases hclB.symm.trans q1
  cases (State.methodFound?_of_named hnamed hy).symm.trans q2
  cases hnamed.symm.trans q3
  have hselP : selectMethod e.platform s.vm cellB.cls mk = .method mk := by rw [Launch.admits_selectMethod X.admits]; exact q4
  have hdg : decode c.code pc = .ok (.invokevirtual index, 3) := by rw [G.2.1]; exact d
  obtain ⟨vm₁, X₁, hstep₁⟩ := X.invokevirtual G.1 G.2.2.2.1 hlink hnamed hmethM hstM hkP hkPi hy (a := b) (cell := cellB) (by rw [hT]; exact hcB)
    (fun z h => by rw [h] at hoB; cases hoB) hselP hmethM habM hkP hkPi (g := F0 m pc ls (As.reverse ++ .ref b :: rest)) rfl (argsL := As) (rest := rest) (hn.trans (hlen _ hsigM)) rfl hdg
  obtain ⟨x, ce, T', X', h1, h2, h3, h4, hsame, hgo⟩ := sx_go (hM s.heap.size) X₁ (g := F0 m pc ls rest) (mk := mk) (a := (Value.ref b :: As).toArray) rfl (by rw [G.2.2.1]; exact hl.1) hdg (lv_room hroom) hws hcw hini (X₁.named hnamed)
    ⟨⟨rfl, by show T.heap.size = _; rw [hT], by show va_P D vwCl wc T.heap; rw [hT]; exact hPc, va_K.moved (u := s) X₁.warmed.alike G.2.2.2.2.2.1, hDc⟩, by show sx_Z sx_no _ T.heap; rw [hT]; exact hZ.moved (u := s) X₁.warmed⟩ hfr hlo hf.1 hf.2
  obtain ⟨vm', X2, hst2⟩ := hcat T' (F0 m pc ls rest) x ce X' rfl rfl h1 h3 ((X₁.warmed.alike.findClass E none).symm.trans h4)
  obtain ⟨ho1, ho2⟩ := sx_old hsame
  have hh : (T.setVm vm₁).heap = s.heap := hT
  rw [hh] at ho1 ho2
  have hold : ∀ q : Nat, q < s.heap.size → T'.heap[q]? = s.heap[q]? := ho2
  obtain ⟨t, a1, b1⟩ := kk x T'.heap [] ls hl (fun i q hq => (hP i q hq).kept (hold q.1 (hP i q hq).lt)) hD ⟨ho1, fun q h1 _ => hold q h1, fun q hq => nomatch hq⟩ nofun (T'.setVm vm') rfl X2
  exact ⟨t, hstep₁ _ (fun acts => by rw [doInvoke_state]; exact hgo.trans (hst2 _ a1)), b1⟩
/-- the law's helpers: a contract whose precondition knows what throwing leans on -/
def sz {S : Type} (l : Launch) (y : MethodName) (wy : List Cond) (rm : Room) (D : va_G) (ta : ClassId × ClassId × ClassId) (av : List Value) (ws : va_W) (P : S → Prop) (v : S → Option Value) (w1 : S → va_W) : Prop := ∀ sz : Nat, Met l y wy rm (sx_P D ta av ws sz) (sb_Q D ta ws sz P v w1) rm.cells rm.slots (va_A ws sz)
theorem sz_ofW {S : Type} {y : MethodName} {rm : Room} {av : List Value} {P : S → Prop} {v : S → Option Value} {w1 : S → va_W} {ret : Option FieldType} {hh : List (Nat × Nat × Nat × Nat)} (hy : plainName y.cls = true) (hlen : (lg_sl av).length ≤ nL)
    (body : ∀ (p : Program) (e : Env) (s : State) (m : MethodId) (below : List Frame) (meth : Method) (c : Code), sg p s m av.toArray c cc nL y.cls D ta (va_A ws s.heap.size) → meth.sig.returnType = ret → meth.locks = false → sx_Z sx_no s s.heap → sx_tab c = hh →
      sw p l e rm s m av.toArray below meth c nL D (va_A ws s.heap.size) (MQ below (sb_Q D ta ws s.heap.size P v w1) av.toArray s rm.cells rm.slots (va_A ws s.heap.size)) true 0 0 ws (lv_args 0 av) 0 []) : sz l y (Cond.codeWith y cc nL ret hh :: sbT) rm D ta av ws P v w1 := by
  intro sz
  refine va_MetW (cc := cc) (maxL := nL) (ret := ret) (hh := hh) hy rfl ?_
  intro p e s m args below meth c s₁ B hml hv
  obtain ⟨⟨rfl, hsz, hP, hK, hD0⟩, hZ⟩ := hv
  subst hsz
  obtain ⟨m9, meth9, c9, hn9, hm9, hc9, -, -, htab, -⟩ := Cond.codeWith_spec (atoms_spec (ws := Cond.codeWith y cc nL ret hh :: sbT) B.pre _ List.mem_cons_self)
  cases B.named.symm.trans hn9
  cases B.method.symm.trans hm9
  cases (Stand.of_body B).code.symm.trans hc9
  rw [lg_entry_eq]
  exact body p e s m below meth c ⟨B.exec, B.bytes, hml, findClass_of_methodNamed B.named, fun w hw => atoms_spec (ws := Cond.codeWith y cc nL ret hh :: sbT) B.pre w (List.mem_cons_of_mem _ hw), hK, fun q h => Or.inr h⟩ B.returns B.notSynchronized hZ htab s.heap [] _ (lv_entry av hlen) hP hD0.self va_S.rf (fun _ => ⟨rfl, rfl⟩)
theorem sx_P.blind {av : List Value} {sz : Nat} : FrameBlind (sx_P D ta av ws sz) := fun a U g mk q => by
  obtain ⟨⟨q0, q1, qP, qK, qD⟩, qZ⟩ := q
  exact ⟨⟨q0, q1, qP, va_K.moved (u := U) (U := U.calling g mk a) (Vm.Alike.refl U.vm) qK, qD⟩, qZ.moved (u := U) (U := U.calling g mk a) (State.WarmedH.refl U)⟩
end SC
