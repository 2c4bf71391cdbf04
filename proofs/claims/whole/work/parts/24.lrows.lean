/-! rows of the law's own body -/
section LR
variable {p : Program} {l : Launch} {e : Env} {R : Room} {s : State} {m : MethodId} {args : Array Value} {below : List Frame} {meth : Method} {c : Code} {Q : State → Prop}
variable {cc : ByteArray} {nL : Nat} {own : String} {D : va_G} {ta : ClassId × ClassId × ClassId} {A : Nat → Prop} {z : Bool} {k n : Nat} {ws : va_W} {lv lv' : List (Nat × Value)} {pc : Nat} {st : List Value} {E : String}
theorem sw_sld (G : sg p s m args c cc nL own D ta A) {b L : Nat} {xs : Nat → Int32} (hX : va_X b L xs s s.heap) (hbl : b < s.heap.size) (hbA : ¬ A b) {i : Nat} (hi : i < L) (hL : L < 2 ^ 31) {v : Int32} (hv : xs i = v) (d : decode cc pc = .ok (.iaload, 1)) (kk : sw p l e R s m args below meth c nL D A Q z k n ws lv (pc + 1) (.int v :: st)) : sw p l e R s m args below meth c nL D A Q z k n ws lv pc (.int (nI i) :: .ref b :: st) := by
  subst hv
  have e : (nI i).toNatClampNeg = i := nI_clamp (by omega)
  refine fun H locs ls hl hP hD hS hz => va_sld G.1 G.2.1 hX hbl hbA hS (show vp_in (nI i) L from ?_) d ?_
  · rintro (h | h)
    · exact nI_pos (by omega) h
    · rw [e] at h; omega
  · rw [e]
    exact kk H locs ls hl hP hD hS hz
theorem sw_slen (G : sg p s m args c cc nL own D ta A) {b L : Nat} {xs : Nat → Int32} (hX : va_X b L xs s s.heap) (hbl : b < s.heap.size) (hbA : ¬ A b) (d : decode cc pc = .ok (.arraylength, 1)) (kk : sw p l e R s m args below meth c nL D A Q z k n ws lv (pc + 1) (.int (nI L) :: st)) : sw p l e R s m args below meth c nL D A Q z k n ws lv pc (.ref b :: st) := fun H locs ls hl hP hD hS hz => va_slen G.1 G.2.1 hX hbl hbA hS d (kk H locs ls hl hP hD hS hz)
/-- what a call of a helper leans on -/
abbrev szB (R : Room) (s : State) (args : Array Value) (own : String) (index : Nat) (y : MethodName) (bytes : ByteArray) (maxL : Nat) (ret : Option FieldType) (hh : List (Nat × Nat × Nat × Nat)) (wy : List Cond) (rm : Room) (N : Nat) : Prop := rm.frames + 1 ≤ R.frames ∧ 8 + (maxL + 11) + rm.locals ≤ R.locals ∧ (∀ w ∈ wy, ∀ (a' : Array Value) (U : State), s.WarmedH U.vm → w.before a' U = true) ∧ Cond.codeWith y bytes maxL ret hh ∈ wy ∧ (Cond.codeWith y bytes maxL ret hh).before args s = true ∧ (Cond.initialized y.cls).before args s = true ∧
  (y.cls ≠ "java/lang/invoke/MethodHandle" ∧ y.cls ≠ "java/lang/invoke/VarHandle") ∧ (∀ sig, parseMethodDescriptor y.desc = some sig → N = sig.parameters.length) ∧ (Cond.methodLink own index y).before args s = true ∧ (Cond.static y).before args s = true
theorem szB_of {index : Nat} {y : MethodName} {bytes : ByteArray} {maxL : Nat} {ret : Option FieldType} {hh : List (Nat × Nat × Nat × Nat)} {rm : Room} (N : Nat) (ht : ∀ w ∈ sbT, w.before args s = true) (hc : Cond.codeWith y bytes maxL ret hh ∈ sbT) (hl : Cond.methodLink own index y ∈ sbT) (hs : Cond.static y ∈ sbT) (hi : Cond.initialized y.cls ∈ sbT) (hd : y.cls ≠ "java/lang/invoke/MethodHandle" ∧ y.cls ≠ "java/lang/invoke/VarHandle" ∧ (parseMethodDescriptor y.desc).map (fun d => d.parameters.length) = some N) (hR : rm.frames + 1 ≤ R.frames ∧ 8 + (maxL + 11) + rm.locals ≤ R.locals) :
    szB R s args own index y bytes maxL ret hh (Cond.codeWith y bytes maxL ret hh :: sbT) rm N := by
  refine ⟨hR.1, hR.2, pay_in ht (sb_goodI hc), List.mem_cons_self, ht _ hc, ht _ hi, ⟨hd.1, hd.2.1⟩, fun sig h => ?_, ht _ hl, ht _ hs⟩
  have h2 := hd.2.2
  rw [h] at h2
  exact (Option.some.inj h2).symm
theorem sw_callZ {S : Type} {wc wr : va_W} {P : S → Prop} {v : S → Option Value} {w1 : S → va_W} {y : MethodName} {wy : List Cond} {rm : Room} {bytes : ByteArray} {maxL N index : Nat} {As rest : List Value} {ret : Option FieldType} {hh : List (Nat × Nat × Nat × Nat)} (G : sg p s m args c cc nL own D ta A) (hZ : sx_Z A s s.heap) (hM : sz l y wy rm D ta As wc P v w1) (cw : szB R s args own index y bytes maxL ret hh wy rm N) (hn : As.length = N) (hst : st = As.reverse ++ rest) (hroom : (rest.map fun v => v.category).sum ≤ 8) (d : decode cc pc = .ok (.invokestatic index, 3)) (hf : k + rm.cells ≤ R.cells ∧ n + rm.slots ≤ R.slots)
    (isC isR : List Nat) (hC : isC.map (fun i => ws[i]?) = wc.map some) (hR : isR.map (fun i => ws[i]?) = wr.map some) (hnC : va_nd isC = true) (hnR : va_nd isR = true) (hdis : ∀ i ∈ isR, i ∉ isC)
    (kk : ∀ u : S, P u → sw p l e R s m args below meth c nL D A Q false (k + rm.cells) (n + rm.slots) (wr ++ w1 u) lv (pc + 3) ((v u).toList ++ rest)) : sw p l e R s m args below meth c nL D A Q z k n ws lv pc st := by
  subst hst
  intro H locs ls hl hP hD hS hz
  have hFc := va_free hD hS G.2.2.2.2.2.2 isC hC
  have hPc : va_P D vwCl wc H := fun j q hj => by
    have h1 : (isC.map (fun i => ws[i]?))[j]? = some (some q) := by rw [hC, List.getElem?_map, hj]; rfl
    rw [List.getElem?_map] at h1
    cases hi : isC[j]? with
    | none => rw [hi] at h1; cases h1
    | some i => rw [hi] at h1; exact hP i q (Option.some.inj h1)
  have hDc : va_D (fun _ => True) wc := (hD.sub isC hnC hC).weaken (fun _ _ _ _ => trivial)
  intro T hT X
  obtain ⟨hfr, hlo, hws, hcw, hcode, hini, hy, hlen, hlink, hstat⟩ := cw
  have hK : Back l R p e below s args y 3 8 (PreOf R rm.cells rm.slots (sx_P D ta As wc H.size)) (PostOf (sb_Q D ta wc H.size P v w1) rm.cells rm.slots (va_A wc H.size)) :=
    va_backW (hh := hh) (bytes := bytes) (maxL := maxL) (ret := ret) (hM H.size) sx_P.blind rfl rfl hfr hlo hws hcw (fun a' U hW => word_at hW (Or.inl (by first | rfl | simp [Cond.onTables, Cond.keeps, Cond.steady])) hini)
  obtain ⟨mk, methM, cM, hnamed, hmethM, -, -, -, -, -, -, hsigM⟩ := Cond.codeWith_spec hcode
  have hstatic : methM.isStatic = true := Cond.static_spec hnamed hmethM hstat
  obtain ⟨kP, hkP, -⟩ := className_of_methodNamed hnamed
  have hinitP : kP.init = .initialized := Cond.initialized_spec (findClass_of_methodNamed hnamed) hkP hini
  have hdg : decode c.code pc = .ok (.invokestatic index, 3) := by rw [G.2.1]; exact d
  obtain ⟨vm₁, X₁, hstep₁⟩ := X.invokestatic G.1 G.2.2.2.1 hlink hnamed hmethM hstatic hkP hinitP hy (g := F0 m pc ls (As.reverse ++ rest)) rfl (argsL := As) (rest := rest) (hn.trans (hlen _ hsigM)) rfl hdg
  have hZ1 : sx_Z sx_no (T.setVm vm₁) T.heap := by
    rw [hT]
    exact ((hZ.moved (u := s) (U := T.setVm vm₁) X₁.warmed).kept (fun a h1 h2 => hS.2.1 a h1 h2)).narrow (fun q h => h.elim)
  obtain ⟨v1, ⟨U', l2, c2, s2⟩, X', ⟨g', mk', t, L, e1, e2, ⟨⟨u, hu, hv, hP1, hK1, hD1⟩, hz1, hk1⟩, q1, hL, q2, q3⟩, hsteps⟩ := hK m meth c ⟨T.setVm vm₁, locs, k, n⟩ (F0 m pc ls rest) (.invokestatic index) mk As.toArray X₁ rfl (by rw [G.2.2.1]; exact hl.1) hdg (lv_room hroom) (X₁.named hnamed)
    ⟨hf.1, hf.2, ⟨⟨rfl, by show T.heap.size = _; rw [hT], by show va_P D vwCl wc T.heap; rw [hT]; exact hPc, va_K.moved (u := s) X₁.warmed.alike G.2.2.2.2.2.1, hDc⟩, hZ1⟩⟩
  dsimp only [Pt.U, Pt.locs, Pt.cells, Pt.slots] at X' e1 e2 q1 q2 q3 hsteps
  subst q1; subst q2; subst q3
  cases hv
  have hst0 : ((T.setVm vm₁).calling g' mk' As.toArray).heap = H := hT
  rw [hst0] at hz1 hk1
  have hk' : ∀ q : Nat, q < H.size → ¬ va_A wc H.size q → U'.heap[q]? = H[q]? := fun q h1 h2 => by rw [e1]; exact hk1 q h1 h2
  obtain ⟨hP2, hD2⟩ := va_join hP hD isC isR hC hR hnR hdis hk' hFc (by rw [e1]; exact hP1) hD1
  have hS2 : va_S A s.heap U'.heap (locs ++ L) := ⟨Nat.le_trans hS.1 (by rw [e1]; exact hz1), fun q h1 h2 => by
      rw [hk' q (Nat.lt_of_lt_of_le h1 hS.1) (fun z => h2 (hFc q z))]
      exact hS.2.1 q h1 h2, fun q hq => by
      rcases List.mem_append.mp hq with h | h
      · exact hS.2.2 q h
      · exact hFc _ (hL q h)⟩
  obtain ⟨t2, a1, b1⟩ := kk u hu U'.heap (locs ++ L) ls hl hP2 hD2 hS2 nofun U' rfl X'
  exact ⟨t2, hstep₁ _ (fun acts => by rw [doInvoke_state]; exact hsteps.trans a1), b1⟩
end LR
abbrev swG (p : Program) (s : State) (m : MethodId) (args : Array Value) (c : Code) (D : va_G) (ta : ClassId × ClassId × ClassId) (A : Nat → Prop) : Prop := sg p s m args c code 7 RXL D ta A
