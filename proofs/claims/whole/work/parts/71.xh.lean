/-! The law's handlers: the search through the table of a method, entry by entry -/
section XH
variable {e : Env} {s S : State} {f : JFrame} {a : Addr} {args : Array Value} {own nm T : String}
theorem xw_ex.moved {U V : State} (hh : V.heap = U.heap) (hvm : U.vm.Alike V.vm) (h : xw_ex nm a U) : xw_ex nm a V := by
  obtain ⟨ce, h1, h2, h3⟩ := h
  exact ⟨ce, by rw [hh]; exact h1, h2, by rw [hvm.findClass]; exact h3⟩
theorem xc_one (hpl : e.platform.magicAccessors = ({} : Platform).magicAccessors) (hW : s.WarmedH S.vm) (hown : s.vm.findClass own = some f.method.cls) {x : ExceptionTableEntry} (hlk : (Cond.classLink own x.catchType T).before args s = true) (hx : covers x f.pc = true) (h0 : x.catchType ≠ 0) (hex : xw_ex nm a S) :
    ∃ (vm1 : Vm) (ce : Cell) (c1 : ClassId), s.WarmedH vm1 ∧ S.vm.Alike vm1 ∧ s.vm.findClass nm = some ce.cls ∧ s.vm.findClass T = some c1 ∧ ∀ (Q : Handler → Pre) (E : CtlPost) (d : Bool) (acts : List Action) (t : List ExceptionTableEntry), wp (findHandler.go f a (x :: t)) Q E e d acts S ↔
      if vm1.assignable ce.cls c1 = true then Q (.found x.handlerPc) d acts (S.setVm vm1) else wp (findHandler.go f a t) Q E e d acts (S.setVm vm1) := by
  obtain ⟨ce, e1, e2, e3⟩ := hex
  obtain ⟨c1, hc1, hlinks⟩ := Cond.classLink_spec hown hlk e.platform hpl
  obtain ⟨hg, hW1, -⟩ := State.classEntry (e := e) hW hlinks
  have hal1 := hW1.alike
  have hal : S.vm.Alike (S.vm.noted f.method.cls x.catchType (.cls c1)) := hW.alike.symm.trans hal1
  have e3s : s.vm.findClass nm = some ce.cls := by rw [hW.alike.findClass] at e3; exact e3
  refine ⟨_, ce, c1, hW1, hal, e3s, hc1, fun Q E d acts t => ?_⟩
  refine xc_go hx h0 hg (by rw [Vm.size_noted]; exact Nat.le_refl _) e1 (fun k => by rw [e2]; intro h; cases h) ?_ ?_
  · exact Vm.classAt_of_findClass (name := nm) (by rw [hal1.findClass]; exact e3s)
  · exact Vm.classAt_of_findClass (name := T) (by rw [hal1.findClass]; exact hc1)
theorem xc_pass (hpl : e.platform.magicAccessors = ({} : Platform).magicAccessors) (hW : s.WarmedH S.vm) (hown : s.vm.findClass own = some f.method.cls) {x : ExceptionTableEntry} (hlk : (Cond.classLink own x.catchType T).before args s = true) (hx : covers x f.pc = true) (h0 : x.catchType ≠ 0) (hex : xw_ex nm a S) (hn : va_Nc nm T s) :
    ∃ vm1 : Vm, s.WarmedH vm1 ∧ S.vm.Alike vm1 ∧ ∀ (Q : Handler → Pre) (E : CtlPost) (d : Bool) (acts : List Action) (t : List ExceptionTableEntry), wp (findHandler.go f a (x :: t)) Q E e d acts S ↔ wp (findHandler.go f a t) Q E e d acts (S.setVm vm1) := by
  obtain ⟨vm1, ce, c1, h1, h2, h3, h4, h5⟩ := xc_one hpl hW hown hlk hx h0 hex
  refine ⟨vm1, h1, h2, fun Q E d acts t => ?_⟩
  rw [h5]
  obtain ⟨cc, tt, g1, g2, g3⟩ := va_Nc.moved (u := s) (U := S.setVm vm1) h1.alike hn
  have g1' : vm1.findClass nm = some cc := g1
  have g2' : vm1.findClass T = some tt := g2
  rw [h1.alike.findClass, h3] at g1'
  rw [h1.alike.findClass, h4] at g2'
  cases g1'
  cases g2'
  rw [if_neg]
  rw [show vm1.assignable ce.cls c1 = false from g3]
  decide
theorem xc_hit (hpl : e.platform.magicAccessors = ({} : Platform).magicAccessors) (hW : s.WarmedH S.vm) (hown : s.vm.findClass own = some f.method.cls) {x : ExceptionTableEntry} (hlk : (Cond.classLink own x.catchType T).before args s = true) (hx : covers x f.pc = true) (h0 : x.catchType ≠ 0) (hex : xw_ex nm a S) (hn : va_Nw (.castable nm T) s) :
    ∃ vm1 : Vm, s.WarmedH vm1 ∧ S.vm.Alike vm1 ∧ ∀ (Q : Handler → Pre) (E : CtlPost) (d : Bool) (acts : List Action) (t : List ExceptionTableEntry), wp (findHandler.go f a (x :: t)) Q E e d acts S ↔ Q (.found x.handlerPc) d acts (S.setVm vm1) := by
  obtain ⟨vm1, ce, c1, h1, h2, h3, h4, h5⟩ := xc_one hpl hW hown hlk hx h0 hex
  refine ⟨vm1, h1, h2, fun Q E d acts t => ?_⟩
  rw [h5]
  obtain ⟨cc, tt, g1, g2, g3⟩ := Cond.castable_spec (va_Nw.warmC (U := S.setVm vm1) h1 hn)
  have g1' : vm1.findClass nm = some cc := g1
  have g2' : vm1.findClass T = some tt := g2
  rw [h1.alike.findClass, h3] at g1'
  rw [h1.alike.findClass, h4] at g2'
  cases g1'
  cases g2'
  rw [if_pos (show vm1.assignable ce.cls c1 = true from g3)]
end XH
/-- what the law's own methods are given besides -/
def xnc (U : State) : Prop := va_Nc "java/util/NoSuchElementException" "java/lang/IllegalStateException" U ∧ va_Nc "java/lang/IndexOutOfBoundsException" "java/lang/IllegalStateException" U ∧ va_Nc "java/lang/IndexOutOfBoundsException" "java/util/NoSuchElementException" U
theorem xnc.moved {u U : State} (hvm : u.vm.Alike U.vm) (h : xnc u) : xnc U := ⟨h.1.moved hvm, h.2.1.moved hvm, h.2.2.moved hvm⟩
def lPc (D : va_G) (tA : Nat → ClassId) (ad : Nat → Nat) (M : ev_M) (sz q1 q2 q3 : Nat) (as : List tm_V) : Array Value → State → Prop := fun v U => xPc D tA ad M sz q1 q2 q3 as v U ∧ xnc U
theorem lPc_blind {D : va_G} {tA : Nat → ClassId} {ad : Nat → Nat} {M : ev_M} {sz q1 q2 q3 : Nat} {as : List tm_V} : FrameBlind (lPc D tA ad M sz q1 q2 q3 as) := fun a U g mk q => ⟨xPc_blind a U g mk q.1, xnc.moved (u := U) (U := U.calling g mk a) (Vm.Alike.refl U.vm) q.2⟩
/-- a contract out of the walk of a method with handlers -/
theorem xt_Met.ofWh {l : Launch} {y : MethodName} {ws ws' : List Cond} {rm : Room} {Pc : Array Value → State → Prop} {Qc : Array Value → State → Outcome → State → Prop} {mc ms : Nat} {free : Addr → Prop} {cc : ByteArray} {maxL : Nat} {ret : Option FieldType} {hs : List (Nat × Nat × Nat × Nat)}
    (hy : plainName y.cls = true) (hw : ws = Cond.codeWith y cc maxL ret hs :: ws')
    (body : ∀ p e s m args below meth c s₁, BodyLoose p l y (headSpec ws rm) cc maxL ret e s m args below meth c s₁ → c.maxLocals = maxL → c.exceptionTable.toList.map (fun h => (h.startPc, h.endPc, h.handlerPc, h.catchType)) = hs → Pc args s →
      W p l e rm s m args below meth c s.heap [] 0 0 (xt_MQ below Qc args s mc ms free) (entryFrame m args maxL)) : xt_Met l y ws rm Pc Qc mc ms free := by
  refine MetFree.of_bodyS (code := cc) (maxLocals := maxL) (ret := ret) hy ?_ ?_
  · intro args s m h hn
    obtain ⟨m', meth, c, h0, h1, h2, h3, h4, -, h5, h6, -⟩ := Cond.codeWith_spec (atoms_spec (ws := ws) h _ (by rw [hw]; exact List.mem_cons_self))
    cases hn.symm.trans h0
    exact ⟨meth, c, h1, h2, h3, h4, h5, h6⟩
  · intro p e s m args below meth c s₁ B hml hP _
    have hh0 : s₁.heap = s.heap := by rw [B.state]; rfl
    have X := Stand.of_body B
    have htab : c.exceptionTable.toList.map (fun h => (h.startPc, h.endPc, h.handlerPc, h.catchType)) = hs := by
      obtain ⟨m', meth', c', h0, h1, h2, h3, h4, h7, -, -, -⟩ := Cond.codeWith_spec (atoms_spec (ws := ws) B.pre _ (by rw [hw]; exact List.mem_cons_self))
      cases B.named.symm.trans h0
      cases B.method.symm.trans h1
      cases X.code.symm.trans h2
      exact h7
    obtain ⟨t, a1, o, b1, b2, b3⟩ := body p e s m args below meth c s₁ B hml htab hP s₁ hh0 X
    exact ⟨t, o, a1, b1, b2, b3.1, b3.2⟩
