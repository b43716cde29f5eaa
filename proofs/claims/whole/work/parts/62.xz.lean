/-! Throwing: a static that is only carried; a walk that begins anew where it stands; the making and throwing of an exception -/
def xz (C n d : String) (A : Nat → Prop) (U : State) (H : Heap) : Prop := ∃ (c : ClassId) (k : Class) (i : Nat) (f : Field) (a : Nat) (cell : Cell) (v : Value), U.vm.findClass C = some c ∧ U.fieldFound? C n d = some (c, k, i, f) ∧ f.isStatic = true ∧ k.statics = some a ∧ H[a]? = some cell ∧ cell.vm.isStatics = true ∧ cell.cls = c ∧ f.slot < cell.slots.size ∧ k.staticTypes[f.slot]? = some f.type ∧ cell.slots[f.slot]? = some v ∧ (v = .null ∨ ∃ t, v = .ref t) ∧ ¬ A a
theorem xz.of {C n d : String} {A : Nat → Prop} {args : Array Value} {s : State} (hl : (Cond.laysStatic C n d).before args s = true) (hr : (Cond.isRef (.static C n d)).before args s = true) (hA : ∀ a : Nat, a < s.heap.size → ¬ A a) : xz C n d A s s.heap := by
  obtain ⟨c, k, i, f, a, cell, hc, hi, hst, ha, hcell, hs, hcls, hlt, hty⟩ := Cond.laysStatic_spec hl
  cases hv : (Term.static C n d).eval args s none [] s with
  | none => simp [Cond.before, Cond.holds, Cond.value, hv] at hr
  | some w =>
    obtain ⟨-, a', cell', ha', hcell', -, hslot⟩ := Term.static_spec hi hv
    cases ha.symm.trans ha'
    cases hcell.symm.trans hcell'
    refine ⟨c, k, i, f, a, cell, w, hc, hi, hst, ha, hcell, hs, hcls, hlt, hty, hslot, ?_, hA a (Array.getElem?_eq_some_iff.mp hcell).1⟩
    simp only [Cond.before, Cond.holds, Cond.value, hv] at hr
    cases w with
    | null => exact Or.inl rfl
    | ref t => exact Or.inr ⟨t, rfl⟩
    | _ => simp at hr
theorem xz.moved {C n d : String} {A : Nat → Prop} {u U : State} {H : Heap} (hvm : u.vm.Alike U.vm) (h : xz C n d A u H) : xz C n d A U H := by
  obtain ⟨c, k, i, f, a, cell, v, hc, hi, hst, ha, hcell, hs, hcls, hlt, hty, hv⟩ := h
  obtain ⟨k', hi', he⟩ := State.fieldFound?_setVm hvm hi
  exact ⟨c, k', i, f, a, cell, v, by rw [hvm.findClass]; exact hc, hi', hst, by rw [he]; exact ha, hcell, hs, hcls, hlt, by rw [he]; exact hty, hv⟩
theorem xz.kept {C n d : String} {A : Nat → Prop} {U : State} {H H1 : Heap} (h : xz C n d A U H) (hq : ∀ a : Nat, a < H.size → ¬ A a → H1[a]? = H[a]?) : xz C n d A U H1 := by
  obtain ⟨c, k, i, f, a, cell, v, hc, hi, hst, ha, hcell, hs, hcls, hlt, hty, hv, hr, hA⟩ := h
  exact ⟨c, k, i, f, a, cell, v, hc, hi, hst, ha, by rw [hq a (Array.getElem?_eq_some_iff.mp hcell).1 hA]; exact hcell, hs, hcls, hlt, hty, hv, hr, hA⟩
theorem xz.narrow {C n d : String} {A B : Nat → Prop} {U : State} {H : Heap} (h : xz C n d A U H) (hAB : ∀ q, B q → A q) : xz C n d B U H := by
  obtain ⟨c, k, i, f, a, cell, v, hc, hi, hst, ha, hcell, hs, hcls, hlt, hty, hv, hr, hA⟩ := h
  exact ⟨c, k, i, f, a, cell, v, hc, hi, hst, ha, hcell, hs, hcls, hlt, hty, hv, hr, fun z => hA (hAB a z)⟩
theorem xz.lays {C n d : String} {A : Nat → Prop} {U : State} {args : Array Value} (h : xz C n d A U U.heap) : (Cond.laysStatic C n d).before args U = true := by
  obtain ⟨c, k, i, f, a, cell, v, hc, hi, hst, ha, hcell, hs, hcls, hlt, hty, hv, hr, hA⟩ := h
  exact Cond.laysStatic_of hc hi hst ha hcell hs hcls hlt hty
theorem xz.isRef {C n d : String} {A : Nat → Prop} {U : State} {args : Array Value} (h : xz C n d A U U.heap) : (Cond.isRef (.static C n d)).before args U = true := by
  obtain ⟨c, k, i, f, a, cell, v, hc, hi, hst, ha, hcell, hs, hcls, hlt, hty, hv, hr, hA⟩ := h
  rcases hr with rfl | ⟨t, rfl⟩ <;> simp [Cond.before, Cond.holds, Cond.value, Term.eval, State.fieldNamed?, hi, hst, ha, hcell, hs, hv]
theorem xz.cell {C n d : String} {A : Nat → Prop} {U : State} {H : Heap} (h : xz C n d A U H) : True := trivial
/-- the walk stands at T: it is a walk that begins there, with the room that is left -/
theorem xt_rebase {p : Program} {l : Launch} {e : Env} {R : Room} {s : State} {m : MethodId} {args : Array Value} {below : List Frame} {meth : Method} {c : Code} {T : State} {locs : List Loc} {cells slots : Nat} (X : Stand p l e R s m args below meth c T locs cells slots) {R' : Room} (hf : R'.frames ≤ R.frames) (hlo : R'.locals ≤ R.locals) (hc : cells + R'.cells ≤ R.cells) (hs : slots + R'.slots ≤ R.slots) :
    Stand p l e R' (T.setFrames (.invoking m args :: below)) m args below meth c T [] 0 0 := by
  obtain ⟨g₀, hfr⟩ := X.frames_eq
  have hcur : T.cur < T.threads.size := State.cur_lt_of_frames hfr
  have hfs : (T.setFrames (.invoking m args :: below)).frames = .invoking m args :: below := State.frames_setFrames _ hcur
  have hm : (T.setFrames (.invoking m args :: below)).vm.method? m = some meth := X.method'
  obtain ⟨t, ht, -⟩ := State.frames_cons hfs
  refine ⟨X.admits, X.cas, X.clock, hfs, ?_, ?_, hm, X.code, X.here, X.tail, State.WarmedH.refl _, by rw [State.stackLimits_setFrames], by rw [State.stackBytes_setFrames], ?_⟩
  · have hr := X.room
    have h1 := X.heapSize
    have h2 := X.used
    have h3 := X.book
    have e1 : (T.setFrames (.invoking m args :: below)).localsInUse = s.localsInUse := by
      rw [State.localsInUse_invoking hfs hm X.code, State.localsInUse_invoking X.frames X.method X.code]
    simp only [State.hasRoom, Bool.and_eq_true, decide_eq_true_eq] at hr ⊢
    rw [e1, hfs, State.stackLimits_setFrames, State.stackBytes_setFrames, X.limits, X.bytes]
    rw [X.frames] at hr
    obtain ⟨⟨⟨⟨r1, r2, r3, r4, r5, r6⟩, r7⟩, r8⟩, r9⟩ := hr
    have e2 : (T.setFrames (.invoking m args :: below)).heap.size = T.heap.size := rfl
    have e3 : (T.setFrames (.invoking m args :: below)).slotsUsed = T.slotsUsed := rfl
    rw [e2, e3]
    exact ⟨⟨⟨⟨by omega, by omega, by omega, by omega, by omega, r6⟩, by omega⟩, by omega⟩, h3⟩
  · have hh := X.hears
    have e1 : ∀ x : MethodId, (T.setFrames (.invoking m args :: below)).code? x = s.code? x := fun x => by
      rw [State.code?_eq, State.code?_eq]
      show (T.vm.method? x).bind _ = _
      rw [X.warmed.alike.method?]
    have e2 : (T.setFrames (.invoking m args :: below)).vm.method? m = s.vm.method? m := X.warmed.alike.method? m
    cases below with
    | nil => simp only [State.hears] at hh ⊢; rw [e2]; exact hh
    | cons b r =>
      cases b <;> simp only [State.hears] at hh ⊢ <;> first | exact hh | (rw [e2]; exact hh) | (rw [e1]; exact hh)
  · have h := (State.sameButNew.refl (T.setFrames (.invoking m args :: below)) ht).setFrames T.frames (by
      show T.cur < (T.setFrames _).threads.size
      simpa [State.setFrames] using hcur)
    have e1 : (T.setFrames (.invoking m args :: below)).setFrames T.frames = T := by
      obtain ⟨t2, ht2, -⟩ := State.frames_cons hfr
      rw [State.setFrames_setFrames, State.setFrames_self ht2]
    rw [e1] at h
    exact h
/-- the end of a method that may throw -/
def xt_MQ (below : List Frame) (Qc : Array Value → State → Outcome → State → Prop) (a : Array Value) (s : State) (mc ms : Nat) (free : Addr → Prop) : State → Prop := fun t =>
  ∃ o, t.status = .running ∧ Ended t below o ∧ Qc a s o t ∧ ∃ L, xt_End s t L mc ms ∧ ∀ q ∈ L, free q.base
theorem xt_MQ.of {below : List Frame} {Qc : Array Value → State → Outcome → State → Prop} {a : Array Value} {s : State} {mc ms : Nat} {free : Addr → Prop} {t : State} (h : MQ below Qc a s mc ms free t) : xt_MQ below Qc a s mc ms free t := by
  obtain ⟨o, h1, h2, h3, L, h4, h5⟩ := h
  exact ⟨o, h1, h2, h3, L, ⟨h4.2.1, h4.2.2⟩, h5⟩
theorem W.post {p : Program} {l : Launch} {e : Env} {R : Room} {s : State} {m : MethodId} {args : Array Value} {below : List Frame} {meth : Method} {c : Code} {H : Heap} {locs : List Loc} {cells slots : Nat} {Q Q' : State → Prop} {g : JFrame} (h : W p l e R s m args below meth c H locs cells slots Q g) (hq : ∀ t, Q t → Q' t) : W p l e R s m args below meth c H locs cells slots Q' g := by
  intro T hT X
  obtain ⟨t, h1, h2⟩ := h T hT X
  exact ⟨t, h1, hq t h2⟩
theorem xt_Met.ofW {l : Launch} {y : MethodName} {ws ws' : List Cond} {rm : Room} {Pc : Array Value → State → Prop} {Qc : Array Value → State → Outcome → State → Prop} {mc ms : Nat} {free : Addr → Prop} {cc : ByteArray} {maxL : Nat} {ret : Option FieldType}
    (hy : plainName y.cls = true) (hw : ws = Cond.code y cc maxL ret :: ws')
    (body : ∀ p e s m args below meth c s₁, BodyLoose p l y (headSpec ws rm) cc maxL ret e s m args below meth c s₁ → c.maxLocals = maxL → c.exceptionTable.toList = [] → Pc args s →
      W p l e rm s m args below meth c s.heap [] 0 0 (xt_MQ below Qc args s mc ms free) (entryFrame m args maxL)) : xt_Met l y ws rm Pc Qc mc ms free := by
  refine MetFree.of_bodyS (code := cc) (maxLocals := maxL) (ret := ret) hy ?_ ?_
  · intro args s m h hn
    obtain ⟨meth, c, h1, h2, h3, h4, h5, h6, -, -⟩ := Cond.code_spec hn (atoms_spec (ws := ws) h _ (by rw [hw]; exact List.mem_cons_self))
    exact ⟨meth, c, h1, h2, h3, h4, h5, h6⟩
  · intro p e s m args below meth c s₁ B hml hP _
    have hh0 : s₁.heap = s.heap := by rw [B.state]; rfl
    have X := Stand.of_body B
    have htab : c.exceptionTable.toList = [] := by
      obtain ⟨meth', c', h1, h2, h3, h4, h5, h6, h7, -⟩ := Cond.code_spec B.named (atoms_spec (ws := ws) B.pre _ (by rw [hw]; exact List.mem_cons_self))
      cases B.method.symm.trans h1
      cases X.code.symm.trans h2
      simpa using h7
    obtain ⟨t, a1, o, b1, b2, b3⟩ := body p e s m args below meth c s₁ B hml htab hP s₁ hh0 X
    exact ⟨t, o, a1, b1, b2, b3.1, b3.2⟩
