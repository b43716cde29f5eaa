/-! An exception is made and thrown: new, dup, ldc, the constructor, athrow -/
section XW
variable {p : Program} {l : Launch} {e : Env} {R : Room} {s : State} {m : MethodId} {args : Array Value} {below : List Frame} {meth : Method} {c : Code} {H : Heap} {locs : List Loc} {cells slots : Nat} {cc : ByteArray} {pc : Nat} {ls : Array Slot}
/-- the two statics that a Throwable's constructor reads -/
def xz2 (A : Nat → Prop) (U : State) (H : Heap) : Prop := xz "java/lang/Throwable" "UNASSIGNED_STACK" "[Ljava/lang/StackTraceElement;" A U H ∧ xz "java/lang/Throwable" "SUPPRESSED_SENTINEL" "Ljava/util/List;" A U H
/-- a word of an exception's making that lies in the heap -/
def xw_hp (w : Cond) : Bool := match w with
  | .isRef _ => true
  | .laysStatic _ _ _ => true
  | _ => false
/-- the cell of an exception of class nm -/
def xw_ex (nm : String) (a : Nat) (t : State) : Prop := ∃ ce : Cell, t.heap[a]? = some ce ∧ ce.vm = .none ∧ t.vm.findClass nm = some ce.cls
theorem xt_throwW (hl : l.flags = flags0) (hx : p.tables.exec = Jvm.exec) (hb : c.code = cc) {own cls tx : String} {ix il ic q ixc : Nat} {by_ : ByteArray} (hb0 : decode by_ 0 = .ok (.aload_n 0, 1)) (hb1 : decode by_ 1 = .ok (.aload_n 1, 1)) (hb2 : decode by_ 2 = .ok (.invokespecial ixc, 3)) (hb5 : decode by_ 5 = .ok (.return_, 1)) (hown : s.vm.findClass own = some m.cls) (hcls : Bundle.fit cls = true)
    (hcl : (Cond.classLink own ix cls).before args s = true) (hins : (Cond.instantiable cls 6).before args s = true) (hini : (Cond.initialized cls).before args s = true)
    (hat : ∀ w ∈ xo_at own ic cls ixc by_, xw_hp w = false → ∀ U : State, s.WarmedH U.vm → w.before args U = true)
    (hhp : (xo_at own ic cls ixc by_).filter xw_hp = [.laysStatic "java/lang/Throwable" "UNASSIGNED_STACK" "[Ljava/lang/StackTraceElement;", .laysStatic "java/lang/Throwable" "SUPPRESSED_SENTINEL" "Ljava/util/List;", .isRef (.static "java/lang/Throwable" "UNASSIGNED_STACK" "[Ljava/lang/StackTraceElement;"), .isRef (.static "java/lang/Throwable" "SUPPRESSED_SENTINEL" "Ljava/util/List;")])
    {A : Nat → Prop} (hz : xz2 A s H) (hk : vk_R own il tx q s)
    (hd0 : decode cc pc = .ok (.new ix, 3)) (hd3 : decode cc (pc + 3) = .ok (.dup, 1)) (hd4 : decode cc (pc + 4) = .ok (.ldc il, 2)) (hd6 : decode cc (pc + 6) = .ok (.invokespecial ic, 3)) (hd9 : decode cc (pc + 9) = .ok (.athrow, 1))
    (htab : c.exceptionTable.toList = []) (hsize : ls.size = c.maxLocals) (hlocks : meth.locks = false)
    (hRc : cells + 1 ≤ R.cells) (hRs : slots + 6 ≤ R.slots) (hRf : 5 < R.frames) (hRl : 90 ≤ R.locals)
    {Qc : Array Value → State → Outcome → State → Prop} {free : Addr → Prop} (hf : ∀ q ∈ locs, free q.base)
    (hq : ∀ (a : Nat) (t : State), H.size ≤ a → H.size ≤ t.heap.size → (∀ q : Nat, q < H.size → t.heap[q]? = H[q]?) → s.WarmedH t.vm → xw_ex cls a t → Qc args s (.threw a) t) :
    W p l e R s m args below meth c H locs cells slots (xt_MQ below Qc args s (cells + 1) (slots + 6) free) (F0 m pc ls []) := by
  intro T hT X
  subst hb
  have htr : e.platform.stackTraces = false := Launch.traces_off hl X.admits
  have hW := X.warmed
  -- the walk begins anew here
  have X1 := xt_rebase X (R' := { frames := R.frames, cells := 1, slots := 6, locals := R.locals }) (Nat.le_refl _) (Nat.le_refl _) hRc hRs
  generalize hs1 : T.setFrames (.invoking m args :: below) = s1 at X1
  have hvm1 : s1.vm = T.vm := by rw [← hs1]; rfl
  have hhp1 : s1.heap = T.heap := by rw [← hs1]; rfl
  have hW1 : s.WarmedH s1.vm := by rw [hvm1]; exact hW
  have hown1 : s1.vm.findClass own = some m.cls := by rw [hW1.alike.findClass]; exact hown
  have kp : ∀ {w : Cond}, (w.onTables && w.keeps) = true → w.before args s = true → w.before args s1 = true := fun h1 h2 => word_at hW1 (Or.inl h1) h2
  have hcl1 : (Cond.classLink own ix cls).before args s1 = true := kp (by first | rfl | simp [Cond.onTables, Cond.keeps, Cond.steady]) hcl
  have hins1 : (Cond.instantiable cls 6).before args s1 = true := kp (by first | rfl | simp [Cond.onTables, Cond.keeps, Cond.steady]) hins
  have hini1 : (Cond.initialized cls).before args s1 = true := kp (by first | rfl | simp [Cond.onTables, Cond.keeps, Cond.steady]) hini
  obtain ⟨vm2, cX, kX, h1, h2, h3, h4, X2, st2⟩ := X1.newCold (g := F0 m pc ls []) hx hown1 hcl1 hins1 hini1 rfl hd0 (Nat.le_refl 1) (by show 0 + 6 ≤ 6; omega)
  have ha1 : T.heap.size = s1.heap.size := by rw [hhp1]
  -- the words at the new beginning
  have hz1 : xz2 A s1 s1.heap := by
    rw [hhp1, hT]
    exact ⟨hz.1.moved hW1.alike, hz.2.moved hW1.alike⟩
  have hat1 : ∀ w ∈ xo_at own ic cls ixc by_, w.before args s1 = true := by
    intro w hw
    cases hh : xw_hp w with
    | false => exact hat w hw hh s1 hW1
    | true =>
      have hm : w ∈ (xo_at own ic cls ixc by_).filter xw_hp := List.mem_filter.mpr ⟨hw, hh⟩
      rw [hhp] at hm
      simp only [List.mem_cons, List.not_mem_nil, or_false] at hm
      rcases hm with rfl | rfl | rfl | rfl
      · exact hz1.1.lays
      · exact hz1.2.lays
      · exact hz1.1.isRef
      · exact hz1.2.isRef
  have hk1 : vk_R own il tx q s1 := hk.warm hW1
  let Q1 : State → Prop := fun U => U.status = .running ∧ Ended U below (.threw T.heap.size) ∧ s1.WarmedH U.vm ∧ s1.sameButNew ({ U with vm := s1.vm } : State) [] 1 6 ∧ ∃ ce, U.heap[T.heap.size]? = some ce ∧ ce.vm = .none ∧ s1.vm.findClass cls = some ce.cls
  have hcellT : ((T.setVm vm2).pushCell (freshCell cX kX)).heap[T.heap.size]? = some (freshCell cX kX) := by simp [State.pushCell]
  have K : W p l e { frames := R.frames, cells := 1, slots := 6, locals := R.locals } s1 m args below meth c ((T.setVm vm2).pushCell (freshCell cX kX)).heap [] 1 6 Q1 (F0 m (pc + 3) ls [.ref T.heap.size]) := by
    refine lv_dup hx rfl hd3 rfl ?_
    refine va_ldcS hx rfl hown1 hk1 hd4 ?_
    intro T3 hT3 X3
    obtain ⟨U, u1, u2, u3, u4, u5, ce, u6, u7, u8⟩ := xt_ctor X3 hx htr hown1 hcls hb0 hb1 hb2 hb5 hat1 rfl (a := T.heap.size) h1 h2 (by rw [hT3]; exact hcellT) (Nat.le_of_eq ha1.symm) (msg := .ref q) rfl (g := F0 m (pc + 6) ls [.ref q, .ref T.heap.size, .ref T.heap.size]) rfl hsize rfl rfl (rest := []) rfl hd6 hd9 (fun x hx => by rw [htab] at hx; cases hx) hRf (by
      have e0 : (([Value.ref T.heap.size].map fun v => v.category).sum) = 1 := rfl
      show 2 * 0 + (([Value.ref T.heap.size].map fun v => v.category).sum) + _ ≤ R.locals
      rw [e0]; omega) hlocks
    exact ⟨U, u1, u2, u3, u4, u5, ce, u6, u7, u8⟩
  obtain ⟨U, hst, u2, u3, u4, u5, ce, u6, u7, u8⟩ := K _ rfl X2
  refine ⟨U, st2 U hst, .threw T.heap.size, u2, u3, ?_, locs, ⟨hW1.trans u4, ?_⟩, hf⟩
  · obtain ⟨q1, q2, q3, q4, q5, q6⟩ := u5
    refine hq T.heap.size U (by rw [hT]; exact Nat.le_refl _) (by rw [← hT, ← hhp1]; exact q2) (fun q0 hq0 => ?_) (hW1.trans u4) ⟨ce, u6, u7, by rw [u4.alike.findClass]; exact u8⟩
    rw [← hT, ← hhp1] at hq0
    obtain ⟨c1, c2, c3, c4, c5⟩ := q6 q0 (s1.heap[q0]) (Array.getElem?_eq_getElem hq0)
    have c2' : U.heap[q0]? = some c1 := c2
    have hsl : c1.slots = (s1.heap[q0]).slots := by
      apply Array.ext_getElem?
      intro i
      exact c5 i (by simp)
    have e1 : c1 = s1.heap[q0] := by rw [c3, hsl]
    rw [c2', e1, ← hT, ← hhp1]
    exact (Array.getElem?_eq_getElem hq0).symm
  · have hT1 : T.sameButNew (U.setVm T.vm) [] 1 6 := by
      obtain ⟨q1, q2, q3, q4, q5, q6⟩ := u5
      subst hs1
      refine ⟨?_, q2, q3, q4, q5, q6⟩
      rw [State.setFrames_setFrames] at q1
      exact q1
    have := X.same.trans (hT1.setVm s.vm)
    rw [List.append_nil] at this
    exact this
end XW
