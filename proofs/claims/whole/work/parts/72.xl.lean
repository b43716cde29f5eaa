/-! The law's two helpers that catch: NulledForestLaw.length and made -/
section XL
variable {e : Env} {s S : State} {f : JFrame} {a : Addr} {args : Array Value} {own nm T : String}
/-- the search through L ends at pc', after some class entries were resolved -/
def xc_Gd (s : State) (e : Env) (S : State) (f : JFrame) (a : Addr) (L : List ExceptionTableEntry) (pc' : Nat) : Prop := ∃ vm1 : Vm, s.WarmedH vm1 ∧ S.vm.Alike vm1 ∧ ∀ (Q : Handler → Pre) (E : CtlPost) (d : Bool) (acts : List Action), wp (findHandler.go f a L) Q E e d acts S ↔ Q (.found pc') d acts (S.setVm vm1)
theorem xh_pass (hpl : e.platform.magicAccessors = ({} : Platform).magicAccessors) (hW : s.WarmedH S.vm) (hown : s.vm.findClass own = some f.method.cls) {x : ExceptionTableEntry} (hlk : (Cond.classLink own x.catchType T).before args s = true) (hx : covers x f.pc = true) (h0 : x.catchType ≠ 0) (hex : xw_ex nm a S) (hn : va_Nc nm T s) {t : List ExceptionTableEntry} {pc' : Nat}
    (k : ∀ S' : State, s.WarmedH S'.vm → xw_ex nm a S' → xc_Gd s e S' f a t pc') : xc_Gd s e S f a (x :: t) pc' := by
  obtain ⟨vm1, h1, h2, h3⟩ := xc_pass hpl hW hown hlk hx h0 hex hn
  obtain ⟨vm2, g1, g2, g3⟩ := k (S.setVm vm1) h1 (xw_ex.moved (U := S) (V := S.setVm vm1) rfl h2 hex)
  exact ⟨vm2, g1, h2.trans g2, fun Q E d acts => (h3 Q E d acts t).trans (g3 Q E d acts)⟩
theorem xh_hit (hpl : e.platform.magicAccessors = ({} : Platform).magicAccessors) (hW : s.WarmedH S.vm) (hown : s.vm.findClass own = some f.method.cls) {x : ExceptionTableEntry} (hlk : (Cond.classLink own x.catchType T).before args s = true) (hx : covers x f.pc = true) (h0 : x.catchType ≠ 0) (hex : xw_ex nm a S) (hn : va_Nw (.castable nm T) s) {t : List ExceptionTableEntry} {pc' : Nat} (hpc : x.handlerPc = pc') : xc_Gd s e S f a (x :: t) pc' := by
  obtain ⟨vm1, h1, h2, h3⟩ := xc_hit hpl hW hown hlk hx h0 hex hn
  exact ⟨vm1, h1, h2, fun Q E d acts => by rw [← hpc]; exact h3 Q E d acts t⟩
end XL
section XM
variable {p : Program} {l : Launch} {e : Env} {R : Room} {s : State} {m : MethodId} {args : Array Value} {below : List Frame} {meth : Method} {c : Code} {locs : List Loc} {cells slots : Nat} {Q : State → Prop} {pc pc' : Nat} {ls : Array Slot} {rest : List Value} {a : Nat} {B : State}
theorem xh_revm (X : Stand p l e R s m args below meth c B locs cells slots) {vm' : Vm} (h1 : s.WarmedH vm') (h2 : B.vm.Alike vm') : Stand p l e R s m args below meth c (B.setVm vm') locs cells slots :=
  ⟨X.admits, X.cas, X.clock, X.frames, X.room, X.hears, X.method, X.code, X.here.setVm h2, X.tail, h1, X.limits, X.bytes, X.same⟩
theorem xh_catch (X : Stand p l e R s m args below meth c B locs cells slots) (hG : xc_Gd s e ((B.setTop (F0 m pc ls rest)).pushFrame (.throwing a)) (F0 m pc ls rest) a c.exceptionTable.toList pc')
    (kk : W p l e R s m args below meth c B.heap locs cells slots Q (F0 m pc' ls [.ref a])) : ∃ t, Steps p.tables e below ((B.setTop (F0 m pc ls rest)).pushFrame (.throwing a)) t ∧ Q t := by
  obtain ⟨vm1, h1, h2, h3⟩ := hG
  have h2' : B.vm.Alike vm1 := h2
  obtain ⟨t, t1, t2⟩ := kk (B.setVm vm1) rfl (xh_revm X h1 h2')
  refine ⟨t, ?_, t2⟩
  refine xc_caught (g := F0 m pc ls rest) (c := c) (vm' := vm1) (pc := pc') X.here ?_ t1
  intro Q E d acts
  refine (W.findHandler_eq (meth := meth) (code := c) ?_ X.code).trans (h3 Q E d acts)
  exact X.method'
end XM
theorem mLN_le {k : Int} {M : ev_M} {Q : Nat → Int → ev_M → Prop} (h : mLN k M Q) : mLN k M (fun r w M => Q r w M ∧ r ≤ 2) := by
  obtain ⟨n1, v1, M1, hr1, rfl, h⟩ := h
  refine ⟨n1, none, M1, hr1, rfl, ?_⟩
  unfold mRT at h ⊢
  by_cases h0 : sT_endless M1 = 0
  · rw [if_pos h0] at h ⊢
    by_cases h1 : k < 0
    · rw [if_pos h1] at h ⊢
      exact ⟨h, Nat.le_refl _⟩
    · rw [if_neg h1] at h ⊢
      obtain ⟨n, v, M2, hr, w, rfl, hq⟩ := h
      refine ⟨n, _, M2, hr, w, rfl, ?_⟩
      by_cases h2 : k < w
      · rw [if_pos h2] at hq ⊢
        obtain ⟨n3, v3, M3, hr3, w3, rfl, hq⟩ := hq
        exact ⟨n3, _, M3, hr3, w3, rfl, hq, by decide⟩
      · rw [if_neg h2] at hq ⊢
        exact ⟨hq, Nat.le_refl _⟩
  · rw [if_neg h0] at h ⊢
    exact ⟨h, by decide⟩
theorem mMD_le {k i : Int} {M : ev_M} {Q : Nat → Int → ev_M → Prop} (h : mMD k i M Q) : mMD k i M (fun r w M => Q r w M ∧ r ≤ 3) := by
  obtain ⟨n1, v1, M1, hr1, rfl, h⟩ := h
  refine ⟨n1, none, M1, hr1, rfl, ?_⟩
  unfold mRT at h ⊢
  by_cases h0 : sT_endless M1 = 0
  · rw [if_pos h0] at h ⊢
    by_cases h1 : k < 0
    · rw [if_pos h1] at h ⊢
      exact ⟨h, by decide⟩
    · rw [if_neg h1] at h ⊢
      obtain ⟨n, v, M2, hr, w, rfl, hq⟩ := h
      refine ⟨n, _, M2, hr, w, rfl, ?_⟩
      by_cases h2 : k < w
      · rw [if_pos h2] at hq ⊢
        rw [if_pos rfl] at hq ⊢
        by_cases h3 : i < 0
        · rw [if_pos h3] at hq ⊢
          exact ⟨hq, Nat.le_refl _⟩
        · rw [if_neg h3] at hq ⊢
          obtain ⟨n3, v3, M3, hr3, w3, rfl, hq⟩ := hq
          refine ⟨n3, _, M3, hr3, w3, rfl, ?_⟩
          by_cases h4 : w3 = -1
          · rw [if_pos h4] at hq ⊢
            exact ⟨hq, Nat.le_refl _⟩
          · rw [if_neg h4] at hq ⊢
            exact ⟨hq, by decide⟩
      · rw [if_neg h2] at hq ⊢
        exact ⟨hq, by decide⟩
  · rw [if_neg h0] at h ⊢
    exact ⟨h, by decide⟩
def yHL : MethodName := ⟨"NulledForestLaw", "length", "(LNulledForest;I[J)I"⟩
def yHM : MethodName := ⟨"NulledForestLaw", "made", "(LNulledForest;II[J)I"⟩
def rmHL : Room := { frames := 10, cells := 1, slots := 6, locals := 330 }
def rmHM : Room := { frames := 10, cells := 2, slots := 12, locals := 330 }
/-- the memory after a helper's end -/
def xM (r : Nat) (w : Int) (M : ev_M) : ev_M := if r = 0 then ev_sA M 46 0 w else M
theorem okM_out {w : Int} {M : ev_M} (hok : okM M) (hw : tm_iL w) : okM (ev_sA M 46 0 w) := by
  have h := tm_hp_ok (i := .lastore) (xs := []) (st := [.inr (.inl w), .inl 0, .inr (.inr (some 46))]) (h := hp M) (st' := []) (h' := hp (ev_sA M 46 0 w)) rfl (by
    intro v hv
    simp only [List.mem_cons, List.not_mem_nil, or_false] at hv
    rcases hv with rfl | rfl | rfl
    · exact hw
    · exact ⟨by omega, by omega⟩
    · show 46 < 47; decide) hok
  exact h.2.1
