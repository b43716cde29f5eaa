/-! A call that may throw, out of a method that does not catch -/
section XR
variable {p : Program} {l : Launch} {e : Env} {R : Room} {s : State} {m : MethodId} {args : Array Value} {below : List Frame} {meth : Method} {c : Code} {H : Heap} {locs : List Loc} {cells slots : Nat} {cc : ByteArray} {pc : Nat} {ls : Array Slot} {D : va_G} {A : Nat → Prop} {tA : Nat → ClassId} {ad : Nat → Nat} {nL : Nat} {own : String} {c0 : Cond} {M M1 : ev_M}
/-- the outcome of a call of a contract that may throw: where it comes back, where it throws (the note stands over the frame) -/
theorem xr_V (hx : p.tables.exec = Jvm.exec) (hb : c.code = cc) (hml : c.maxLocals = nL) (hown : s.vm.findClass own = some m.cls) (hts : ∀ w ∈ c0 :: tm_WB lw_tbl, w.before args s = true) (hnw : ∀ w ∈ tm_WN lw_tbl, va_Nw w s)
    {y : MethodName} {yb : ByteArray} {yL : Nat} {yr : Option FieldType} {rm : Room} {mc ms r q1 q2 q3 idx j1 j2 j3 j4 j5 na : Nat} {as : List tm_V} {v : Option tm_V} (hM : xt_Met l y (Cond.code y yb yL yr :: tm_WB lw_tbl) rm (xPc D tA ad M H.size q1 q2 q3 (.inr (.inr (some 0)) :: as)) (xQc D tA ad M H.size r v M1) mc ms (va_A (tm_cW tA ad (hp M)) H.size))
    (hck : (decide (y.cls = "NulledForest") && (tm_inB lw_tbl j1 (.instanceMethod y) && (tm_inB lw_tbl j2 (.selects "NulledForest" y y) && (tm_inB lw_tbl j3 (.initialized "NulledForest") && (tm_inB lw_tbl j4 (.methodLink own idx y) && (decide ((parseMethodDescriptor y.desc).map (fun d => d.parameters.length) = some na))))))) = true) (hna : as.length = na) (hcw : lw_tbl[j5]? = some (Cond.code y yb yL yr))
    (hrc : rm.cells = mc) (hrs : rm.slots = ms) (hfr : rm.frames + 1 ≤ R.frames) (hlo : 8 + (yL + 11) + rm.locals ≤ R.locals)
    (hK : va_K D pg_cl (tm_tys tA) s) (hP : va_P D pg_cl (tm_cW tA ad (hp M)) H) (hD : va_D A (tm_cW tA ad (hp M))) (hS : va_S A s.heap H locs) (hA : ∀ q, s.heap.size ≤ q → A q) (hZ : xz2 A s H) (hks : xks q1 q2 q3 s)
    {rest : List Value} (hrest : (rest.map fun v => v.category).sum ≤ 8) (hl : ls.size = nL) (hcs : cells + mc ≤ R.cells ∧ slots + ms ≤ R.slots)
    (hd : decode cc pc = .ok (.invokevirtual idx, 3)) {T : State} (hT : T.heap = H) (X : Stand p l e R s m args below meth c T locs cells slots) :
    ∃ (B : State) (locs1 : List Loc), Stand p l e R s m args below meth c B locs1 (cells + mc) (slots + ms) ∧ va_P D pg_cl (tm_cW tA ad (hp M1)) B.heap ∧ va_D A (tm_cW tA ad (hp M1)) ∧ va_S A s.heap B.heap locs1 ∧
      ((r = 0 ∧ ∀ tg, Steps p.tables e below (B.setTop (F0 m (pc + 3) ls ((v.map (tm_cv ad)).toList ++ rest))) tg → Steps p.tables e below (T.setTop (F0 m pc ls ((as.map (tm_cv ad)).reverse ++ .ref (ad 0) :: rest))) tg) ∨
       (r ≠ 0 ∧ ∃ a, H.size ≤ a ∧ xw_ex (xnm r) a B ∧ ∀ tg, Steps p.tables e below ((B.setTop (F0 m pc ls rest)).pushFrame (.throwing a)) tg → Steps p.tables e below (T.setTop (F0 m pc ls ((as.map (tm_cv ad)).reverse ++ .ref (ad 0) :: rest))) tg)) := by
  subst hna
  simp only [Bool.and_eq_true, decide_eq_true_eq] at hck
  obtain ⟨hcls, hins, hsel, hini, hlink, hpar⟩ := hck
  have hB : ∀ {j : Nat} {w : Cond}, tm_inB lw_tbl j w = true → w.before args s = true := fun hw => hts _ (List.mem_cons_of_mem _ (tm_inB_mem hw))
  subst hb
  have hAA : ∀ q, va_A (tm_cW tA ad (hp M)) H.size q → A q := by
    intro q hq
    rcases hq with ⟨i, x, hx⟩ | hq
    · exact hD.2 i _ hx
    · exact hA q (Nat.le_trans hS.1 hq)
  have hcwB : Cond.code y yb yL yr ∈ tm_WB lw_tbl := List.mem_filter.mpr ⟨List.mem_of_getElem? hcw, rfl⟩
  have hcode : (Cond.code y yb yL yr).before args s = true := hts _ (List.mem_cons_of_mem _ hcwB)
  have hy : y.cls ≠ "java/lang/invoke/MethodHandle" ∧ y.cls ≠ "java/lang/invoke/VarHandle" := by rw [hcls]; decide
  obtain ⟨fs0, hfs0⟩ : ∃ fs : List tm_V, (hp M)[0]? = some (.inr (7, fs)) := ⟨_, rfl⟩
  have hat0 : (tm_cW tA ad (hp M))[0]? = some (ad 0, .inr (7, fs0.map (tm_cv ad))) := tm_cW_at hfs0
  obtain ⟨cellB, hcB, hoB, hclB⟩ := va_recv (q := ("NulledForest", pgF7, 10)) (ci := 7) hK hP rfl hat0
  obtain ⟨mk, methM, hnamed, hmethM, hstM, habM⟩ := Cond.instanceMethod_spec (hB hins)
  obtain ⟨methM', cM, hmethM', hcM, -, hlM, -, -, -, hsigM⟩ := Cond.code_spec hnamed hcode
  cases hmethM.symm.trans hmethM'
  obtain ⟨c2, r2, m2, s1, s2, s3, s4, kP, hkP, hkPi⟩ := Cond.selects_spec (hB hsel)
  cases hclB.symm.trans s1
  cases (State.methodFound?_of_named hnamed hy).symm.trans s2
  cases hnamed.symm.trans s3
  have hselP : selectMethod e.platform s.vm cellB.cls mk = .method mk := by rw [Launch.admits_selectMethod X.admits]; exact s4
  have hlen : (as.map (tm_cv ad)).length = methM.sig.parameters.length := by
    rw [hsigM] at hpar
    rw [List.length_map]
    exact (Option.some.inj hpar).symm
  obtain ⟨vm₁, X₁, hstep₁⟩ := X.invokevirtual hx hown (hB hlink) hnamed hmethM hstM hkP hkPi hy (a := ad 0) (cell := cellB) (by rw [hT]; exact hcB)
    (fun z h => by rw [h] at hoB; cases hoB) hselP hmethM habM hkP hkPi (g := F0 m pc ls ((as.map (tm_cv ad)).reverse ++ .ref (ad 0) :: rest)) rfl (argsL := as.map (tm_cv ad)) (rest := rest) hlen rfl hd
  have hinitP : kP.init = .initialized := Cond.initialized_spec (findClass_of_methodNamed hnamed) hkP (by rw [hcls]; exact hB hini)
  have hal := X₁.warmed.alike
  obtain ⟨kP1, hkP1, heP1⟩ := hal.2.2 _ _ hkP
  have hpre : xPc D tA ad M H.size q1 q2 q3 (.inr (.inr (some 0)) :: as) (Value.ref (ad 0) :: as.map (tm_cv ad)).toArray (T.setVm vm₁) := by
    have hh : (T.setVm vm₁).heap = H := hT
    refine ⟨rfl, by rw [hh], by rw [hh]; exact hP, va_K.moved hal hK, hD.weaken (fun _ _ _ _ => trivial), fun w hw => tm_nest_warm (List.all_eq_true.mp (tm_WN_nest lw_tbl) w hw) X₁.warmed (hnw w hw), ?_, hks.warm X₁.warmed⟩
    rw [hh]
    exact ⟨(hZ.1.narrow hAA).moved hal, (hZ.2.narrow hAA).moved hal⟩
  have hmk1 : (T.setVm vm₁).methodNamed? y = some mk := X₁.named hnamed
  obtain ⟨o, t, L, B, XB, hL, e1, e2, ⟨qF, qP, qD, qo⟩, stR, stT⟩ := xt_back (W := 8) hM xPc_blind hrc hrs hfr hlo (fun w hw a' U hW => by
      have hwB : w ∈ tm_WB lw_tbl := by
        rcases List.mem_cons.mp hw with rfl | hw
        · exact hcwB
        · exact hw
      exact word_at hW (good_of_word (List.mem_filter.mp hwB).2) (hts w (List.mem_cons_of_mem _ hwB))) X₁ (g := F0 m pc ls rest) rfl (hl.trans hml.symm) (ig := .invokevirtual idx) (len := 3) hd (lv_room hrest) hmk1 (methY := methM) (cY := cM) (by rw [hal.method?]; exact hmethM) hcM hlM (kY := kP1) hkP1 (by rw [heP1]; exact hinitP) hcs.1 hcs.2 hpre
  have hheap : ((T.setVm vm₁).calling (F0 m pc ls rest) mk (Value.ref (ad 0) :: as.map (tm_cv ad)).toArray).heap = H := hT
  have qF1 : H.size ≤ B.heap.size := by have h9 := qF.1; rw [hheap] at h9; rw [e1]; exact h9
  have qF2 : ∀ q : Nat, q < H.size → ¬ va_A (tm_cW tA ad (hp M)) H.size q → B.heap[q]? = H[q]? := fun q h1 h2 => by
    have h9 := qF.2 q (by rw [hheap]; exact h1) h2
    rw [hheap] at h9
    rw [e1]; exact h9
  refine ⟨B, locs ++ L, XB, by rw [e1]; exact qP, qD.weaken (fun _ q _ hq => hAA q.1 hq), ⟨Nat.le_trans hS.1 qF1, fun q h1 h2 => ?_, fun q hq => ?_⟩, ?_⟩
  · rw [qF2 q (Nat.lt_of_lt_of_le h1 hS.1) (fun z => h2 (hAA q z))]
    exact hS.2.1 q h1 h2
  · rcases List.mem_append.mp hq with h | h
    · exact hS.2.2 q h
    · exact hAA _ (hL q h)
  · rcases qo with ⟨hr, ho⟩ | ⟨hr, a, ho, ha, hex⟩
    · refine Or.inl ⟨hr, fun tg htg => hstep₁ tg (fun acts => ?_)⟩
      rw [doInvoke_state]
      exact (stR _ ho).trans htg
    · refine Or.inr ⟨hr, a, by rw [hheap] at ha; exact ha, ?_, fun tg htg => hstep₁ tg (fun acts => ?_)⟩
      · obtain ⟨ce, c1, c2, c3⟩ := hex
        exact ⟨ce, by rw [e1]; exact c1, c2, by rw [e2]; exact c3⟩
      · rw [doInvoke_state]
        exact (stT _ ho).trans htg
end XR
