/-! The law's calls: a helper, a constructor -/
section LS
variable {p : Program} {l : Launch} {e : Env} {R : Room} {s : State} {m : MethodId} {args : Array Value} {below : List Frame} {meth : Method} {c : Code} {H : Heap} {locs : List Loc} {cells slots : Nat} {cc : ByteArray} {pc : Nat} {ls : Array Slot} {D : va_G} {A : Nat → Prop} {tA : Nat → ClassId} {ad : Nat → Nat} {nL : Nat} {own : String} {c0 : Cond} {M M1 : ev_M} {Q : State → Prop}
theorem xh_S (hx : p.tables.exec = Jvm.exec) (hb : c.code = cc) (hml : c.maxLocals = nL) (hown : s.vm.findClass own = some m.cls) (hts : ∀ w ∈ c0 :: tm_WB lw_tbl, w.before args s = true) (hnw : ∀ w ∈ tm_WN lw_tbl, va_Nw w s)
    {y : MethodName} {yb : ByteArray} {yL : Nat} {yr : Option FieldType} {hh : List (Nat × Nat × Nat × Nat)} {rm : Room} {mc ms q1 q2 q3 idx j1 j3 j4 j5 na : Nat} {as : List tm_V} {v : Option tm_V} (hM : xt_Met l y (Cond.codeWith y yb yL yr hh :: tm_WB lw_tbl) rm (lPc D tA ad M H.size q1 q2 q3 as) (xQc D tA ad M H.size 0 v M1) mc ms (va_A (tm_cW tA ad (hp M)) H.size))
    (hck : (decide (y.cls = own) && (decide (own ≠ "java/lang/invoke/MethodHandle") && (decide (own ≠ "java/lang/invoke/VarHandle") && (tm_inB lw_tbl j1 (.static y) && (tm_inB lw_tbl j3 (.initialized own) && (tm_inB lw_tbl j4 (.methodLink own idx y) && (decide ((parseMethodDescriptor y.desc).map (fun d => d.parameters.length) = some na)))))))) = true) (hna : as.length = na) (hcw : lw_tbl[j5]? = some (Cond.codeWith y yb yL yr hh))
    (hrc : rm.cells = mc) (hrs : rm.slots = ms) (hfr : rm.frames + 1 ≤ R.frames) (hlo : 8 + (yL + 11) + rm.locals ≤ R.locals)
    (hK : va_K D pg_cl (tm_tys tA) s) (hP : va_P D pg_cl (tm_cW tA ad (hp M)) H) (hD : va_D A (tm_cW tA ad (hp M))) (hS : va_S A s.heap H locs) (hA : ∀ q, s.heap.size ≤ q → A q) (hZ : xz2 A s H) (hks : xks q1 q2 q3 s) (hnc : xnc s)
    {rest : List Value} (hrest : (rest.map fun v => v.category).sum ≤ 8) (hl : ls.size = nL) (hcs : cells + mc ≤ R.cells ∧ slots + ms ≤ R.slots)
    (hd : decode cc pc = .ok (.invokestatic idx, 3))
    (kk : ∀ (H1 : Heap) (locs1 : List Loc), va_P D pg_cl (tm_cW tA ad (hp M1)) H1 → va_D A (tm_cW tA ad (hp M1)) → va_S A s.heap H1 locs1 → W p l e R s m args below meth c H1 locs1 (cells + mc) (slots + ms) Q (F0 m (pc + 3) ls ((v.map (tm_cv ad)).toList ++ rest))) :
    W p l e R s m args below meth c H locs cells slots Q (F0 m pc ls ((as.map (tm_cv ad)).reverse ++ rest)) := by
  intro T hT X
  subst hna
  simp only [Bool.and_eq_true, decide_eq_true_eq] at hck
  obtain ⟨hcls, hy1, hy2, hstt, hini, hlink, hpar⟩ := hck
  have hB : ∀ {j : Nat} {w : Cond}, tm_inB lw_tbl j w = true → w.before args s = true := fun hw => hts _ (List.mem_cons_of_mem _ (tm_inB_mem hw))
  subst hb
  have hAA : ∀ q, va_A (tm_cW tA ad (hp M)) H.size q → A q := by
    intro q hq
    rcases hq with ⟨i, x, hx⟩ | hq
    · exact hD.2 i _ hx
    · exact hA q (Nat.le_trans hS.1 hq)
  have hcwB : Cond.codeWith y yb yL yr hh ∈ tm_WB lw_tbl := List.mem_filter.mpr ⟨List.mem_of_getElem? hcw, rfl⟩
  have hcode : (Cond.codeWith y yb yL yr hh).before args s = true := hts _ (List.mem_cons_of_mem _ hcwB)
  have hy : y.cls ≠ "java/lang/invoke/MethodHandle" ∧ y.cls ≠ "java/lang/invoke/VarHandle" := by rw [hcls]; exact ⟨hy1, hy2⟩
  obtain ⟨mk, methM, cM, hnamed, hmethM, hcM, -, hlM, -, -, -, hsigM⟩ := Cond.codeWith_spec hcode
  obtain ⟨kP, hkP, -⟩ := className_of_methodNamed hnamed
  have hinitP : kP.init = .initialized := Cond.initialized_spec (findClass_of_methodNamed hnamed) hkP (by rw [hcls]; exact hB hini)
  have hlen : (as.map (tm_cv ad)).length = methM.sig.parameters.length := by
    rw [hsigM] at hpar
    rw [List.length_map]
    exact (Option.some.inj hpar).symm
  obtain ⟨vm₁, X₁, hstep₁⟩ := X.invokestatic hx hown (hB hlink) hnamed hmethM (Cond.static_spec hnamed hmethM (hB hstt)) hkP hinitP hy (g := F0 m pc ls ((as.map (tm_cv ad)).reverse ++ rest)) rfl (argsL := as.map (tm_cv ad)) (rest := rest) hlen rfl hd
  have hal := X₁.warmed.alike
  obtain ⟨kP1, hkP1, heP1⟩ := hal.2.2 _ _ hkP
  have hpre : lPc D tA ad M H.size q1 q2 q3 as (as.map (tm_cv ad)).toArray (T.setVm vm₁) := by
    have hh : (T.setVm vm₁).heap = H := hT
    refine ⟨⟨rfl, by rw [hh], by rw [hh]; exact hP, va_K.moved hal hK, hD.weaken (fun _ _ _ _ => trivial), fun w hw => tm_nest_warm (List.all_eq_true.mp (tm_WN_nest lw_tbl) w hw) X₁.warmed (hnw w hw), ?_, hks.warm X₁.warmed⟩, hnc.moved hal⟩
    rw [hh]
    exact ⟨(hZ.1.narrow hAA).moved hal, (hZ.2.narrow hAA).moved hal⟩
  have hmk1 : (T.setVm vm₁).methodNamed? y = some mk := X₁.named hnamed
  obtain ⟨o, t, Lc, B, XB, hL, e1, e2, ⟨qF, qP, qD, qo⟩, stR, stT⟩ := xt_back (W := 8) hM lPc_blind hrc hrs hfr hlo (fun w hw a' U hW => by
      have hwB : w ∈ tm_WB lw_tbl := by
        rcases List.mem_cons.mp hw with rfl | hw
        · exact hcwB
        · exact hw
      exact word_at hW (good_of_word (List.mem_filter.mp hwB).2) (hts w (List.mem_cons_of_mem _ hwB))) X₁ (g := F0 m pc ls rest) rfl (hl.trans hml.symm) (ig := .invokestatic idx) (len := 3) hd (lv_room hrest) hmk1 (methY := methM) (cY := cM) (by rw [hal.method?]; exact hmethM) hcM hlM (kY := kP1) hkP1 (by rw [heP1]; exact hinitP) hcs.1 hcs.2 hpre
  have hheap : ((T.setVm vm₁).calling (F0 m pc ls rest) mk (as.map (tm_cv ad)).toArray).heap = H := hT
  have qF1 : H.size ≤ B.heap.size := by have h9 := qF.1; rw [hheap] at h9; rw [e1]; exact h9
  have qF2 : ∀ q : Nat, q < H.size → ¬ va_A (tm_cW tA ad (hp M)) H.size q → B.heap[q]? = H[q]? := fun q h1 h2 => by
    have h9 := qF.2 q (by rw [hheap]; exact h1) h2
    rw [hheap] at h9
    rw [e1]; exact h9
  rcases qo with ⟨-, ho⟩ | ⟨hr, -⟩
  · obtain ⟨tt, t1, t2⟩ := kk B.heap (locs ++ Lc) (by rw [e1]; exact qP) (qD.weaken (fun _ q _ hq => hAA q.1 hq)) ⟨Nat.le_trans hS.1 qF1, fun q h1 h2 => by
      rw [qF2 q (Nat.lt_of_lt_of_le h1 hS.1) (fun z => h2 (hAA q z))]
      exact hS.2.1 q h1 h2, fun q hq => by
      rcases List.mem_append.mp hq with h | h
      · exact hS.2.2 q h
      · exact hAA _ (hL q h)⟩ B rfl XB
    refine ⟨tt, hstep₁ tt (fun acts => ?_), t2⟩
    rw [doInvoke_state]
    exact (stR _ ho).trans t1
  · exact absurd rfl hr
/-- a constructor without parameters -/
theorem xi_I (hx : p.tables.exec = Jvm.exec) (hb : c.code = cc) (hml : c.maxLocals = nL) (hown : s.vm.findClass own = some m.cls) (hts : ∀ w ∈ c0 :: tm_WB lw_tbl, w.before args s = true) (hnw : ∀ w ∈ tm_WN lw_tbl, va_Nw w s)
    {y a idx j1 j2 j3 mc ms : Nat} {h h' : tm_H} (hck : (decide (y < pg_n) && (plainName (pg y).1.cls && (decide ((pg y).1.name = "<init>") && (decide ((pg y).2.2.2.1 = none) && (tm_inB lw_tbl j1 (.instanceMethod (pg y).1) && (tm_inB lw_tbl j2 (.initialized (pg y).1.cls) && (tm_inB lw_tbl j3 (.methodLink own idx (pg y).1) && (decide ((pg y).1.cls ≠ "java/lang/invoke/MethodHandle") && (decide ((pg y).1.cls ≠ "java/lang/invoke/VarHandle") && (decide ((parseMethodDescriptor (pg y).1.desc).map (fun d => d.parameters.length) = some 0) && (decide ((pg y).2.2.2.2.2.cells = mc) && (decide ((pg y).2.2.2.2.2.slots = ms) && decide (1 ≤ (pg y).2.2.1))))))))))))) = true)
    (hfr : (pg y).2.2.2.2.2.frames + 1 ≤ R.frames) (hlo : 8 + ((pg y).2.2.1 + 11) + (pg y).2.2.2.2.2.locals ≤ R.locals)
    (hK : va_K D pg_cl (tm_tys tA) s) (hP : va_P D pg_cl (tm_cW tA ad h) H) (hD : va_D A (tm_cW tA ad h)) (hS : va_S A s.heap H locs) (hA : ∀ q, s.heap.size ≤ q → A q) (hok : tm_okH h)
    (hrun : rv y 0 [(0, rR a)] [] h mc ms (none, h')) (ha : a < h.length) {rest : List Value} (hrest : (rest.map fun v => v.category).sum ≤ 8) (hl : ls.size = nL)
    (hcs : cells + mc ≤ R.cells ∧ slots + ms ≤ R.slots)
    (hd : decode cc pc = .ok (.invokespecial idx, 3))
    (kk : ∀ (ad' : Nat → Nat) (H1 : Heap) (locs1 : List Loc), (∀ j, j < h.length → ad' j = ad j) → va_P D pg_cl (tm_cW tA ad' h') H1 → va_D A (tm_cW tA ad' h') → va_S A s.heap H1 locs1 → W p l e R s m args below meth c H1 locs1 (cells + mc) (slots + ms) Q (F0 m (pc + 3) ls rest)) :
    W p l e R s m args below meth c H locs cells slots Q (F0 m pc ls (.ref (ad a) :: rest)) := by
  simp only [Bool.and_eq_true, decide_eq_true_eq] at hck
  obtain ⟨hy, hpl, hnm, hrn, hins, hini, hlink, hn1, hn2, hpar, hz1, hz2, hL1⟩ := hck
  have hB : ∀ {j : Nat} {w : Cond}, tm_inB lw_tbl j w = true → w.before args s = true := fun hw => hts _ (List.mem_cons_of_mem _ (tm_inB_mem hw))
  obtain ⟨n, hr⟩ := hrun
  have has' : ∀ w ∈ ([rR a] : List tm_V), tm_ok h.length w := fun w hw => by rw [List.mem_singleton.mp hw]; exact ha
  have hr2 : tm_run pg_tb (tm_mi pg) (tm_df pg_cl pg_ty) n y 0 (tm_args 0 [rR a]) [] h (tm_mi pg y).2.2.1 (tm_mi pg y).2.2.2 = some (none, h') := by
    have e1 : (tm_mi pg y).2.2.1 = mc := hz1
    have e2 : (tm_mi pg y).2.2.2 = ms := hz2
    rw [e1, e2]; exact hr
  have hM := tm_met (pg_sound n) hy hpl (pg_mo y hy) hr2 (show 1 + 0 ≤ _ from hL1) has' hok l D tA ad H.size
  have hpre : ∀ U : State, U.heap = H → s.WarmedH U.vm → tm_Pc D pg_cl tA (tm_WN lw_tbl) ad h H.size [rR a] (([rR a].map (tm_cv ad)).toArray) U := fun U hU hW => ⟨rfl, by rw [hU], by rw [hU]; exact hP, va_K.moved hW.alike hK, hD.weaken (fun _ _ _ _ => trivial), fun w hw => tm_nest_warm (List.all_eq_true.mp (tm_WN_nest lw_tbl) w hw) hW (hnw w hw)⟩
  have hwsn : tm_ws pg pg_n (tm_WB lw_tbl) y = Cond.code (pg y).1 (pg y).2.1 (pg y).2.2.1 none :: ((List.range pg_n).map (tm_cd1 pg) ++ tm_WB lw_tbl) := by unfold tm_ws tm_cd1; rw [hrn]
  refine tm_after (va_runI (rest := rest) ⟨hx, hb, hml, hown, hts⟩ hM ⟨callB_of 0 hts (xg_good hy) hwsn rfl rfl (hB hini) (hB hlink) ⟨hn1, hn2, hpar⟩ ⟨hfr, hlo⟩, hnm, hB hins⟩ ⟨tm_blind (tm_WN_nest lw_tbl), hpre⟩ rfl rfl hl rfl (lv_room hrest) hd (by rw [hz1, hz2]; exact hcs)) hS hD hA ?_
  intro ad' H1 locs1 d1 d2 d3 d4
  have := kk ad' H1 locs1 d1 d2 d3 d4
  rw [hz1, hz2]
  exact this
end LS
