/-! Contracts of NulledForest.length and NulledForest.made -/
section XE
variable {p : Program} {l : Launch} {e : Env} {R : Room} {s : State} {m : MethodId} {args : Array Value} {below : List Frame} {meth : Method} {c : Code} {H : Heap} {locs : List Loc} {cells slots : Nat} {cc : ByteArray} {pc : Nat} {ls : Array Slot} {D : va_G} {A : Nat → Prop} {tA : Nat → ClassId} {ad : Nat → Nat} {nL : Nat} {own : String} {c0 : Cond} {M M1 : ev_M}
theorem xr_W (hx : p.tables.exec = Jvm.exec) (hb : c.code = cc) (hml : c.maxLocals = nL) (hown : s.vm.findClass own = some m.cls) (hts : ∀ w ∈ c0 :: tm_WB lw_tbl, w.before args s = true) (hnw : ∀ w ∈ tm_WN lw_tbl, va_Nw w s)
    {y : MethodName} {yb : ByteArray} {yL : Nat} {yr : Option FieldType} {rm : Room} {mc ms r q1 q2 q3 idx j1 j2 j3 j4 j5 na : Nat} {as : List tm_V} {v : Option tm_V} (hM : xt_Met l y (Cond.code y yb yL yr :: tm_WB lw_tbl) rm (xPc D tA ad M H.size q1 q2 q3 (.inr (.inr (some 0)) :: as)) (xQc D tA ad M H.size r v M1) mc ms (va_A (tm_cW tA ad (hp M)) H.size))
    (hck : (decide (y.cls = "NulledForest") && (tm_inB lw_tbl j1 (.instanceMethod y) && (tm_inB lw_tbl j2 (.selects "NulledForest" y y) && (tm_inB lw_tbl j3 (.initialized "NulledForest") && (tm_inB lw_tbl j4 (.methodLink own idx y) && (decide ((parseMethodDescriptor y.desc).map (fun d => d.parameters.length) = some na))))))) = true) (hna : as.length = na) (hcw : lw_tbl[j5]? = some (Cond.code y yb yL yr))
    (hrc : rm.cells = mc) (hrs : rm.slots = ms) (hfr : rm.frames + 1 ≤ R.frames) (hlo : 8 + (yL + 11) + rm.locals ≤ R.locals)
    (hK : va_K D pg_cl (tm_tys tA) s) (hP : va_P D pg_cl (tm_cW tA ad (hp M)) H) (hD : va_D A (tm_cW tA ad (hp M))) (hS : va_S A s.heap H locs) (hA : ∀ q, s.heap.size ≤ q → A q) (hZ : xz2 A s H) (hks : xks q1 q2 q3 s)
    {rest : List Value} (hrest : (rest.map fun v => v.category).sum ≤ 8) (hl : ls.size = nL) (hcs : cells + mc ≤ R.cells ∧ slots + ms ≤ R.slots)
    (hd : decode cc pc = .ok (.invokevirtual idx, 3)) (htab : c.exceptionTable.toList = []) (hlocks : meth.locks = false) {Qc : Array Value → State → Outcome → State → Prop} {MC MS : Nat} (hMC : cells + mc ≤ MC) (hMS : slots + ms ≤ MS)
    (kR : r = 0 → ∀ (H1 : Heap) (locs1 : List Loc), va_P D pg_cl (tm_cW tA ad (hp M1)) H1 → va_D A (tm_cW tA ad (hp M1)) → va_S A s.heap H1 locs1 → W p l e R s m args below meth c H1 locs1 (cells + mc) (slots + ms) (xt_MQ below Qc args s MC MS A) (F0 m (pc + 3) ls ((v.map (tm_cv ad)).toList ++ rest)))
    (kT : r ≠ 0 → ∀ (a : Nat) (t : State), s.heap.size ≤ a → va_P D pg_cl (tm_cW tA ad (hp M1)) t.heap → va_D A (tm_cW tA ad (hp M1)) → va_F A s t → xw_ex (xnm r) a t → Qc args s (.threw a) t) :
    W p l e R s m args below meth c H locs cells slots (xt_MQ below Qc args s MC MS A) (F0 m pc ls ((as.map (tm_cv ad)).reverse ++ .ref (ad 0) :: rest)) := by
  intro T hT X
  obtain ⟨B, locs1, XB, b1, b2, b3, b4⟩ := xr_V hx hb hml hown hts hnw hM hck hna hcw hrc hrs hfr hlo hK hP hD hS hA hZ hks hrest hl hcs hd hT X
  rcases b4 with ⟨hr, st⟩ | ⟨hr, a, ha, hex, st⟩
  · obtain ⟨t, t1, t2⟩ := kR hr B.heap locs1 b1 b2 b3 B rfl XB
    exact ⟨t, st t t1, t2⟩
  · obtain ⟨w1, w2, w3, w4, w5⟩ := XB.leaveThrown a (g := F0 m pc ls rest) rfl rfl rfl (fun x hx => by rw [htab] at hx; cases hx) hlocks
    refine ⟨_, st _ w1, .threw a, w2, w3, kT hr a _ (Nat.le_trans hS.1 ha) b1 b2 ⟨b3.1, fun q h1 h2 => b3.2.1 q h1 h2⟩ hex, locs1, ⟨w4, ?_⟩, b3.2.2⟩
    exact w5.mono hMC hMS
end XE
def rmLN : Room := { frames := 9, cells := 1, slots := 6, locals := 300 }
def rmMD : Room := { frames := 9, cells := 2, slots := 12, locals := 300 }
def mLN (k : Int) (M : ev_M) (Q : Nat → Int → ev_M → Prop) : Prop := m80 M (fun M1 => mRT k M1 (fun r M2 => if r = 0 then m61 k M2 (fun w M3 => Q 0 w M3) else Q r 0 M2))
def mMD (k i : Int) (M : ev_M) (Q : Nat → Int → ev_M → Prop) : Prop := m80 M (fun M1 => mRT k M1 (fun r M2 => if r = 0 then (if i < 0 then Q 3 0 M2 else m60 k i M2 (fun w M3 => if w = -1 then Q 3 0 M3 else Q 0 w M3)) else Q r 0 M2))
theorem okM_run {n y : Nat} {lo : tm_L} {M M1 : ev_M} {v : Option tm_V} (h : ev_r n y 0 lo [] (hp M) = some (v, hp M1)) (hl : ∀ q ∈ lo, tm_ok 47 q.2) (hok : okM M) : okM M1 ∧ ∀ w ∈ v.toList, tm_ok 47 w :=
  (tm_run_ok _ _ _ _ _ _ _ _ _ _ h hl (fun w hw => by cases hw) hok).2
set_option maxHeartbeats 4000000 in
set_option maxRecDepth 100000 in
theorem met_LN {l : Launch} (hl : l.flags = flags0) {k : Int} {M : ev_M} {Q : Nat → Int → ev_M → Prop} (h : mLN k M Q) (hok : okM M) (hk : tm_iI k) : ∃ (r : Nat) (w : Int) (M3 : ev_M), Q r w M3 ∧ okM M3 ∧ tm_iI w ∧ ∀ (D : va_G) (tA : Nat → ClassId) (ad : Nat → Nat) (sz q1 q2 q3 : Nat), xt_Met l yLN (tm_cd1 pgx 1 :: tm_WB lw_tbl) rmLN (xPc D tA ad M sz q1 q2 q3 [.inr (.inr (some 0)), .inl k]) (xQc D tA ad M sz r (some (.inl w)) M3) 1 6 (va_A (tm_cW tA ad (hp M)) sz) := by
  obtain ⟨n1, v1, M1, hr1, rfl, h⟩ := h
  have hok1 : okM M1 := (okM_run hr1 (by intro q hq; rw [List.mem_singleton.mp hq]; show 0 < 47; decide) hok).1
  obtain ⟨r, M2, h, hok2, hRT⟩ := met_RT hl h hok1 hk
  have key : ∃ (w : Int) (M3 : ev_M), Q r w M3 ∧ okM M3 ∧ tm_iI w ∧ ((r = 0 ∧ ∃ n3, ev_r n3 61 0 [(0, .inr (.inr (some 25))), (1, .inl k)] [] (hp M2) = some (some (.inl w), hp M3)) ∨ (r ≠ 0 ∧ M3 = M2)) := by
    by_cases h0 : r = 0
    · rw [if_pos h0] at h
      obtain ⟨n3, v3, M3, hr3, w, rfl, hq⟩ := h
      obtain ⟨o3, o4⟩ := okM_run hr3 (by
        intro q hq
        simp only [List.mem_cons, List.not_mem_nil, or_false] at hq
        rcases hq with rfl | rfl
        · show 25 < 47; decide
        · exact hk) hok2
      exact ⟨w, M3, by rw [h0]; exact hq, o3, o4 (.inl w) List.mem_cons_self, Or.inl ⟨h0, n3, hr3⟩⟩
    · rw [if_neg h0] at h
      exact ⟨0, M2, h, hok2, ⟨by omega, by omega⟩, Or.inr ⟨h0, rfl⟩⟩
  obtain ⟨w, M3, hq, hok3, hw, hcase⟩ := key
  refine ⟨r, w, M3, hq, hok3, hw, fun D tA ad sz q1 q2 q3 => ?_⟩
  refine xt_Met.ofW (cc := prog_1_method_16_code) (maxL := 2) (ret := some .int) (by decide) rfl ?_
  intro p e s m args below meth c s₁ B hml htab hv
  obtain ⟨rfl, hsz, hP, hK, hD0, hN, hZ, hks⟩ := hv
  subst hsz
  have hx := B.exec
  have hb := B.bytes
  have hts := atoms_spec (ws := tm_cd1 pgx 1 :: tm_WB lw_tbl) B.pre
  have hts2 : ∀ w ∈ tm_ws pgx 0 (tm_WB lw_tbl) 1, w.before (([.inr (.inr (some 0)), .inl k] : List tm_V).map (tm_cv ad)).toArray s = true := hts
  have hown : s.vm.findClass "NulledForest" = some m.cls := findClass_of_methodNamed B.named
  have hlocks := B.notSynchronized
  have hin : meth.name = "length" := (name_of_methodNamed B.named B.method).1
  have hD := hD0.self (sz := s.heap.size)
  generalize hAe : va_A (tm_cW tA ad (hp M)) s.heap.size = A at hD hZ ⊢
  have hA : ∀ q : Nat, s.heap.size ≤ q → A q := fun q h => by rw [← hAe]; exact Or.inr h
  have hS : va_S A s.heap s.heap [] := va_S.rf
  have zz : ∀ (H2 : Heap) (locs2 : List Loc), va_S A s.heap H2 locs2 → xz2 A s H2 := fun H2 locs2 g3 => ⟨hZ.1.kept (fun a h1 h2 => g3.2.1 a h1 h2), hZ.2.kept (fun a h1 h2 => g3.2.1 a h1 h2)⟩
  have hl0 := lv_entry (([.inr (.inr (some 0)), .inl k] : List tm_V).map (tm_cv ad)) (n := 2) (by rw [tm_sl_len]; exact Nat.le_of_ble_eq_true rfl)
  rw [lg_entry_eq]
  rw [tm_args_cv] at hl0
  generalize (lg_sl (([.inr (.inr (some 0)), .inl k] : List tm_V).map (tm_cv ad)) ++ List.replicate (2 - (lg_sl (([.inr (.inr (some 0)), .inl k] : List tm_V).map (tm_cv ad))).length) Slot.unset).toArray = ls at hl0 ⊢
  have hl1 : lv_has ls 2 (tm_cL ad [(0, .inr (.inr (some 0))), (1, .inl k)]) := hl0
  show W p l e rmLN s m _ below meth c s.heap [] 0 0 _ (F0 m 0 ls (([] : List tm_V).map (tm_cv ad)))
  refine tm_lo_W (pc := 0) (i := .aload_n 0) (lo' := [(0, .inr (.inr (some 0))), (1, .inl k)]) (st' := [.inr (.inr (some 0))]) hx hb (by decide +kernel) rfl hl1 (fun ls hl1 => ?_)
  refine xg_V (c0 := tm_cd1 pgx 1) (n := n1) (y := 80) (a := 0) (ci := 7) (idx := 138) (j1 := 530) (j2 := 18) (j3 := 72) (j4 := 528) (as := []) (rest := []) (q := ("NulledForest", pgF7, 10)) (v := none) (M1 := M1) hx hb hml hown hts hN (na := 0) (by decide +kernel) rfl (by decide +kernel) (by decide +kernel) hK hP hD hS hA hok rfl rfl hr1 (Nat.le_of_ble_eq_true rfl) (fun w hw => by cases hw) (Nat.le_of_ble_eq_true rfl) hl1.1 ⟨Nat.zero_le _, Nat.zero_le _⟩ (by decide +kernel) (fun H1 locs1 hP hD hS _ _ => ?_)
  refine tm_lo_W (pc := 4) (i := .aload_n 0) (st := []) (lo' := [(0, .inr (.inr (some 0))), (1, .inl k)]) (st' := [.inr (.inr (some 0))]) hx hb (by decide +kernel) rfl hl1 (fun ls hl1 => ?_)
  refine tm_lo_W (pc := 5) (i := .iload_n 1) (lo' := [(0, .inr (.inr (some 0))), (1, .inl k)]) (st' := [.inl k, .inr (.inr (some 0))]) hx hb (by decide +kernel) rfl hl1 (fun ls hl1 => ?_)
  refine xr_W (c0 := tm_cd1 pgx 1) (y := yRT) (yb := prog_1_method_18_code) (yL := 2) (yr := none) (rm := rmRT) (mc := 1) (ms := 6) (r := r) (idx := 156) (j1 := 633) (j2 := 27) (j3 := 72) (j4 := 631) (j5 := 634) (as := [.inl k]) (v := none) (M1 := M2) (rest := []) hx hb hml hown hts hN (na := 1) (hRT D tA ad H1.size q1 q2 q3) (by decide +kernel) rfl rfl rfl rfl (by decide) (by decide) hK hP hD hS hA (zz _ _ hS) hks (by decide) hl1.1 ⟨by decide, by decide⟩ (by decide +kernel) htab hlocks (Nat.le_refl _) (Nat.le_refl _) (fun hr0 H1 locs1 hP hD hS => ?_) (fun hr0 a t t1 t2 t3 t4 t5 => ?_)
  · rcases hcase with ⟨-, n3, hr3⟩ | ⟨hne, -⟩
    · refine tm_lo_W (pc := 9) (i := .aload_n 0) (st := []) (lo' := [(0, .inr (.inr (some 0))), (1, .inl k)]) (st' := [.inr (.inr (some 0))]) hx hb (by decide +kernel) rfl hl1 (fun ls hl1 => ?_)
      refine tm_hp_W (pg := pgx) (k := 1) (nM := 0) (T := lw_tbl) (host := "NulledForest") (ty := pg_ty) (pc := 10) (i := .getfield 64) (xs := [7, 6, 342]) (z := 0) (st' := [.inr (.inr (some 25))]) (h' := hp M2) hx hb hown hts2 hN hin pg_ckT hK hP hD hS (by decide +kernel) (by decide +kernel) rfl (fun v hv => by rw [List.mem_singleton.mp hv]; show 0 < 47; decide) hok2 (fun H1 locs1 hP hD hS => ?_)
      refine tm_lo_W (pc := 13) (i := .iload_n 1) (lo' := [(0, .inr (.inr (some 0))), (1, .inl k)]) (st' := [.inl k, .inr (.inr (some 25))]) hx hb (by decide +kernel) rfl hl1 (fun ls hl1 => ?_)
      refine xg_V (c0 := tm_cd1 pgx 1) (n := n3) (y := 61) (a := 25) (ci := 6) (idx := 160) (j1 := 720) (j2 := 721) (j3 := 79) (j4 := 719) (as := [.inl k]) (rest := []) (q := ("NulledForest$Walk", pgF6, 9)) (v := some (.inl w)) (M1 := M3) hx hb hml hown hts hN (na := 1) (by decide +kernel) rfl (by decide +kernel) (by decide +kernel) hK hP hD hS hA hok2 rfl rfl hr3 (Nat.le_of_ble_eq_true rfl) (fun w hw => by rw [List.mem_singleton.mp hw]; exact hk) (Nat.le_of_ble_eq_true rfl) hl1.1 ⟨by decide, by decide⟩ (by decide +kernel) (fun H1 locs1 hP hD hS _ _ => ?_)
      refine W.post (W.iret (v := Int32.ofInt w) (Qc := xQc D tA ad M s.heap.size r (some (.inl w)) M3) (free := A) hx hb B.returns (fun t ht hW => ?_) hS.2.2 (by decide +kernel) hlocks) (fun t h => xt_MQ.of h)
      exact ⟨by rw [hAe]; exact hS.F ht, by rw [ht]; exact hP, by rw [hAe]; exact hD, Or.inl ⟨hr0, rfl⟩⟩
    · exact absurd hr0 hne
  · rcases hcase with ⟨h0, -⟩ | ⟨-, rfl⟩
    · exact absurd h0 hr0
    · exact ⟨by rw [hAe]; exact t4, t2, by rw [hAe]; exact t3, Or.inr ⟨hr0, a, rfl, t1, t5⟩⟩
