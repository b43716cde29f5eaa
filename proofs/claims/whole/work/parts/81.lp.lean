/-! The law's operations: a call of the class, the same of the model, the answers compared -/
def ckd (pc na idx idx' : Nat) (off : Int) : Bool := decide (decode code pc = .ok (.aload_n 1, 1)) && ((List.range na).all (fun j => ld5 (pc + 1 + 6 * j) (0 + j + 1)) && (decide (decode code (pc + 1 + 6 * na) = .ok (.invokevirtual idx, 3)) && (decide (decode code (pc + 1 + 6 * na + 3) = .ok (.aload_n 2, 1)) && ((List.range na).all (fun j => ld5 (pc + 1 + 6 * na + 3 + 1 + 6 * j) (0 + j + 1)) && (decide (decode code (pc + 1 + 6 * na + 3 + 1 + 6 * na) = .ok (.invokevirtual idx', 3)) && (decide (decode code (pc + 1 + 6 * na + 3 + 1 + 6 * na + 3) = .ok (.if_icmp .eq off, 3)) && (decide (0 ≤ ((pc + 1 + 6 * na + 3 + 1 + 6 * na + 3 : Nat) : Int) + off) && decide (tm_go (pc + 1 + 6 * na + 3 + 1 + 6 * na + 3) off = 654))))))))
def ckr (y na : Nat) : Bool := decide ((pg y).2.2.2.2.2.frames + 1 ≤ room_1.frames) && (decide (8 + ((pg y).2.2.1 + 11) + (pg y).2.2.2.2.2.locals ≤ room_1.locals) && decide (na + 1 ≤ (pg y).2.2.1))
theorem sas_len (xs : Nat → Int32) (i na : Nat) : (sas xs i na).length = na := by simp [sas]
theorem sas_ok (xs : Nat → Int32) (i na : Nat) : ∀ w ∈ sas xs i na, tm_ok 47 w := by
  intro w hw
  obtain ⟨j, -, rfl⟩ := List.mem_map.mp hw
  exact sv_ok xs _
theorem sas_sum (xs : Nat → Int32) (i na a : Nat) : tm_sum (rR a :: sas xs i na) = na + 1 := by
  have h : ∀ (L : List tm_V), (∀ w ∈ L, tm_cat w = 1) → tm_sum L = L.length := by
    intro L
    induction L with
    | nil => intro _; rfl
    | cons w r ih =>
      intro h
      have := ih (fun w hw => h w (List.mem_cons_of_mem _ hw))
      unfold tm_sum at this ⊢
      rw [List.map_cons, List.sum_cons, this, h w List.mem_cons_self, List.length_cons]
      omega
  rw [h _ (fun w hw => by
    rcases List.mem_cons.mp hw with rfl | hw
    · rfl
    · obtain ⟨j, -, rfl⟩ := List.mem_map.mp hw
      rfl), List.length_cons, sas_len]
section LP
variable {p : Program} {l : Launch} {e : Env} {s : State} {m : MethodId} {below : List Frame} {meth : Method} {c : Code} {b L : Nat} {xs : Nat → Int32} {D : va_G} {tA : Nat → ClassId} {ad : Nat → Nat} {q1 q2 q3 : Nat} {H : Heap} {locs : List Loc} {cells slots : Nat} {Q : State → Prop} {ls : Array Slot}
theorem law_op (K : lw_K p l s m meth c b L xs D tA ad q1 q2 q3) {na pc y y' idx idx' j1 j2 j4 k1 k2 k4 i : Nat} {off : Int} {M : ev_M} {Rr : ev_M → Prop}
    (hst : ev y 0 (tm_args 0 (rR 0 :: sas xs i na)) [] M (fun v M1 => ∃ w : Int, v = some (.inl w) ∧ ev y' 0 (tm_args 0 (rR 30 :: sas xs i na)) [] M1 (fun v' M2 => ∃ w' : Int, v' = some (.inl w') ∧ (w = w' ∧ Rr M2))))
    (hok : okM M) (hi : i + 6 ≤ L) (hna : na ≤ 5) (hP : va_P D pg_cl (tm_cW tA ad (hp M)) H) (hD : va_D (fun q => s.heap.size ≤ q) (tm_cW tA ad (hp M))) (hS : va_S (fun q => s.heap.size ≤ q) s.heap H locs) (hlo : lv_has ls 7 (tm_cL ad (lwl i)))
    (hdec : ckd pc na idx idx' off = true) (hc1 : (decide (y < pg_n) && (plainName (pg y).1.cls && (decide ((pg y).1.cls = "NulledForest") && (tm_inB lw_tbl j1 (.instanceMethod (pg y).1) && (tm_inB lw_tbl j2 (.selects "NulledForest" (pg y).1 (pg y).1) && (tm_inB lw_tbl 72 (.initialized "NulledForest") && (tm_inB lw_tbl j4 (.methodLink "NulledForestLaw" idx (pg y).1) && (decide ((pg y).1.cls ≠ "java/lang/invoke/MethodHandle") && (decide ((pg y).1.cls ≠ "java/lang/invoke/VarHandle") && (decide ((parseMethodDescriptor (pg y).1.desc).map (fun d => d.parameters.length) = some na) && (decide ((pg y).2.2.2.2.2.cells = 0) && decide ((pg y).2.2.2.2.2.slots = 0)))))))))))) = true) (hc2 : (decide (y' < pg_n) && (plainName (pg y').1.cls && (decide ((pg y').1.cls = "NulledForestModel") && (tm_inB lw_tbl k1 (.instanceMethod (pg y').1) && (tm_inB lw_tbl k2 (.selects "NulledForestModel" (pg y').1 (pg y').1) && (tm_inB lw_tbl 81 (.initialized "NulledForestModel") && (tm_inB lw_tbl k4 (.methodLink "NulledForestLaw" idx' (pg y').1) && (decide ((pg y').1.cls ≠ "java/lang/invoke/MethodHandle") && (decide ((pg y').1.cls ≠ "java/lang/invoke/VarHandle") && (decide ((parseMethodDescriptor (pg y').1.desc).map (fun d => d.parameters.length) = some na) && (decide ((pg y').2.2.2.2.2.cells = 0) && decide ((pg y').2.2.2.2.2.slots = 0)))))))))))) = true) (hr1 : ckr y na = true) (hr2 : ckr y' na = true) (hcs : cells ≤ room_1.cells ∧ slots ≤ room_1.slots)
    (kk : ∀ (M2 : ev_M) (H1 : Heap) (locs1 : List Loc) (ls : Array Slot), Rr M2 → okM M2 → va_P D pg_cl (tm_cW tA ad (hp M2)) H1 → va_D (fun q => s.heap.size ≤ q) (tm_cW tA ad (hp M2)) → va_S (fun q => s.heap.size ≤ q) s.heap H1 locs1 → lv_has ls 7 (tm_cL ad (lwl i)) → W p l e room_1 s m #[Value.ref b] below meth c H1 locs1 cells slots Q (F0 m 654 ls [])) :
    W p l e room_1 s m #[Value.ref b] below meth c H locs cells slots Q (F0 m pc ls []) := by
  simp only [ckd, Bool.and_eq_true, decide_eq_true_eq] at hdec
  obtain ⟨d0, d1, d2, d3, d4, d5, d6, d7, d8⟩ := hdec
  simp only [ckr, Bool.and_eq_true, decide_eq_true_eq] at hr1 hr2
  obtain ⟨n, v, M1, hrun, w, rfl, n', v', M2, hrun', w', rfl, rfl, hR⟩ := hst
  show W p l e room_1 s m #[Value.ref b] below meth c H locs cells slots Q (F0 m pc ls (([] : List tm_V).map (tm_cv ad)))
  refine tm_lo_W (i := .aload_n 1) (lo' := lwl i) (st' := [rR 0]) K.hx K.hb d0 rfl hlo (fun ls hlo => ?_)
  refine xs_lds K hS (lo := lwl i) (i := i) (fun _ => rfl) (fun _ => rfl) na 0 (pc + 1) ls [rR 0] (by omega) hlo d1 (fun ls hlo => ?_)
  refine xg_V (c0 := tm_cd1 pgl 0) (n := n) (y := y) (a := 0) (ci := 7) (idx := idx) (j1 := j1) (j2 := j2) (j3 := 72) (j4 := j4) (na := na) (as := sas xs i na) (rest := []) (q := ("NulledForest", pgF7, 10)) (v := some (.inl w)) (M1 := M1) K.hx K.hb K.hml K.hown K.hts K.hnw hc1 (sas_len xs i na) hr1.1 hr1.2.1 K.hK hP hD hS (fun q h => h) hok rfl rfl hrun (by rw [sas_sum]; exact hr1.2.2) (sas_ok xs i na) (by decide) hlo.1 hcs d2 (fun H1 locs1 hP hD hS hok1 hw => ?_)
  refine tm_lo_W (i := .aload_n 2) (st := [.inl w]) (lo' := lwl i) (st' := [rR 30, .inl w]) K.hx K.hb d3 rfl hlo (fun ls hlo => ?_)
  refine xs_lds K hS (lo := lwl i) (i := i) (fun _ => rfl) (fun _ => rfl) na 0 (pc + 1 + 6 * na + 3 + 1) ls [rR 30, .inl w] (by omega) hlo d4 (fun ls hlo => ?_)
  refine xg_V (c0 := tm_cd1 pgl 0) (n := n') (y := y') (a := 30) (ci := 8) (idx := idx') (j1 := k1) (j2 := k2) (j3 := 81) (j4 := k4) (na := na) (as := sas xs i na) (rest := [.inl w]) (q := ("NulledForestModel", pgF8, 31)) (v := some (.inl w)) (M1 := M2) K.hx K.hb K.hml K.hown K.hts K.hnw hc2 (sas_len xs i na) hr2.1 hr2.2.1 K.hK hP hD hS (fun q h => h) hok1 rfl rfl hrun' (by rw [sas_sum]; exact hr2.2.2) (sas_ok xs i na) (show 1 + 0 ≤ 8 by decide) hlo.1 hcs d5 (fun H1 locs1 hP hD hS hok2 hw2 => ?_)
  refine tm_br_W (i := .if_icmp .eq off) (pc' := 654) (st := [.inl w, .inl w]) (st' := []) (n := 47) K.hx K.hb d6 (by simp [tm_br, tm_cd]; exact ⟨d7, d8⟩) (fun v hv => ?_) ?_
  · simp only [List.mem_cons, List.not_mem_nil, or_false, or_self] at hv
    rw [hv]
    exact hw (.inl w) List.mem_cons_self
  · exact kk M2 H1 locs1 ls hR hok2 hP hD hS hlo
end LP
