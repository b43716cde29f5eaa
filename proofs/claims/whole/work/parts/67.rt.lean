/-! The contract of NulledForest.requireTree -/
set_option maxHeartbeats 4000000 in
set_option maxRecDepth 100000 in
theorem met_RT {l : Launch} (hl : l.flags = flags0) {k : Int} {M : ev_M} {Q : Nat → ev_M → Prop} (h : mRT k M Q) (hok : okM M) (hk : tm_iI k) : ∃ (r : Nat) (M1 : ev_M), Q r M1 ∧ okM M1 ∧ ∀ (D : va_G) (tA : Nat → ClassId) (ad : Nat → Nat) (sz q1 q2 q3 : Nat), xt_Met l yRT (tm_cd1 pgx 0 :: tm_WB lw_tbl) rmRT (xPc D tA ad M sz q1 q2 q3 [.inr (.inr (some 0)), .inl k]) (xQc D tA ad M sz r none M1) 1 6 (va_A (tm_cW tA ad (hp M)) sz) := by
  -- what it does
  have hE : tm_iI (sT_endless M) := by
    have := hok _ (List.mem_of_getElem? (show (hp M)[20]? = some (.inr (5, _)) from rfl)) (.inl (M.1 7)) List.mem_cons_self
    exact this
  have key : ∃ (r : Nat) (M1 : ev_M), Q r M1 ∧ okM M1 ∧ ((r = 1 ∧ ¬ sT_endless M = 0 ∧ M1 = M) ∨ (r = 2 ∧ sT_endless M = 0 ∧ k < 0 ∧ M1 = M) ∨ (sT_endless M = 0 ∧ ¬ k < 0 ∧ ∃ (n : Nat) (w : Int), ev_r n 45 0 [(0, .inr (.inr (some 20)))] [] (hp M) = some (some (.inl w), hp M1) ∧ ((r = 0 ∧ k < w) ∨ (r = 2 ∧ ¬ k < w)))) := by
    unfold mRT at h
    by_cases h0 : sT_endless M = 0
    · rw [if_pos h0] at h
      by_cases h1 : k < 0
      · rw [if_pos h1] at h
        exact ⟨2, M, h, hok, Or.inr (Or.inl ⟨rfl, h0, h1, rfl⟩)⟩
      · rw [if_neg h1] at h
        obtain ⟨n, v, M1, hr, w, rfl, hq⟩ := h
        have hM1 : okM M1 := (tm_run_ok _ _ _ _ _ _ _ _ _ _ hr (by
          intro q hq
          rcases List.mem_cons.mp hq with rfl | hq
          · show 20 < 47; decide
          · cases hq) (fun w hw => by cases hw) hok).2.1
        by_cases h2 : k < w
        · rw [if_pos h2] at hq
          exact ⟨0, M1, hq, hM1, Or.inr (Or.inr ⟨h0, h1, n, w, hr, Or.inl ⟨rfl, h2⟩⟩)⟩
        · rw [if_neg h2] at hq
          exact ⟨2, M1, hq, hM1, Or.inr (Or.inr ⟨h0, h1, n, w, hr, Or.inr ⟨rfl, h2⟩⟩)⟩
    · rw [if_neg h0] at h
      exact ⟨1, M, h, hok, Or.inl ⟨rfl, h0, rfl⟩⟩
  obtain ⟨r, M1, hq, hM1, hcase⟩ := key
  refine ⟨r, M1, hq, hM1, fun D tA ad sz q1 q2 q3 => ?_⟩
  refine xt_Met.ofW (cc := prog_1_method_18_code) (maxL := 2) (ret := none) (by decide) rfl ?_
  intro p e s m args below meth c s₁ B hml htab hv
  obtain ⟨rfl, hsz, hP, hK, hD0, hN, hZ, hks⟩ := hv
  subst hsz
  have hx := B.exec
  have hb := B.bytes
  have hts := atoms_spec (ws := tm_cd1 pgx 0 :: tm_WB lw_tbl) B.pre
  have hts2 : ∀ w ∈ tm_ws pgx 0 (tm_WB lw_tbl) 0, w.before (([.inr (.inr (some 0)), .inl k] : List tm_V).map (tm_cv ad)).toArray s = true := hts
  have hB : ∀ {j : Nat} {w : Cond}, tm_inB lw_tbl j w = true → w.before (([.inr (.inr (some 0)), .inl k] : List tm_V).map (tm_cv ad)).toArray s = true := fun hw => hts _ (List.mem_cons_of_mem _ (tm_inB_mem hw))
  have hown : s.vm.findClass "NulledForest" = some m.cls := findClass_of_methodNamed B.named
  have hlocks := B.notSynchronized
  have hin : meth.name = "requireTree" := (name_of_methodNamed B.named B.method).1
  have hD := hD0.self (sz := s.heap.size)
  generalize hAe : va_A (tm_cW tA ad (hp M)) s.heap.size = A at hD hZ ⊢
  have hA : ∀ q : Nat, s.heap.size ≤ q → A q := fun q h => by rw [← hAe]; exact Or.inr h
  have hS : va_S A s.heap s.heap [] := va_S.rf
  have hst0 : ∀ v ∈ ([.inr (.inr (some 0)), .inl k] : List tm_V), tm_ok 47 v := by
    intro v hv
    simp only [List.mem_cons, List.not_mem_nil, or_false] at hv
    rcases hv with rfl | rfl
    · show 0 < 47; decide
    · exact hk
  have hl0 := lv_entry (([.inr (.inr (some 0)), .inl k] : List tm_V).map (tm_cv ad)) (n := 2) (by rw [tm_sl_len]; exact Nat.le_of_ble_eq_true rfl)
  rw [lg_entry_eq]
  rw [tm_args_cv] at hl0
  generalize (lg_sl (([.inr (.inr (some 0)), .inl k] : List tm_V).map (tm_cv ad)) ++ List.replicate (2 - (lg_sl (([.inr (.inr (some 0)), .inl k] : List tm_V).map (tm_cv ad))).length) Slot.unset).toArray = ls at hl0 ⊢
  have hl1 : lv_has ls 2 (tm_cL ad [(0, .inr (.inr (some 0))), (1, .inl k)]) := hl0
  have ok1 : ∀ v ∈ ([.inr (.inr (some 0))] : List tm_V), tm_ok (hp M).length v := fun v hv => by rw [List.mem_singleton.mp hv]; show 0 < 47; decide
  have ok2 : ∀ v ∈ ([.inr (.inr (some 20))] : List tm_V), tm_ok (hp M).length v := fun v hv => by rw [List.mem_singleton.mp hv]; show 20 < 47; decide
  show W p l e rmRT s m _ below meth c s.heap [] 0 0 _ (F0 m 0 ls (([] : List tm_V).map (tm_cv ad)))
  refine tm_lo_W (pc := 0) (i := .aload_n 0) (lo' := [(0, .inr (.inr (some 0))), (1, .inl k)]) (st' := [.inr (.inr (some 0))]) hx hb (by decide +kernel) rfl hl1 (fun ls hl1 => ?_)
  refine tm_hp_W (pg := pgx) (k := 0) (nM := 0) (T := lw_tbl) (host := "NulledForest") (ty := pg_ty) (pc := 1) (i := .getfield 55) (xs := [7, 5, 341]) (z := 0) (st' := [.inr (.inr (some 20))]) (h' := hp M) hx hb hown hts2 hN hin pg_ckT hK hP hD hS (by decide +kernel) (by decide +kernel) rfl ok1 hok (fun H1 locs1 hP hD hS => ?_)
  refine tm_hp_W (pg := pgx) (k := 0) (nM := 0) (T := lw_tbl) (host := "NulledForest") (ty := pg_ty) (pc := 4) (i := .getfield 148) (xs := [5, 0, 239]) (z := 0) (st' := [.inl (M.1 7)]) (h' := hp M) hx hb hown hts2 hN hin pg_ckT hK hP hD hS (by decide +kernel) (by decide +kernel) rfl ok2 hok (fun H1 locs1 hP hD hS => ?_)
  -- the end by a throw
  have fin : ∀ (M2 : ev_M) (H2 : Heap) (locs2 : List Loc) (r2 : Nat), r2 ≠ 0 → va_P D pg_cl (tm_cW tA ad (hp M2)) H2 → va_D A (tm_cW tA ad (hp M2)) → va_S A s.heap H2 locs2 → ∀ (a : Nat) (t : State), H2.size ≤ a → H2.size ≤ t.heap.size → (∀ q : Nat, q < H2.size → t.heap[q]? = H2[q]?) → s.WarmedH t.vm → xw_ex (xnm r2) a t → xQc D tA ad M s.heap.size r2 none M2 (([.inr (.inr (some 0)), .inl k] : List tm_V).map (tm_cv ad)).toArray s (.threw a) t := by
    intro M2 H2 locs2 r2 hr2 g1 g2 g3 a t t1 t2 t3 t4 t5
    refine ⟨⟨Nat.le_trans g3.1 t2, fun q h1 h2 => ?_⟩, g1.kept (fun i q hi => t3 q.1 (g1 i q hi).lt), by rw [hAe]; exact g2, Or.inr ⟨hr2, a, rfl, Nat.le_trans g3.1 t1, t5⟩⟩
    rw [hAe] at h2
    rw [t3 q (Nat.lt_of_lt_of_le h1 g3.1)]
    exact g3.2.1 q h1 h2
  have zz : ∀ (H2 : Heap) (locs2 : List Loc), va_S A s.heap H2 locs2 → xz2 A s H2 := fun H2 locs2 g3 => ⟨hZ.1.kept (fun a h1 h2 => g3.2.1 a h1 h2), hZ.2.kept (fun a h1 h2 => g3.2.1 a h1 h2)⟩
  have nsee : ∀ (M2 : ev_M) (H2 : Heap) (locs2 : List Loc) (ls2 : Array Slot), ls2.size = 2 → M2 = M1 → r = 2 → va_P D pg_cl (tm_cW tA ad (hp M2)) H2 → va_D A (tm_cW tA ad (hp M2)) → va_S A s.heap H2 locs2 → W p l e rmRT s m (([.inr (.inr (some 0)), .inl k] : List tm_V).map (tm_cv ad)).toArray below meth c H2 locs2 0 0 (xt_MQ below (xQc D tA ad M s.heap.size r none M1) (([.inr (.inr (some 0)), .inl k] : List tm_V).map (tm_cv ad)).toArray s 1 6 A) (F0 m 35 ls2 []) := by
    intro M2 H2 locs2 ls2 hs2 e1 e2 g1 g2 g3
    subst e1
    subst e2
    exact xt_throwW (ix := 179) (il := 181) (ic := 183) (ixc := 13) (by_ := xb13) hl hx hb (by decide +kernel) (by decide +kernel) (by decide +kernel) (by decide +kernel) hown (by decide +kernel) (hB (j := 703) (by decide +kernel)) (hB (j := 704) (by decide +kernel)) (hB (j := 87) (by decide +kernel)) (xa_at xa_k2 hts hN) xa_hp2 (zz H2 locs2 g3) hks.2.1 (by decide +kernel) (by decide +kernel) (by decide +kernel) (by decide +kernel) (by decide +kernel) htab (by rw [hml]; exact hs2) hlocks (by decide) (by decide) (by decide) (by decide) g3.2.2 (fin M2 H2 locs2 2 (by decide) g1 g2 g3)
  rcases hcase with ⟨rfl, h0, rfl⟩ | ⟨hr, h0, h1, hM⟩ | ⟨h0, h1, n, w, hrun, hw⟩
  · refine tm_br_W (pc := 7) (i := .ifCond .eq 13) (pc' := 10) (st' := []) (n := 47) hx hb (by decide +kernel) (by simp [tm_br, tm_cd, h0]) (fun v hv => by rw [List.mem_singleton.mp hv]; exact hE) ?_
    exact xt_throwW (ix := 174) (il := 176) (ic := 178) (ixc := 7) (by_ := xb7) hl hx hb (by decide +kernel) (by decide +kernel) (by decide +kernel) (by decide +kernel) hown (by decide +kernel) (hB (j := 635) (by decide +kernel)) (hB (j := 636) (by decide +kernel)) (hB (j := 86) (by decide +kernel)) (xa_at xa_k1 hts hN) xa_hp1 (zz _ _ hS) hks.1 (by decide +kernel) (by decide +kernel) (by decide +kernel) (by decide +kernel) (by decide +kernel) htab (by rw [hml]; exact hl1.1) hlocks (by decide) (by decide) (by decide) (by decide) hS.2.2 (fin M1 _ _ 1 (by decide) hP hD hS)
  · refine tm_br_W (pc := 7) (i := .ifCond .eq 13) (pc' := 20) (st' := []) (n := 47) hx hb (by decide +kernel) (by simp [tm_br, tm_cd, h0, tm_go]) (fun v hv => by rw [List.mem_singleton.mp hv]; exact hE) ?_
    refine tm_lo_W (pc := 20) (i := .iload_n 1) (lo' := [(0, .inr (.inr (some 0))), (1, .inl k)]) (st' := [.inl k]) hx hb (by decide +kernel) rfl hl1 (fun ls hl1 => ?_)
    refine tm_br_W (pc := 21) (i := .ifCond .lt 14) (pc' := 35) (st' := []) (n := 47) hx hb (by decide +kernel) (by simp [tm_br, tm_cd, h1, tm_go]) (fun v hv => by rw [List.mem_singleton.mp hv]; exact hk) ?_
    exact nsee M _ _ ls hl1.1 hM.symm hr hP hD hS
  · refine tm_br_W (pc := 7) (i := .ifCond .eq 13) (pc' := 20) (st' := []) (n := 47) hx hb (by decide +kernel) (by simp [tm_br, tm_cd, h0, tm_go]) (fun v hv => by rw [List.mem_singleton.mp hv]; exact hE) ?_
    refine tm_lo_W (pc := 20) (i := .iload_n 1) (lo' := [(0, .inr (.inr (some 0))), (1, .inl k)]) (st' := [.inl k]) hx hb (by decide +kernel) rfl hl1 (fun ls hl1 => ?_)
    refine tm_br_W (pc := 21) (i := .ifCond .lt 14) (pc' := 24) (st' := []) (n := 47) hx hb (by decide +kernel) (by simp [tm_br, tm_cd, h1]) (fun v hv => by rw [List.mem_singleton.mp hv]; exact hk) ?_
    refine tm_lo_W (pc := 24) (i := .iload_n 1) (lo' := [(0, .inr (.inr (some 0))), (1, .inl k)]) (st' := [.inl k]) hx hb (by decide +kernel) rfl hl1 (fun ls hl1 => ?_)
    refine tm_lo_W (pc := 25) (i := .aload_n 0) (lo' := [(0, .inr (.inr (some 0))), (1, .inl k)]) (st' := [.inr (.inr (some 0)), .inl k]) hx hb (by decide +kernel) rfl hl1 (fun ls hl1 => ?_)
    refine tm_hp_W (pg := pgx) (k := 0) (nM := 0) (T := lw_tbl) (host := "NulledForest") (ty := pg_ty) (pc := 26) (i := .getfield 55) (xs := [7, 5, 341]) (z := 0) (st' := [.inr (.inr (some 20)), .inl k]) (h' := hp M) hx hb hown hts2 hN hin pg_ckT hK hP hD hS (by decide +kernel) (by decide +kernel) rfl (by rw [hp_len]; exact hst0) hok (fun H1 locs1 hP hD hS => ?_)
    refine xg_V (c0 := tm_cd1 pgx 0) (n := n) (y := 45) (a := 20) (ci := 5) (idx := 152) (j1 := 619) (j2 := 620) (j3 := 78) (j4 := 618) (as := []) (rest := [.inl k]) (q := ("NulledForest$Forest", pgF5, 8)) (v := some (.inl w)) (M1 := M1) hx hb hml hown hts hN (na := 0) (by decide +kernel) rfl (by decide +kernel) (by decide +kernel) hK hP hD hS hA hok rfl rfl hrun (Nat.le_of_ble_eq_true rfl) (fun w hw => by cases hw) (Nat.le_of_ble_eq_true rfl) hl1.1 ⟨Nat.zero_le _, Nat.zero_le _⟩ (by decide +kernel) (fun H1 locs1 hP hD hS hok1 hvok => ?_)
    have hwI : tm_iI w := hvok (.inl w) List.mem_cons_self
    have hokb : ∀ v ∈ ([.inl w, .inl k] : List tm_V), tm_ok 47 v := by
      intro v hv
      simp only [List.mem_cons, List.not_mem_nil, or_false] at hv
      rcases hv with rfl | rfl
      · exact hwI
      · exact hk
    rcases hw with ⟨hr, hkw⟩ | ⟨hr, hkw⟩
    · refine tm_br_W (pc := 32) (i := .if_icmp .lt 13) (pc' := 45) (st := [.inl w, .inl k]) (st' := []) (n := 47) hx hb (by decide +kernel) (by simp [tm_br, tm_cd, hkw, tm_go]) hokb ?_
      refine W.widen (k := 1) (n := 6) (Nat.zero_le _) (Nat.zero_le _) ?_
      refine W.post (W.vret (Qc := xQc D tA ad M s.heap.size r none M1) (free := A) hx hb B.returns (fun t ht hW => ?_) hS.2.2 (by decide +kernel) hlocks) (fun t h => xt_MQ.of h)
      refine ⟨by rw [hAe]; exact hS.F ht, by rw [ht]; exact hP, by rw [hAe]; exact hD, Or.inl ⟨hr, rfl⟩⟩
    · refine tm_br_W (pc := 32) (i := .if_icmp .lt 13) (pc' := 35) (st := [.inl w, .inl k]) (st' := []) (n := 47) hx hb (by decide +kernel) (by simp [tm_br, tm_cd, hkw]) hokb ?_
      exact nsee M1 _ _ ls hl1.1 rfl hr hP hD hS
