/-! The contract of NulledForest.made -/
set_option maxHeartbeats 4000000 in
set_option maxRecDepth 100000 in
theorem met_MD {l : Launch} (hl : l.flags = flags0) {k i : Int} {M : ev_M} {Q : Nat → Int → ev_M → Prop} (h : mMD k i M Q) (hok : okM M) (hk : tm_iI k) (hi : tm_iI i) : ∃ (r : Nat) (w : Int) (M3 : ev_M), Q r w M3 ∧ okM M3 ∧ tm_iI w ∧ ∀ (D : va_G) (tA : Nat → ClassId) (ad : Nat → Nat) (sz q1 q2 q3 : Nat), xt_Met l yMD (tm_cd1 pgx 2 :: tm_WB lw_tbl) rmMD (xPc D tA ad M sz q1 q2 q3 [.inr (.inr (some 0)), .inl k, .inl i]) (xQc D tA ad M sz r (some (.inl w)) M3) 2 12 (va_A (tm_cW tA ad (hp M)) sz) := by
  obtain ⟨n1, v1, M1, hr1, rfl, h⟩ := h
  have hok1 : okM M1 := (okM_run hr1 (by intro q hq; rw [List.mem_singleton.mp hq]; show 0 < 47; decide) hok).1
  obtain ⟨r0, M2, h, hok2, hRT⟩ := met_RT hl h hok1 hk
  -- the number found: -1 where there is none
  have key : ∃ (r : Nat) (w : Int) (M3 : ev_M), Q r w M3 ∧ okM M3 ∧ tm_iI w ∧ ((r0 ≠ 0 ∧ r = r0 ∧ M3 = M2) ∨ (r0 = 0 ∧ ∃ w' : Int, tm_iI w' ∧ ((i < 0 ∧ w' = -1 ∧ M3 = M2) ∨ (¬ i < 0 ∧ ∃ n3, ev_r n3 60 0 [(0, .inr (.inr (some 25))), (1, .inl k), (2, .inl i)] [] (hp M2) = some (some (.inl w'), hp M3))) ∧ ((w' = -1 ∧ r = 3) ∨ (¬ w' = -1 ∧ r = 0 ∧ w = w')))) := by
    by_cases h0 : r0 = 0
    · rw [if_pos h0] at h
      by_cases h1 : i < 0
      · rw [if_pos h1] at h
        exact ⟨3, 0, M2, h, hok2, ⟨by omega, by omega⟩, Or.inr ⟨h0, -1, ⟨by omega, by omega⟩, Or.inl ⟨h1, rfl, rfl⟩, Or.inl ⟨rfl, rfl⟩⟩⟩
      · rw [if_neg h1] at h
        obtain ⟨n3, v3, M3, hr3, w, rfl, hq⟩ := h
        obtain ⟨o3, o4⟩ := okM_run hr3 (by
          intro q hq
          simp only [List.mem_cons, List.not_mem_nil, or_false] at hq
          rcases hq with rfl | rfl | rfl
          · show 25 < 47; decide
          · exact hk
          · exact hi) hok2
        have hw : tm_iI w := o4 (.inl w) List.mem_cons_self
        by_cases h2 : w = -1
        · rw [if_pos h2] at hq
          exact ⟨3, 0, M3, hq, o3, ⟨by omega, by omega⟩, Or.inr ⟨h0, w, hw, Or.inr ⟨h1, n3, hr3⟩, Or.inl ⟨h2, rfl⟩⟩⟩
        · rw [if_neg h2] at hq
          exact ⟨0, w, M3, hq, o3, hw, Or.inr ⟨h0, w, hw, Or.inr ⟨h1, n3, hr3⟩, Or.inr ⟨h2, rfl, rfl⟩⟩⟩
    · rw [if_neg h0] at h
      exact ⟨r0, 0, M2, h, hok2, ⟨by omega, by omega⟩, Or.inl ⟨h0, rfl, rfl⟩⟩
  obtain ⟨r, w, M3, hq, hok3, hw, hcase⟩ := key
  refine ⟨r, w, M3, hq, hok3, hw, fun D tA ad sz q1 q2 q3 => ?_⟩
  refine xt_Met.ofW (cc := prog_1_method_17_code) (maxL := 4) (ret := some .int) (by decide) rfl ?_
  intro p e s m args below meth c s₁ B hml htab hv
  obtain ⟨rfl, hsz, hP, hK, hD0, hN, hZ, hks⟩ := hv
  subst hsz
  have hx := B.exec
  have hb := B.bytes
  have hts := atoms_spec (ws := tm_cd1 pgx 2 :: tm_WB lw_tbl) B.pre
  have hts2 : ∀ w ∈ tm_ws pgx 0 (tm_WB lw_tbl) 2, w.before (([.inr (.inr (some 0)), .inl k, .inl i] : List tm_V).map (tm_cv ad)).toArray s = true := hts
  have hB : ∀ {j : Nat} {w : Cond}, tm_inB lw_tbl j w = true → w.before (([.inr (.inr (some 0)), .inl k, .inl i] : List tm_V).map (tm_cv ad)).toArray s = true := fun hw => hts _ (List.mem_cons_of_mem _ (tm_inB_mem hw))
  have hown : s.vm.findClass "NulledForest" = some m.cls := findClass_of_methodNamed B.named
  have hlocks := B.notSynchronized
  have hin : meth.name = "made" := (name_of_methodNamed B.named B.method).1
  have hD := hD0.self (sz := s.heap.size)
  generalize hAe : va_A (tm_cW tA ad (hp M)) s.heap.size = A at hD hZ ⊢
  have hA : ∀ q : Nat, s.heap.size ≤ q → A q := fun q h => by rw [← hAe]; exact Or.inr h
  have hS : va_S A s.heap s.heap [] := va_S.rf
  have zz : ∀ (H2 : Heap) (locs2 : List Loc), va_S A s.heap H2 locs2 → xz2 A s H2 := fun H2 locs2 g3 => ⟨hZ.1.kept (fun a h1 h2 => g3.2.1 a h1 h2), hZ.2.kept (fun a h1 h2 => g3.2.1 a h1 h2)⟩
  have hl0 := lv_entry (([.inr (.inr (some 0)), .inl k, .inl i] : List tm_V).map (tm_cv ad)) (n := 4) (by rw [tm_sl_len]; exact Nat.le_of_ble_eq_true rfl)
  rw [lg_entry_eq]
  rw [tm_args_cv] at hl0
  generalize (lg_sl (([.inr (.inr (some 0)), .inl k, .inl i] : List tm_V).map (tm_cv ad)) ++ List.replicate (4 - (lg_sl (([.inr (.inr (some 0)), .inl k, .inl i] : List tm_V).map (tm_cv ad))).length) Slot.unset).toArray = ls at hl0 ⊢
  have hl1 : lv_has ls 4 (tm_cL ad [(0, .inr (.inr (some 0))), (1, .inl k), (2, .inl i)]) := hl0
  have fin : ∀ (H2 : Heap) (locs2 : List Loc) (r2 : Nat), r2 ≠ 0 → r = r2 → va_P D pg_cl (tm_cW tA ad (hp M3)) H2 → va_D A (tm_cW tA ad (hp M3)) → va_S A s.heap H2 locs2 → ∀ (a : Nat) (t : State), H2.size ≤ a → H2.size ≤ t.heap.size → (∀ q : Nat, q < H2.size → t.heap[q]? = H2[q]?) → s.WarmedH t.vm → xw_ex (xnm r2) a t → xQc D tA ad M s.heap.size r (some (.inl w)) M3 (([.inr (.inr (some 0)), .inl k, .inl i] : List tm_V).map (tm_cv ad)).toArray s (.threw a) t := by
    intro H2 locs2 r2 hr2 hrr g1 g2 g3 a t t1 t2 t3 t4 t5
    refine ⟨⟨Nat.le_trans g3.1 t2, fun q h1 h2 => ?_⟩, g1.kept (fun i q hi => t3 q.1 (g1 i q hi).lt), by rw [hAe]; exact g2, Or.inr ⟨by rw [hrr]; exact hr2, a, rfl, Nat.le_trans g3.1 t1, by rw [hrr]; exact t5⟩⟩
    rw [hAe] at h2
    rw [t3 q (Nat.lt_of_lt_of_le h1 g3.1)]
    exact g3.2.1 q h1 h2
  -- from 26 on
  have tail : ∀ (w' : Int) (H2 : Heap) (locs2 : List Loc) (ls2 : Array Slot), tm_iI w' → lv_has ls2 4 (tm_cL ad [(0, .inr (.inr (some 0))), (1, .inl k), (2, .inl i)]) → ((w' = -1 ∧ r = 3) ∨ (¬ w' = -1 ∧ r = 0 ∧ w = w')) → va_P D pg_cl (tm_cW tA ad (hp M3)) H2 → va_D A (tm_cW tA ad (hp M3)) → va_S A s.heap H2 locs2 → W p l e rmMD s m (([.inr (.inr (some 0)), .inl k, .inl i] : List tm_V).map (tm_cv ad)).toArray below meth c H2 locs2 1 6 (xt_MQ below (xQc D tA ad M s.heap.size r (some (.inl w)) M3) (([.inr (.inr (some 0)), .inl k, .inl i] : List tm_V).map (tm_cv ad)).toArray s 2 12 A) (F0 m 26 ls2 (([.inl w'] : List tm_V).map (tm_cv ad))) := by
    intro w' H2 locs2 ls2 hw' hl2 hr g1 g2 g3
    refine tm_lo_W (pc := 26) (i := .istore_n 3) (lo' := [(3, .inl w'), (0, .inr (.inr (some 0))), (1, .inl k), (2, .inl i)]) (st' := []) hx hb (by decide +kernel) rfl hl2 (fun ls2 hl2 => ?_)
    refine tm_lo_W (pc := 27) (i := .iload_n 3) (lo' := [(3, .inl w'), (0, .inr (.inr (some 0))), (1, .inl k), (2, .inl i)]) (st' := [.inl w']) hx hb (by decide +kernel) rfl hl2 (fun ls2 hl2 => ?_)
    refine tm_pu_W (pc := 28) (i := .iconst (-1)) (st' := [.inl (-1), .inl w']) (n := 47) hx hb (by decide +kernel) rfl (fun v hv => by rw [List.mem_singleton.mp hv]; exact hw') ?_
    have hokb : ∀ v ∈ ([.inl (-1), .inl w'] : List tm_V), tm_ok 47 v := by
      intro v hv
      simp only [List.mem_cons, List.not_mem_nil, or_false] at hv
      rcases hv with rfl | rfl
      · exact ⟨by omega, by omega⟩
      · exact hw'
    rcases hr with ⟨h1, h2⟩ | ⟨h1, h2, h3⟩
    · refine tm_br_W (pc := 29) (i := .if_icmp .ne 13) (pc' := 32) (st' := []) (n := 47) hx hb (by decide +kernel) (by simp [tm_br, tm_cd, h1]) hokb ?_
      exact xt_throwW (ix := 167) (il := 169) (ic := 171) (ixc := 7) (by_ := xb7) hl hx hb (by decide +kernel) (by decide +kernel) (by decide +kernel) (by decide +kernel) hown (by decide +kernel) (hB (j := 764) (by decide +kernel)) (hB (j := 765) (by decide +kernel)) (hB (j := 88) (by decide +kernel)) (xa_at xa_k3 hts hN) xa_hp3 (zz H2 locs2 g3) hks.2.2 (by decide +kernel) (by decide +kernel) (by decide +kernel) (by decide +kernel) (by decide +kernel) htab (by rw [hml]; exact hl2.1) hlocks (by decide) (by decide) (by decide) (by decide) g3.2.2 (fin H2 locs2 3 (by decide) h2 g1 g2 g3)
    · refine tm_br_W (pc := 29) (i := .if_icmp .ne 13) (pc' := 42) (st' := []) (n := 47) hx hb (by decide +kernel) (by simp [tm_br, tm_cd, h1, tm_go]) hokb ?_
      refine tm_lo_W (pc := 42) (i := .iload_n 3) (lo' := [(3, .inl w'), (0, .inr (.inr (some 0))), (1, .inl k), (2, .inl i)]) (st' := [.inl w']) hx hb (by decide +kernel) rfl hl2 (fun ls2 hl2 => ?_)
      refine W.widen (k := 2) (n := 12) (by decide) (by decide) ?_
      refine W.post (W.iret (v := Int32.ofInt w') (Qc := xQc D tA ad M s.heap.size r (some (.inl w)) M3) (free := A) hx hb B.returns (fun t ht hW => ?_) g3.2.2 (by decide +kernel) hlocks) (fun t h => xt_MQ.of h)
      exact ⟨by rw [hAe]; exact g3.F ht, by rw [ht]; exact g1, by rw [hAe]; exact g2, Or.inl ⟨h2, by rw [h3]; rfl⟩⟩
  show W p l e rmMD s m _ below meth c s.heap [] 0 0 _ (F0 m 0 ls (([] : List tm_V).map (tm_cv ad)))
  refine tm_lo_W (pc := 0) (i := .aload_n 0) (lo' := [(0, .inr (.inr (some 0))), (1, .inl k), (2, .inl i)]) (st' := [.inr (.inr (some 0))]) hx hb (by decide +kernel) rfl hl1 (fun ls hl1 => ?_)
  refine xg_V (c0 := tm_cd1 pgx 2) (n := n1) (y := 80) (a := 0) (ci := 7) (idx := 138) (j1 := 530) (j2 := 18) (j3 := 72) (j4 := 528) (as := []) (rest := []) (q := ("NulledForest", pgF7, 10)) (v := none) (M1 := M1) hx hb hml hown hts hN (na := 0) (by decide +kernel) rfl (by decide +kernel) (by decide +kernel) hK hP hD hS hA hok rfl rfl hr1 (Nat.le_of_ble_eq_true rfl) (fun w hw => by cases hw) (Nat.le_of_ble_eq_true rfl) hl1.1 ⟨Nat.zero_le _, Nat.zero_le _⟩ (by decide +kernel) (fun H1 locs1 hP hD hS _ _ => ?_)
  refine tm_lo_W (pc := 4) (i := .aload_n 0) (st := []) (lo' := [(0, .inr (.inr (some 0))), (1, .inl k), (2, .inl i)]) (st' := [.inr (.inr (some 0))]) hx hb (by decide +kernel) rfl hl1 (fun ls hl1 => ?_)
  refine tm_lo_W (pc := 5) (i := .iload_n 1) (lo' := [(0, .inr (.inr (some 0))), (1, .inl k), (2, .inl i)]) (st' := [.inl k, .inr (.inr (some 0))]) hx hb (by decide +kernel) rfl hl1 (fun ls hl1 => ?_)
  refine xr_W (c0 := tm_cd1 pgx 2) (y := yRT) (yb := prog_1_method_18_code) (yL := 2) (yr := none) (rm := rmRT) (mc := 1) (ms := 6) (r := r0) (idx := 156) (j1 := 633) (j2 := 27) (j3 := 72) (j4 := 631) (j5 := 634) (as := [.inl k]) (v := none) (M1 := M2) (rest := []) hx hb hml hown hts hN (na := 1) (hRT D tA ad H1.size q1 q2 q3) (by decide +kernel) rfl rfl rfl rfl (by decide) (by decide) hK hP hD hS hA (zz _ _ hS) hks (by decide) hl1.1 ⟨by decide, by decide⟩ (by decide +kernel) htab hlocks (by decide) (by decide) (fun hr0 H1 locs1 hP hD hS => ?_) (fun hr0 a t t1 t2 t3 t4 t5 => ?_)
  · rcases hcase with ⟨hne, -⟩ | ⟨-, w', hw', hfind, hend⟩
    · exact absurd hr0 hne
    · refine tm_lo_W (pc := 9) (i := .iload_n 2) (st := []) (lo' := [(0, .inr (.inr (some 0))), (1, .inl k), (2, .inl i)]) (st' := [.inl i]) hx hb (by decide +kernel) rfl hl1 (fun ls hl1 => ?_)
      rcases hfind with ⟨h1, rfl, hM⟩ | ⟨h1, n3, hr3⟩
      · refine tm_br_W (pc := 10) (i := .ifCond .ge 7) (pc' := 13) (st' := []) (n := 47) hx hb (by decide +kernel) (by simp [tm_br, tm_cd]; omega) (fun v hv => by rw [List.mem_singleton.mp hv]; exact hi) ?_
        refine tm_pu_W (pc := 13) (i := .iconst (-1)) (st := []) (st' := [.inl (-1)]) (n := 47) hx hb (by decide +kernel) rfl (fun v hv => by cases hv) ?_
        refine tm_br_W (pc := 14) (i := .goto 12) (pc' := 26) (st' := [.inl (-1)]) (n := 47) hx hb (by decide +kernel) rfl (fun v hv => by rw [List.mem_singleton.mp hv]; exact hw') ?_
        rw [← hM] at hP hD
        exact tail (-1) _ _ ls hw' hl1 hend hP hD hS
      · refine tm_br_W (pc := 10) (i := .ifCond .ge 7) (pc' := 17) (st' := []) (n := 47) hx hb (by decide +kernel) (by simp [tm_br, tm_cd, tm_go]; omega) (fun v hv => by rw [List.mem_singleton.mp hv]; exact hi) ?_
        refine tm_lo_W (pc := 17) (i := .aload_n 0) (st := []) (lo' := [(0, .inr (.inr (some 0))), (1, .inl k), (2, .inl i)]) (st' := [.inr (.inr (some 0))]) hx hb (by decide +kernel) rfl hl1 (fun ls hl1 => ?_)
        refine tm_hp_W (pg := pgx) (k := 2) (nM := 0) (T := lw_tbl) (host := "NulledForest") (ty := pg_ty) (pc := 18) (i := .getfield 64) (xs := [7, 6, 342]) (z := 0) (st' := [.inr (.inr (some 25))]) (h' := hp M2) hx hb hown hts2 hN hin pg_ckT hK hP hD hS (by decide +kernel) (by decide +kernel) rfl (fun v hv => by rw [List.mem_singleton.mp hv]; show 0 < 47; decide) hok2 (fun H1 locs1 hP hD hS => ?_)
        refine tm_lo_W (pc := 21) (i := .iload_n 1) (lo' := [(0, .inr (.inr (some 0))), (1, .inl k), (2, .inl i)]) (st' := [.inl k, .inr (.inr (some 25))]) hx hb (by decide +kernel) rfl hl1 (fun ls hl1 => ?_)
        refine tm_lo_W (pc := 22) (i := .iload_n 2) (lo' := [(0, .inr (.inr (some 0))), (1, .inl k), (2, .inl i)]) (st' := [.inl i, .inl k, .inr (.inr (some 25))]) hx hb (by decide +kernel) rfl hl1 (fun ls hl1 => ?_)
        refine xg_V (c0 := tm_cd1 pgx 2) (n := n3) (y := 60) (a := 25) (ci := 6) (idx := 164) (j1 := 725) (j2 := 726) (j3 := 79) (j4 := 763) (as := [.inl k, .inl i]) (rest := []) (q := ("NulledForest$Walk", pgF6, 9)) (v := some (.inl w')) (M1 := M3) hx hb hml hown hts hN (na := 2) (by decide +kernel) rfl (by decide +kernel) (by decide +kernel) hK hP hD hS hA hok2 rfl rfl hr3 (Nat.le_of_ble_eq_true rfl) (by
          intro v hv
          simp only [List.mem_cons, List.not_mem_nil, or_false] at hv
          rcases hv with rfl | rfl
          · exact hk
          · exact hi) (Nat.le_of_ble_eq_true rfl) hl1.1 ⟨by decide, by decide⟩ (by decide +kernel) (fun H1 locs1 hP hD hS _ _ => ?_)
        exact tail w' _ _ ls hw' hl1 hend hP hD hS
  · rcases hcase with ⟨-, rfl, rfl⟩ | ⟨h0, -⟩
    · exact ⟨by rw [hAe]; exact t4, t2, by rw [hAe]; exact t3, Or.inr ⟨hr0, a, rfl, t1, t5⟩⟩
    · exact absurd h0 hr0
