/-! The contract of NulledForestLaw.made -/
set_option maxHeartbeats 4000000 in
set_option maxRecDepth 100000 in
theorem met_HM {l : Launch} (hl : l.flags = flags0) {k i : Int} {M : ev_M} {Q : Nat → Int → ev_M → Prop} (h : mMD k i M Q) (hok : okM M) (hk : tm_iI k) (hi : tm_iI i) : ∃ (r : Nat) (w : Int) (M3 : ev_M), Q r w M3 ∧ okM M3 ∧ tm_iI w ∧ r ≤ 3 ∧ ∀ (D : va_G) (tA : Nat → ClassId) (ad : Nat → Nat) (sz q1 q2 q3 : Nat), xt_Met l yHM (Cond.codeWith yHM method_4_code 5 (some .int) [(0, 10, 13, 13), (0, 10, 17, 15), (0, 10, 21, 21)] :: tm_WB lw_tbl) rmHM (lPc D tA ad M sz q1 q2 q3 [.inr (.inr (some 0)), .inl k, .inl i, .inr (.inr (some 46))]) (xQc D tA ad M sz 0 (some (.inl (r : Int))) (xM r w M3)) 2 12 (va_A (tm_cW tA ad (hp M)) sz) := by
  obtain ⟨r, w, M3, ⟨hq, hr2⟩, hok3, hw, hMD⟩ := met_MD hl (mMD_le h) hok hk hi
  refine ⟨r, w, M3, hq, hok3, hw, by omega, fun D tA ad sz q1 q2 q3 => ?_⟩
  refine xt_Met.ofWh (cc := method_4_code) (maxL := 5) (ret := some .int) (by decide) rfl ?_
  intro p e s m args below meth c s₁ B hml htab hv
  obtain ⟨⟨rfl, hsz, hP, hK, hD0, hN, hZ, hks⟩, hnc⟩ := hv
  subst hsz
  have hx := B.exec
  have hb := B.bytes
  have hts := atoms_spec (ws := Cond.codeWith yHM method_4_code 5 (some .int) [(0, 10, 13, 13), (0, 10, 17, 15), (0, 10, 21, 21)] :: tm_WB lw_tbl) B.pre
  have hB : ∀ {j : Nat} {w : Cond}, tm_inB lw_tbl j w = true → w.before (([.inr (.inr (some 0)), .inl k, .inl i, .inr (.inr (some 46))] : List tm_V).map (tm_cv ad)).toArray s = true := fun hw => hts _ (List.mem_cons_of_mem _ (tm_inB_mem hw))
  have hown : s.vm.findClass "NulledForestLaw" = some m.cls := findClass_of_methodNamed B.named
  have hlocks := B.notSynchronized
  have hD := hD0.self (sz := s.heap.size)
  generalize hAe : va_A (tm_cW tA ad (hp M)) s.heap.size = A at hD hZ ⊢
  have hA : ∀ q : Nat, s.heap.size ≤ q → A q := fun q h => by rw [← hAe]; exact Or.inr h
  have hS : va_S A s.heap s.heap [] := va_S.rf
  have hl0 := lv_entry (([.inr (.inr (some 0)), .inl k, .inl i, .inr (.inr (some 46))] : List tm_V).map (tm_cv ad)) (n := 5) (by rw [tm_sl_len]; exact Nat.le_of_ble_eq_true rfl)
  rw [lg_entry_eq]
  rw [tm_args_cv] at hl0
  generalize (lg_sl (([.inr (.inr (some 0)), .inl k, .inl i, .inr (.inr (some 46))] : List tm_V).map (tm_cv ad)) ++ List.replicate (5 - (lg_sl (([.inr (.inr (some 0)), .inl k, .inl i, .inr (.inr (some 46))] : List tm_V).map (tm_cv ad))).length) Slot.unset).toArray = ls at hl0 ⊢
  have hl1 : lv_has ls 5 (tm_cL ad [(0, .inr (.inr (some 0))), (1, .inl k), (2, .inl i), (3, .inr (.inr (some 46)))]) := hl0
  show W p l e rmHM s m _ below meth c s.heap [] 0 0 _ (F0 m 0 ls (([] : List tm_V).map (tm_cv ad)))
  refine tm_lo_W (pc := 0) (i := .aload_n 3) (lo' := [(0, .inr (.inr (some 0))), (1, .inl k), (2, .inl i), (3, .inr (.inr (some 46)))]) (st' := [.inr (.inr (some 46))]) hx hb (by decide +kernel) rfl hl1 (fun ls hl1 => ?_)
  refine tm_pu_W (pc := 1) (i := .iconst 0) (st' := [.inl 0, .inr (.inr (some 46))]) (n := 47) hx hb (by decide +kernel) rfl (fun v hv => by rw [List.mem_singleton.mp hv]; show 46 < 47; decide) ?_
  refine tm_lo_W (pc := 2) (i := .aload_n 0) (lo' := [(0, .inr (.inr (some 0))), (1, .inl k), (2, .inl i), (3, .inr (.inr (some 46)))]) (st' := [.inr (.inr (some 0)), .inl 0, .inr (.inr (some 46))]) hx hb (by decide +kernel) rfl hl1 (fun ls hl1 => ?_)
  refine tm_lo_W (pc := 3) (i := .iload_n 1) (lo' := [(0, .inr (.inr (some 0))), (1, .inl k), (2, .inl i), (3, .inr (.inr (some 46)))]) (st' := [.inl k, .inr (.inr (some 0)), .inl 0, .inr (.inr (some 46))]) hx hb (by decide +kernel) rfl hl1 (fun ls hl1 => ?_)
  refine tm_lo_W (pc := 4) (i := .iload_n 2) (lo' := [(0, .inr (.inr (some 0))), (1, .inl k), (2, .inl i), (3, .inr (.inr (some 46)))]) (st' := [.inl i, .inl k, .inr (.inr (some 0)), .inl 0, .inr (.inr (some 46))]) hx hb (by decide +kernel) rfl hl1 (fun ls hl1 => ?_)
  intro T hT X
  obtain ⟨B1, locs1, XB, hP1, hD1, hS1, b4⟩ := xr_V (y := yMD) (yb := prog_1_method_17_code) (yL := 4) (yr := some .int) (rm := rmMD) (mc := 2) (ms := 12) (r := r) (idx := 17) (pc := 5) (ls := ls) (j1 := 760) (j2 := 761) (j3 := 72) (j4 := 759) (j5 := 762) (na := 2) (as := [.inl k, .inl i]) (v := some (.inl w)) (M1 := M3) (rest := [.int 0, .ref (ad 46)]) hx hb hml hown hts hN (hMD D tA ad s.heap.size q1 q2 q3) (by decide +kernel) rfl rfl rfl rfl (by decide) (by decide) hK hP hD hS hA hZ hks (show 1 + (1 + 0) ≤ 8 by decide) hl1.1 ⟨by decide, by decide⟩ (by decide +kernel) hT X
  have fin : ∀ (H2 : Heap) (locs2 : List Loc) (t : State), t.heap = H2 → va_P D pg_cl (tm_cW tA ad (hp (xM r w M3))) H2 → va_D A (tm_cW tA ad (hp (xM r w M3))) → va_S A s.heap H2 locs2 → xQc D tA ad M s.heap.size 0 (some (.inl (r : Int))) (xM r w M3) (([.inr (.inr (some 0)), .inl k, .inl i, .inr (.inr (some 46))] : List tm_V).map (tm_cv ad)).toArray s (.returned (some (.int (Int32.ofInt (r : Int))))) t := by
    intro H2 locs2 t ht g1 g2 g3
    exact ⟨by rw [hAe]; exact g3.F ht, by rw [ht]; exact g1, by rw [hAe]; exact g2, Or.inl ⟨rfl, rfl⟩⟩
  rcases b4 with ⟨hr, st⟩ | ⟨hr, a, ha, hex, st⟩
  · have hM : xM r w M3 = ev_sA M3 46 0 w := if_pos hr
    have K : W p l e rmHM s m (([.inr (.inr (some 0)), .inl k, .inl i, .inr (.inr (some 46))] : List tm_V).map (tm_cv ad)).toArray below meth c B1.heap locs1 (0 + 2) (0 + 12) (xt_MQ below (xQc D tA ad M s.heap.size 0 (some (.inl (r : Int))) (xM r w M3)) (([.inr (.inr (some 0)), .inl k, .inl i, .inr (.inr (some 46))] : List tm_V).map (tm_cv ad)).toArray s 2 12 A) (F0 m 8 ls (([.inl w, .inl 0, .inr (.inr (some 46))] : List tm_V).map (tm_cv ad))) := by
      refine tm_pu_W (pc := 8) (i := .i2l) (st' := [.inr (.inl w), .inl 0, .inr (.inr (some 46))]) (n := 47) hx hb (by decide +kernel) rfl (fun v hv => by
        simp only [List.mem_cons, List.not_mem_nil, or_false] at hv
        rcases hv with rfl | rfl | rfl
        · exact hw
        · exact ⟨by omega, by omega⟩
        · show 46 < 47; decide) ?_
      obtain ⟨i1, i2⟩ := tm_in (i := 0) (n := 1) ⟨by omega, by omega⟩ ⟨by omega, by omega⟩
      refine va_last hx hb hK hP1 hD1 hS1 46 1 (tm_cW_at (show (hp M3)[46]? = some (.inl (1, 1, M3.2 46)) from rfl)) rfl i1 (by decide +kernel) ?_
      rw [i2, tm_updL]
      have kk : ∀ (H1 : Heap) (locs1 : List Loc), va_P D pg_cl (tm_cW tA ad ((hp M3).set 46 (.inl (1, 1, tm_up (M3.2 46) (Int.toNat 0) w)))) H1 → va_D A (tm_cW tA ad ((hp M3).set 46 (.inl (1, 1, tm_up (M3.2 46) (Int.toNat 0) w)))) → va_S A s.heap H1 locs1 → W p l e rmHM s m (([.inr (.inr (some 0)), .inl k, .inl i, .inr (.inr (some 46))] : List tm_V).map (tm_cv ad)).toArray below meth c H1 locs1 (0 + 2) (0 + 12) (xt_MQ below (xQc D tA ad M s.heap.size 0 (some (.inl (r : Int))) (xM r w M3)) (([.inr (.inr (some 0)), .inl k, .inl i, .inr (.inr (some 46))] : List tm_V).map (tm_cv ad)).toArray s 2 12 A) (F0 m (9 + 1) ls (([] : List tm_V).map (tm_cv ad))) := by
        intro H2 locs2 g1 g2 g3
        rw [show (hp M3).set 46 (.inl (1, 1, tm_up (M3.2 46) (Int.toNat 0) w)) = hp (xM r w M3) from by rw [hM]; rfl] at g1 g2
        refine tm_br_W (pc := 10) (i := .goto 15) (pc' := 25) (st' := []) (n := 47) hx hb (by decide +kernel) rfl (fun v hv => by cases hv) ?_
        refine tm_pu_W (pc := 25) (i := .iconst 0) (st := []) (st' := [.inl 0]) (n := 47) hx hb (by decide +kernel) rfl (fun v hv => by cases hv) ?_
        refine W.post (W.iret (v := Int32.ofInt 0) (Qc := xQc D tA ad M s.heap.size 0 (some (.inl (r : Int))) (xM r w M3)) (free := A) hx hb B.returns (fun t ht hW => ?_) g3.2.2 (by decide +kernel) hlocks) (fun t h => xt_MQ.of h)
        have := fin H2 locs2 t ht g1 g2 g3
        rw [hr] at this ⊢
        exact this
      rw [tm_cW_set] at kk
      exact kk
    obtain ⟨t, t1, t2⟩ := K B1 rfl XB
    exact ⟨t, st t t1, t2⟩
  · have hM : xM r w M3 = M3 := if_neg hr
    rw [← hM] at hP1 hD1
    have hpl : e.platform.magicAccessors = ({} : Platform).magicAccessors := by rw [XB.admits.platform]
    have hend : ∀ {pc0 : Nat} {ls2 : Array Slot}, decode method_4_code pc0 = .ok (.iconst (r : Int), 1) → decode method_4_code (pc0 + 1) = .ok (.ireturn, 1) → W p l e rmHM s m (([.inr (.inr (some 0)), .inl k, .inl i, .inr (.inr (some 46))] : List tm_V).map (tm_cv ad)).toArray below meth c B1.heap locs1 (0 + 2) (0 + 12) (xt_MQ below (xQc D tA ad M s.heap.size 0 (some (.inl (r : Int))) (xM r w M3)) (([.inr (.inr (some 0)), .inl k, .inl i, .inr (.inr (some 46))] : List tm_V).map (tm_cv ad)).toArray s 2 12 A) (F0 m pc0 ls2 (([] : List tm_V).map (tm_cv ad))) := by
      intro pc0 ls2 d1 d2
      refine lv_iconst hx hb d1 rfl ?_
      refine W.post (W.iret (v := Int32.ofInt (r : Int)) (Qc := xQc D tA ad M s.heap.size 0 (some (.inl (r : Int))) (xM r w M3)) (free := A) hx hb B.returns (fun t ht hW => fin _ locs1 t ht hP1 hD1 hS1) hS1.2.2 d2 hlocks) (fun t h => xt_MQ.of h)
    obtain ⟨x1, x2, x3, hL, y1, y2, y3⟩ : ∃ x1 x2 x3 : ExceptionTableEntry, c.exceptionTable.toList = [x1, x2, x3] ∧ (x1.startPc, x1.endPc, x1.handlerPc, x1.catchType) = (0, 10, 13, 13) ∧ (x2.startPc, x2.endPc, x2.handlerPc, x2.catchType) = (0, 10, 17, 15) ∧ (x3.startPc, x3.endPc, x3.handlerPc, x3.catchType) = (0, 10, 21, 21) := by
      simp only [List.map_eq_cons_iff, List.map_eq_nil_iff] at htab
      obtain ⟨x1, t1, e1, e2, x2, t2, e3, e4, x3, t3, e5, e6, e7⟩ := htab
      exact ⟨x1, x2, x3, by rw [e1, e3, e5, e7], e2, e4, e6⟩
    simp only [Prod.mk.injEq] at y1 y2 y3
    have hcall : ∃ t, Steps p.tables e below ((B1.setTop (F0 m 5 ls [.int 0, .ref (ad 46)])).pushFrame (.throwing a)) t ∧ xt_MQ below (xQc D tA ad M s.heap.size 0 (some (.inl (r : Int))) (xM r w M3)) (([.inr (.inr (some 0)), .inl k, .inl i, .inr (.inr (some 46))] : List tm_V).map (tm_cv ad)).toArray s 2 12 A t := by
      have hexS : xw_ex (xnm r) a ((B1.setTop (F0 m 5 ls [.int 0, .ref (ad 46)])).pushFrame (.throwing a)) := xw_ex.moved (U := B1) (V := ((B1.setTop (F0 m 5 ls [.int 0, .ref (ad 46)])).pushFrame (.throwing a))) rfl (Vm.Alike.refl _) hex
      have hWS : s.WarmedH ((B1.setTop (F0 m 5 ls [.int 0, .ref (ad 46)])).pushFrame (.throwing a)).vm := XB.warmed
      rcases (by omega : r = 1 ∨ r = 2 ∨ r = 3) with rfl | rfl | rfl
      · refine xh_catch (pc' := 13) XB ?_ ?_
        · rw [hL]
          exact xh_hit (own := "NulledForestLaw") (T := "java/lang/IllegalStateException") (args := (([.inr (.inr (some 0)), .inl k, .inl i, .inr (.inr (some 46))] : List tm_V).map (tm_cv ad)).toArray) hpl hWS hown (by rw [y1.2.2.2]; exact hB (j := 625) (by decide +kernel)) (by simp [covers, y1.1, y1.2.1, F0]) (by rw [y1.2.2.2]; decide) hexS (hN _ (tm_inN_mem (j := 637) (by decide +kernel))) y1.2.2.1
        · refine lv_astore (i := 4) (nL := 5) hx hb (by decide +kernel) hl1 (by decide) rfl (fun ls2 _ => ?_)
          exact hend (by decide +kernel) (by decide +kernel)
      · refine xh_catch (pc' := 17) XB ?_ ?_
        · rw [hL]
          refine xh_pass (own := "NulledForestLaw") (T := "java/lang/IllegalStateException") (args := (([.inr (.inr (some 0)), .inl k, .inl i, .inr (.inr (some 46))] : List tm_V).map (tm_cv ad)).toArray) hpl hWS hown (by rw [y1.2.2.2]; exact hB (j := 625) (by decide +kernel)) (by simp [covers, y1.1, y1.2.1, F0]) (by rw [y1.2.2.2]; decide) hexS hnc.1 (fun S' hW' hex' => ?_)
          exact xh_hit (own := "NulledForestLaw") (T := "java/util/NoSuchElementException") (args := (([.inr (.inr (some 0)), .inl k, .inl i, .inr (.inr (some 46))] : List tm_V).map (tm_cv ad)).toArray) hpl hW' hown (by rw [y2.2.2.2]; exact hB (j := 626) (by decide +kernel)) (by simp [covers, y2.1, y2.2.1, F0]) (by rw [y2.2.2.2]; decide) hex' (hN _ (tm_inN_mem (j := 705) (by decide +kernel))) y2.2.2.1
        · refine lv_astore (i := 4) (nL := 5) hx hb (by decide +kernel) hl1 (by decide) rfl (fun ls2 _ => ?_)
          exact hend (by decide +kernel) (by decide +kernel)
      · refine xh_catch (pc' := 21) XB ?_ ?_
        · rw [hL]
          refine xh_pass (own := "NulledForestLaw") (T := "java/lang/IllegalStateException") (args := (([.inr (.inr (some 0)), .inl k, .inl i, .inr (.inr (some 46))] : List tm_V).map (tm_cv ad)).toArray) hpl hWS hown (by rw [y1.2.2.2]; exact hB (j := 625) (by decide +kernel)) (by simp [covers, y1.1, y1.2.1, F0]) (by rw [y1.2.2.2]; decide) hexS hnc.2.1 (fun S' hW' hex' => ?_)
          refine xh_pass (own := "NulledForestLaw") (T := "java/util/NoSuchElementException") (args := (([.inr (.inr (some 0)), .inl k, .inl i, .inr (.inr (some 46))] : List tm_V).map (tm_cv ad)).toArray) hpl hW' hown (by rw [y2.2.2.2]; exact hB (j := 626) (by decide +kernel)) (by simp [covers, y2.1, y2.2.1, F0]) (by rw [y2.2.2.2]; decide) hex' hnc.2.2 (fun S' hW' hex' => ?_)
          exact xh_hit (own := "NulledForestLaw") (T := "java/lang/IndexOutOfBoundsException") (args := (([.inr (.inr (some 0)), .inl k, .inl i, .inr (.inr (some 46))] : List tm_V).map (tm_cv ad)).toArray) hpl hW' hown (by rw [y3.2.2.2]; exact hB (j := 758) (by decide +kernel)) (by simp [covers, y3.1, y3.2.1, F0]) (by rw [y3.2.2.2]; decide) hex' (hN _ (tm_inN_mem (j := 766) (by decide +kernel))) y3.2.2.1
        · refine lv_astore (i := 4) (nL := 5) hx hb (by decide +kernel) hl1 (by decide) rfl (fun ls2 _ => ?_)
          exact hend (by decide +kernel) (by decide +kernel)
    obtain ⟨t, t1, t2⟩ := hcall
    exact ⟨t, st t t1, t2⟩
