/-! The law's operations length and made -/
section LI
variable {p : Program} {l : Launch} {e : Env} {s : State} {m : MethodId} {below : List Frame} {meth : Method} {c : Code} {b L : Nat} {xs : Nat → Int32} {D : va_G} {tA : Nat → ClassId} {ad : Nat → Nat} {q1 q2 q3 : Nat} {H : Heap} {locs : List Loc} {cells slots : Nat} {Q : State → Prop} {ls : Array Slot}
set_option maxHeartbeats 4000000 in
set_option maxRecDepth 100000 in
theorem law_len (K : lw_K p l s m meth c b L xs D tA ad q1 q2 q3) {i : Nat} {M : ev_M} {Rr : ev_M → Prop}
    (hst : mLN (sv xs (i + 0 + 1)) M (fun r w M1 => m139 (sv xs (i + 0 + 1)) (xM r w M1) (fun w' M2 => m93 M2 (fun t M3 => t = (r : Int) ∧ (r = 0 → M3.2 46 0 = w') ∧ Rr M3))))
    (hok : okM M) (hi : i + 6 ≤ L) (hP : va_P D pg_cl (tm_cW tA ad (hp M)) H) (hD : va_D (fun q => s.heap.size ≤ q) (tm_cW tA ad (hp M))) (hS : va_S (fun q => s.heap.size ≤ q) s.heap H locs) (hlo : lv_has ls 7 (tm_cL ad (lwl i))) (hin : meth.name = "law") (hcs : cells + 1 ≤ room_1.cells ∧ slots + 6 ≤ room_1.slots)
    (kk : ∀ (M2 : ev_M) (H1 : Heap) (locs1 : List Loc) (ls : Array Slot), Rr M2 → okM M2 → va_P D pg_cl (tm_cW tA ad (hp M2)) H1 → va_D (fun q => s.heap.size ≤ q) (tm_cW tA ad (hp M2)) → va_S (fun q => s.heap.size ≤ q) s.heap H1 locs1 → lv_has ls 7 (tm_cL ad (lwl i)) → W p l e room_1 s m #[Value.ref b] below meth c H1 locs1 (cells + 1) (slots + 6) Q (F0 m 654 ls [])) :
    W p l e room_1 s m #[Value.ref b] below meth c H locs cells slots Q (F0 m 530 ls []) := by
  have hdec : ckh 530 1 90 95 (71) = true := by decide +kernel
  simp only [ckh, Bool.and_eq_true, decide_eq_true_eq] at hdec
  obtain ⟨d0, d1, d2, d3, d4, d5, d6, d7, d8⟩ := hdec
  obtain ⟨r, w, M1, hst, hok1, hw, hr3, hM⟩ := met_HL K.hl hst hok (sv_ok xs _)
  have hok2 : okM (xM r w M1) := by
    unfold xM
    split
    · exact okM_out hok1 ⟨by have := hw.1; omega, by have := hw.2; omega⟩
    · exact hok1
  have hrI : tm_iI (r : Int) := ⟨by omega, by omega⟩
  show W p l e room_1 s m #[Value.ref b] below meth c H locs cells slots Q (F0 m 530 ls (([] : List tm_V).map (tm_cv ad)))
  refine tm_lo_W (i := .aload_n 1) (lo' := lwl i) (st' := [rR 0]) K.hx K.hb d0 rfl hlo (fun ls hlo => ?_)
  refine xs_lds K hS (lo := lwl i) (i := i) (fun _ => rfl) (fun _ => rfl) 1 0 531 ls [rR 0] (by omega) hlo d1 (fun ls hlo => ?_)
  refine tm_lo_W (i := .aload_n 3) (lo' := lwl i) (st' := rR 46 :: ((sas xs (i + 0) 1).reverse ++ [rR 0])) K.hx K.hb d2 rfl hlo (fun ls hlo => ?_)
  refine xh_S (c0 := tm_cd1 pgl 0) (y := yHL) (yb := method_3_code) (yL := 4) (yr := some .int) (hh := [(0, 9, 12, 13), (0, 9, 15, 15)]) (rm := rmHL) (mc := 1) (ms := 6) (idx := 90) (j1 := 623) (j3 := 71) (j4 := 622) (j5 := 624) (na := 3) (as := rR 0 :: (sas xs i 1 ++ [rR 46])) (rest := []) (v := some (.inl (r : Int))) (M1 := xM r w M1) K.hx K.hb K.hml K.hown K.hts K.hnw (hM D tA ad H.size q1 q2 q3) (by decide +kernel) rfl rfl rfl rfl (by decide) (by decide) K.hK hP hD hS (fun q h => h) ⟨K.hz.1.kept (fun a h1 h2 => hS.2.1 a h1 h2), K.hz.2.kept (fun a h1 h2 => hS.2.1 a h1 h2)⟩ K.hks K.hnc (by decide) hlo.1 hcs d3 (fun H1 locs1 hP hD hS => ?_)
  refine tm_lo_W (i := .istore 5) (st := [.inl (r : Int)]) (lo' := [(5, .inl (r : Int)), (0, rR 47), (1, rR 0), (2, rR 30), (3, rR 46), (4, .inl (i : Int))]) (st' := []) K.hx K.hb d4 rfl hlo (fun ls hlo => ?_)
  refine tm_lo_W (i := .aload_n 2) (st := []) (lo' := [(5, .inl (r : Int)), (0, rR 47), (1, rR 0), (2, rR 30), (3, rR 46), (4, .inl (i : Int))]) (st' := [rR 30]) K.hx K.hb d5 rfl hlo (fun ls hlo => ?_)
  refine xs_lds K hS (lo := [(5, .inl (r : Int)), (0, rR 47), (1, rR 0), (2, rR 30), (3, rR 46), (4, .inl (i : Int))]) (i := i) (fun _ => rfl) (fun _ => rfl) 1 0 544 ls [rR 30] (by omega) hlo d6 (fun ls hlo => ?_)
  obtain ⟨n', v', M2, hrun', w', rfl, hst⟩ := hst
  refine xg_V (c0 := tm_cd1 pgl 0) (n := n') (y := 139) (a := 30) (ci := 8) (idx := 95) (j1 := 1083) (j2 := 1084) (j3 := 81) (j4 := 1082) (na := 1) (as := sas xs i 1) (rest := []) (q := ("NulledForestModel", pgF8, 31)) (v := some (.inl w')) (M1 := M2) K.hx K.hb K.hml K.hown K.hts K.hnw (by decide +kernel) (sas_len xs i 1) (by decide +kernel) (by decide +kernel) K.hK hP hD hS (fun q h => h) hok2 rfl rfl hrun' (Nat.le_of_ble_eq_true rfl) (sas_ok xs i 1) (by decide) hlo.1 hcs d7 (fun H1 locs1 hP hD hS hok3 hw2 => ?_)
  refine tm_lo_W (i := .istore 6) (st := [.inl w']) (lo' := lw6 i r w') (st' := []) K.hx K.hb d8 rfl hlo (fun ls hlo => ?_)
  exact law_t K hr3 (hw2 (.inl w') List.mem_cons_self) hst hok3 hP hD hS hlo (off := 71) (by decide +kernel) hin hcs kk
set_option maxHeartbeats 4000000 in
set_option maxRecDepth 100000 in
theorem law_mad (K : lw_K p l s m meth c b L xs D tA ad q1 q2 q3) {i : Nat} {M : ev_M} {Rr : ev_M → Prop}
    (hst : mMD (sv xs (i + 0 + 1)) (sv xs (i + 1 + 1)) M (fun r w M1 => m140 (sv xs (i + 0 + 1)) (sv xs (i + 1 + 1)) (xM r w M1) (fun w' M2 => m93 M2 (fun t M3 => t = (r : Int) ∧ (r = 0 → M3.2 46 0 = w') ∧ Rr M3))))
    (hok : okM M) (hi : i + 6 ≤ L) (hP : va_P D pg_cl (tm_cW tA ad (hp M)) H) (hD : va_D (fun q => s.heap.size ≤ q) (tm_cW tA ad (hp M))) (hS : va_S (fun q => s.heap.size ≤ q) s.heap H locs) (hlo : lv_has ls 7 (tm_cL ad (lwl i))) (hin : meth.name = "law") (hcs : cells + 2 ≤ room_1.cells ∧ slots + 12 ≤ room_1.slots)
    (kk : ∀ (M2 : ev_M) (H1 : Heap) (locs1 : List Loc) (ls : Array Slot), Rr M2 → okM M2 → va_P D pg_cl (tm_cW tA ad (hp M2)) H1 → va_D (fun q => s.heap.size ≤ q) (tm_cW tA ad (hp M2)) → va_S (fun q => s.heap.size ≤ q) s.heap H1 locs1 → lv_has ls 7 (tm_cL ad (lwl i)) → W p l e room_1 s m #[Value.ref b] below meth c H1 locs1 (cells + 2) (slots + 12) Q (F0 m 654 ls [])) :
    W p l e room_1 s m #[Value.ref b] below meth c H locs cells slots Q (F0 m 586 ls []) := by
  have hdec : ckh 586 2 99 102 (3) = true := by decide +kernel
  simp only [ckh, Bool.and_eq_true, decide_eq_true_eq] at hdec
  obtain ⟨d0, d1, d2, d3, d4, d5, d6, d7, d8⟩ := hdec
  obtain ⟨r, w, M1, hst, hok1, hw, hr3, hM⟩ := met_HM K.hl hst hok (sv_ok xs _) (sv_ok xs _)
  have hok2 : okM (xM r w M1) := by
    unfold xM
    split
    · exact okM_out hok1 ⟨by have := hw.1; omega, by have := hw.2; omega⟩
    · exact hok1
  have hrI : tm_iI (r : Int) := ⟨by omega, by omega⟩
  show W p l e room_1 s m #[Value.ref b] below meth c H locs cells slots Q (F0 m 586 ls (([] : List tm_V).map (tm_cv ad)))
  refine tm_lo_W (i := .aload_n 1) (lo' := lwl i) (st' := [rR 0]) K.hx K.hb d0 rfl hlo (fun ls hlo => ?_)
  refine xs_lds K hS (lo := lwl i) (i := i) (fun _ => rfl) (fun _ => rfl) 2 0 587 ls [rR 0] (by omega) hlo d1 (fun ls hlo => ?_)
  refine tm_lo_W (i := .aload_n 3) (lo' := lwl i) (st' := rR 46 :: ((sas xs (i + 0) 2).reverse ++ [rR 0])) K.hx K.hb d2 rfl hlo (fun ls hlo => ?_)
  refine xh_S (c0 := tm_cd1 pgl 0) (y := yHM) (yb := method_4_code) (yL := 5) (yr := some .int) (hh := [(0, 10, 13, 13), (0, 10, 17, 15), (0, 10, 21, 21)]) (rm := rmHM) (mc := 2) (ms := 12) (idx := 99) (j1 := 756) (j3 := 71) (j4 := 755) (j5 := 757) (na := 4) (as := rR 0 :: (sas xs i 2 ++ [rR 46])) (rest := []) (v := some (.inl (r : Int))) (M1 := xM r w M1) K.hx K.hb K.hml K.hown K.hts K.hnw (hM D tA ad H.size q1 q2 q3) (by decide +kernel) rfl rfl rfl rfl (by decide) (by decide) K.hK hP hD hS (fun q h => h) ⟨K.hz.1.kept (fun a h1 h2 => hS.2.1 a h1 h2), K.hz.2.kept (fun a h1 h2 => hS.2.1 a h1 h2)⟩ K.hks K.hnc (by decide) hlo.1 hcs d3 (fun H1 locs1 hP hD hS => ?_)
  refine tm_lo_W (i := .istore 5) (st := [.inl (r : Int)]) (lo' := [(5, .inl (r : Int)), (0, rR 47), (1, rR 0), (2, rR 30), (3, rR 46), (4, .inl (i : Int))]) (st' := []) K.hx K.hb d4 rfl hlo (fun ls hlo => ?_)
  refine tm_lo_W (i := .aload_n 2) (st := []) (lo' := [(5, .inl (r : Int)), (0, rR 47), (1, rR 0), (2, rR 30), (3, rR 46), (4, .inl (i : Int))]) (st' := [rR 30]) K.hx K.hb d5 rfl hlo (fun ls hlo => ?_)
  refine xs_lds K hS (lo := [(5, .inl (r : Int)), (0, rR 47), (1, rR 0), (2, rR 30), (3, rR 46), (4, .inl (i : Int))]) (i := i) (fun _ => rfl) (fun _ => rfl) 2 0 606 ls [rR 30] (by omega) hlo d6 (fun ls hlo => ?_)
  obtain ⟨n', v', M2, hrun', w', rfl, hst⟩ := hst
  refine xg_V (c0 := tm_cd1 pgl 0) (n := n') (y := 140) (a := 30) (ci := 8) (idx := 102) (j1 := 1103) (j2 := 1104) (j3 := 81) (j4 := 1102) (na := 2) (as := sas xs i 2) (rest := []) (q := ("NulledForestModel", pgF8, 31)) (v := some (.inl w')) (M1 := M2) K.hx K.hb K.hml K.hown K.hts K.hnw (by decide +kernel) (sas_len xs i 2) (by decide +kernel) (by decide +kernel) K.hK hP hD hS (fun q h => h) hok2 rfl rfl hrun' (Nat.le_of_ble_eq_true rfl) (sas_ok xs i 2) (by decide) hlo.1 hcs d7 (fun H1 locs1 hP hD hS hok3 hw2 => ?_)
  refine tm_lo_W (i := .istore 6) (st := [.inl w']) (lo' := lw6 i r w') (st' := []) K.hx K.hb d8 rfl hlo (fun ls hlo => ?_)
  exact law_t K hr3 (hw2 (.inl w') List.mem_cons_self) hst hok3 hP hD hS hlo (off := 3) (by decide +kernel) hin hcs kk
end LI
