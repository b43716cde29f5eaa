/-! The law from its entry: the two objects and the row are made, then the loop -/
section LN
variable {p : Program} {l : Launch} {e : Env} {s : State} {m : MethodId} {below : List Frame} {meth : Method} {c : Code} {b L : Nat} {xs : Nat → Int32} {D : va_G} {tA : Nat → ClassId} {ad0 ad : Nat → Nat} {q1 q2 q3 : Nat} {H : Heap} {locs : List Loc} {cells slots : Nat} {Q : State → Prop} {pc : Nat} {ls : Array Slot}
/-- a new cell of the law's -/
theorem law_nw (K : lw_K p l s m meth c b L xs D tA ad0 q1 q2 q3) {h h' : tm_H} {n : Nat} (hP : va_P D pg_cl (tm_cW tA ad h) H) (hD : va_D (fun q => s.heap.size ≤ q) (tm_cW tA ad h)) (hS : va_S (fun q => s.heap.size ≤ q) s.heap H locs)
    {i : tm_J} {ys : List Nat} {st : List tm_V} {q : tm_C} {sz : Nat} (hd : decode code pc = .ok (i, tm_len i)) (hck : tm_ckI pgl 0 lw_tbl "NulledForest" pg_cl pg_ty 0 i ys 0 = true) (hh : tm_nw (tm_df pg_cl pg_ty) i ys st = some ([], q, sz)) (ho : ∀ v ∈ st, tm_ok h.length v) (hoH : tm_okH h) (hc : cells + 1 ≤ room_1.cells) (hs : slots + sz ≤ room_1.slots) (hn : h.length = n) (hh' : h ++ [q] = h')
    (kk : ∀ (ad' : Nat → Nat) (H1 : Heap), (∀ j, j < n → ad' j = ad j) → va_P D pg_cl (tm_cW tA ad' h') H1 → va_D (fun q => s.heap.size ≤ q) (tm_cW tA ad' h') → va_S (fun q => s.heap.size ≤ q) s.heap H1 locs → W p l e room_1 s m #[Value.ref b] below meth c H1 locs (cells + 1) (slots + sz) Q (F0 m (pc + tm_len i) ls [.ref (ad' n)])) :
    W p l e room_1 s m #[Value.ref b] below meth c H locs cells slots Q (F0 m pc ls (st.map (tm_cv ad))) := by
  subst hn
  subst hh'
  exact tm_nw_W (pg := pgl) (k := 0) (nM := 0) (T := lw_tbl) (host := "NulledForest") (cl := pg_cl) (ty := pg_ty) (z := 0) (st' := []) K.hx K.hb K.hown K.hts pg_ckT K.hK hP hD hS (fun q h => h) hd hck hh ho hoH hc hs (fun a H1 h1 h2 h3 => kk _ H1 (fun j hj => if_neg (Nat.ne_of_lt hj)) h1 h2 h3)
end LN
theorem df7_ok : tm_okC 0 (.inr (7, tm_df pg_cl pg_ty 7)) := fun v hv => by
  have hall : (tm_df pg_cl pg_ty 7).all (fun v => decide (v = rN) || (decide (v = .inl 0) || decide (v = .inr (.inl 0)))) = true := by decide +kernel
  have := List.all_eq_true.mp hall v hv
  simp only [Bool.or_eq_true, decide_eq_true_eq] at this
  rcases this with rfl | rfl | rfl
  · trivial
  · exact ok_zI
  · exact ok_zL
theorem df8_ok {n : Nat} : tm_okC n (.inr (8, tm_df pg_cl pg_ty 8)) := fun v hv => by
  have hall : (tm_df pg_cl pg_ty 8).all (fun v => decide (v = rN) || (decide (v = .inl 0) || decide (v = .inr (.inl 0)))) = true := by decide +kernel
  have := List.all_eq_true.mp hall v hv
  simp only [Bool.or_eq_true, decide_eq_true_eq] at this
  rcases this with rfl | rfl | rfl
  · trivial
  · exact ok_zI
  · exact ok_zL
theorem hp_l30 (M : ev_M) : ((hp M).take 30).length = 30 := rfl
theorem hp_l46 (M : ev_M) : ((hp M).take 46).length = 46 := rfl
theorem df8_len : (tm_df pg_cl pg_ty 8).length = 31 := by decide +kernel
theorem df7_len : (tm_df pg_cl pg_ty 7).length = 10 := by decide +kernel
theorem ctors {Q : ev_M → Prop} (hinit : m19 M0 (fun _ M1 => m91 (mrg M1) (fun _ M2 => Q M2))) : ∃ (h30 hX h46 : tm_H) (M2 : ev_M), Q M2 ∧ okM M2 ∧ tm_okH h30 ∧ h30.length = 30 ∧ rv 62 0 [(0, rR 0)] [] [.inr (7, tm_df pg_cl pg_ty 7)] 29 4514 (none, h30) ∧ h30 ++ [.inr (8, tm_df pg_cl pg_ty 8)] = hX ∧ tm_okH hX ∧ hX.length = 31 ∧ rv 92 0 [(0, rR 30)] [] hX 15 6480 (none, h46) ∧ tm_okH h46 ∧ h46.length = 46 ∧ h46 ++ [.inl (1, 1, rZ)] = hp M2 := by
  obtain ⟨M1, h91, hok1, hrv1⟩ := ctor_x hinit
  obtain ⟨M2, hI, hok2, hM2, hrv2⟩ := ctor_m hok1 h91 (okM_mrg hok1)
  exact ⟨_, _, _, M2, hI, hok2, okH_30 hok1, hp_l30 M1, hrv1, rfl, tm_okH_push (okH_30 hok1) df8_ok, by rw [List.length_append, hp_l30]; rfl, hrv2, okH_46 hok2, hp_l46 M2, hM2.symm⟩
set_option maxHeartbeats 400000 in
set_option maxRecDepth 100000 in
theorem law_start {p : Program} {l : Launch} {e : Env} {s : State} {m : MethodId} {below : List Frame} {meth : Method} {c : Code} {b L : Nat} {xs : Nat → Int32} (hl : l.flags = flags0) (hL : L ≤ 3072) (C0 : lw_At p s m meth c b L xs) (hcd : (Jvm.Cond.code x code maxLocals ret).before #[Value.ref b] s = true) (hin : meth.name = "law") (Inv : Nat → ev_M → Prop) (hinit : m19 M0 (fun _ M1 => m91 (mrg M1) (fun _ M2 => Inv 0 M2))) (hstep : ∀ (t : Nat) (M : ev_M), Inv t M → okM M → 6 * t + 6 ≤ L → stp xs (6 * t) M (Inv (t + 1))) :
    W p l e room_1 s m #[Value.ref b] below meth c s.heap [] 0 0 (lw_Z below #[Value.ref b] s) (entryFrame m ([Value.ref b] : List Value).toArray 7) := by
  obtain ⟨D, tA, q1, q2, q3, hK⟩ := law_known hl hL C0 hcd
  obtain ⟨h30, hX, h46, M2, hI, hok2, hok30, l30, hrv1, hXe, hok2c, l31, hrv2, hok46, l46, hM2⟩ := ctors hinit
  have K0 := hK (fun _ => b) rfl
  have hA : ∀ q : Nat, s.heap.size ≤ q → (fun q => s.heap.size ≤ q) q := fun q h => h
  have hl0 := lv_entry [Value.ref b] (n := 7) (Nat.le_of_ble_eq_true rfl)
  rw [lg_entry_eq]
  generalize (lg_sl [Value.ref b] ++ List.replicate (7 - (lg_sl [Value.ref b]).length) Slot.unset).toArray = ls at hl0 ⊢
  have hlo : lv_has ls 7 [(0, Value.ref b)] := hl0
  have hP0 : va_P D pg_cl (tm_cW tA (fun _ => b) []) s.heap := fun k q h => by simp [tm_cW] at h
  have hD0 : va_D (fun q => s.heap.size ≤ q) (tm_cW tA (fun _ => b) []) := ⟨fun i j p q h => by simp [tm_cW] at h, fun k q h => by simp [tm_cW] at h⟩
  have hS0 : va_S (fun q => s.heap.size ≤ q) s.heap s.heap [] := va_S.rf
  have hok0 : tm_okH ([] : tm_H) := fun q h => by cases h
  show W p l e room_1 s m #[Value.ref b] below meth c s.heap [] 0 0 (lw_Z below #[Value.ref b] s) (F0 m 0 ls (([] : List tm_V).map (tm_cv (fun _ => b))))
  refine law_nw K0 (h := []) (h' := [.inr (7, tm_df pg_cl pg_ty 7)]) (n := 0) (i := .new 8) (ys := [7, 89, 90, 72]) (sz := 10) hP0 hD0 hS0 (by decide +kernel) (by decide +kernel) (by rw [← df7_len]; rfl) (fun v hv => by cases hv) hok0 (by decide) (by decide) rfl rfl (fun ad1 H1 _ hP hD hS => ?_)
  have hok1c : tm_okH ([.inr (7, tm_df pg_cl pg_ty 7)] : tm_H) := fun q hq => by rw [List.mem_singleton.mp hq]; exact cfB_ok df7_ok (by decide +kernel)
  refine lv_dup K0.hx K0.hb (by decide +kernel) rfl ?_
  refine xi_I (c0 := tm_cd1 pgl 0) (y := 62) (a := 0) (idx := 23) (j1 := 92) (j2 := 72) (j3 := 91) (mc := 29) (ms := 4514) (h := [.inr (7, tm_df pg_cl pg_ty 7)]) (h' := h30) K0.hx K0.hb K0.hml K0.hown K0.hts K0.hnw (by decide +kernel) (by decide +kernel) (by decide +kernel) K0.hK hP hD hS hA hok1c hrv1 (by decide) (rest := [.ref (ad1 0)]) (show 1 + 0 ≤ 8 by decide) hlo.1 ⟨by decide, by decide⟩ (by decide +kernel) (fun ad2 H2 locs2 he2 hP hD hS => ?_)
  refine lv_astore_n (k := 1) (i := 1) K0.hx K0.hb (by decide +kernel) rfl hlo (by decide) rfl (fun ls hlo => ?_)
  have e20 : ad2 0 = ad1 0 := he2 0 (by decide)
  clear he2
  refine law_nw K0 (ad := ad2) (st := []) (h := h30) (h' := hX) (n := 30) (i := .new 24) (ys := [8, 780, 781, 81]) (sz := 31) hP hD hS (by decide +kernel) (by decide +kernel) (by rw [← df8_len]; rfl) (fun v hv => by cases hv) hok30 (by decide) (by decide) l30 hXe (fun ad3 H3 he3 hP hD hS => ?_)
  have e30 : ad3 0 = ad2 0 := he3 0 (by decide)
  refine lv_dup K0.hx K0.hb (by decide +kernel) rfl ?_
  have hcsM : 0 + 1 + 29 + 1 + 15 ≤ room_1.cells ∧ 0 + 10 + 4514 + 31 + 6480 ≤ room_1.slots := ⟨Nat.le_of_ble_eq_true rfl, Nat.le_of_ble_eq_true rfl⟩
  have hltM : 30 < hX.length := by rw [l31]; decide
  have hckM : (decide (92 < pg_n) && (plainName (pg 92).1.cls && (decide ((pg 92).1.name = "<init>") && (decide ((pg 92).2.2.2.1 = none) && (tm_inB lw_tbl 783 (.instanceMethod (pg 92).1) && (tm_inB lw_tbl 81 (.initialized (pg 92).1.cls) && (tm_inB lw_tbl 782 (.methodLink "NulledForestLaw" 26 (pg 92).1) && (decide ((pg 92).1.cls ≠ "java/lang/invoke/MethodHandle") && (decide ((pg 92).1.cls ≠ "java/lang/invoke/VarHandle") && (decide ((parseMethodDescriptor (pg 92).1.desc).map (fun d => d.parameters.length) = some 0) && (decide ((pg 92).2.2.2.2.2.cells = 15) && (decide ((pg 92).2.2.2.2.2.slots = 6480) && decide (1 ≤ (pg 92).2.2.1))))))))))))) = true := by decide +kernel
  refine xi_I (c0 := tm_cd1 pgl 0) (ad := ad3) (y := 92) (a := 30) (idx := 26) (j1 := 783) (j2 := 81) (j3 := 782) (mc := 15) (ms := 6480) (h := hX) (h' := h46) K0.hx K0.hb K0.hml K0.hown K0.hts K0.hnw hckM (by decide +kernel) (by decide +kernel) K0.hK hP hD hS hA hok2c hrv2 hltM (rest := [.ref (ad3 30)]) (show 1 + 0 ≤ 8 by decide) hlo.1 hcsM (by decide +kernel) (fun ad4 H4 locs4 he4 hP hD hS => ?_)
  rw [l31] at he4
  have e40 : ad4 0 = ad3 0 := he4 0 (by decide)
  have e430 : ad4 30 = ad3 30 := he4 30 (by decide)
  refine lv_astore_n (k := 2) (i := 2) K0.hx K0.hb (by decide +kernel) rfl hlo (by decide) rfl (fun ls hlo => ?_)
  refine tm_pu_W (ad := ad4) (i := .iconst 1) (st := []) (st' := [.inl 1]) (n := 46) K0.hx K0.hb (by decide +kernel) rfl (fun v hv => by cases hv) ?_
  refine law_nw K0 (ad := ad4) (st := [.inl 1]) (h := h46) (h' := hp M2) (n := 46) (i := .newarray .long) (ys := [1, 160]) (q := .inl (1, 1, rZ)) (sz := 1) hP hD hS (by decide +kernel) (by decide +kernel) rfl (fun v hv => by rw [List.mem_singleton.mp hv]; exact ⟨by omega, by omega⟩) hok46 (by decide) (by decide) l46 hM2 (fun ad5 H5 he5 hP hD hS => ?_)
  have e50 : ad5 0 = ad4 0 := he5 0 (by decide)
  have e530 : ad5 30 = ad4 30 := he5 30 (by decide)
  refine lv_astore_n (k := 3) (i := 3) K0.hx K0.hb (by decide +kernel) rfl hlo (by decide) rfl (fun ls hlo => ?_)
  refine lv_iconst (n := 0) (v := 0) K0.hx K0.hb (by decide +kernel) rfl ?_
  refine lv_istore (i := 4) K0.hx K0.hb (by decide +kernel) hlo (by decide) rfl (fun ls hlo => ?_)
  -- the addresses, with the script's
  obtain ⟨ad, hade⟩ : ∃ ad : Nat → Nat, (fun j => if j = 47 then b else ad5 j) = ad := ⟨_, rfl⟩
  have f47 : ad 47 = b := by rw [← hade]; rfl
  have f0 : ad 0 = ad1 0 := by
    rw [← hade]
    show ad5 0 = ad1 0
    rw [e50, e40, e30, e20]
  have f30 : ad 30 = ad3 30 := by
    rw [← hade]
    show ad5 30 = ad3 30
    rw [e530, e430]
  have f46 : ad 46 = ad5 46 := by rw [← hade]; rfl
  have ecw : tm_cW tA ad (hp M2) = tm_cW tA ad5 (hp M2) := tm_cW_ext (fun j hj => by
    rw [← hade]
    have hj' : j < 47 := by rw [hp_len] at hj; exact hj
    show (if j = 47 then b else ad5 j) = ad5 j
    rw [if_neg (by omega)]) hok2
  rw [← ecw] at hP hD
  have K := hK ad f47
  have hlo2 : lv_has ls 7 (tm_cL ad (lwl (6 * 0))) := by
    refine lv_subm hlo (fun q hq => ?_)
    have e9 : tm_cL ad (lwl (6 * 0)) = [(0, .ref (ad 47)), (1, .ref (ad 0)), (2, .ref (ad 30)), (3, .ref (ad 46)), (4, .int 0)] := rfl
    rw [e9, f47, f0, f30, f46] at hq
    simp only [List.mem_cons, List.not_mem_nil, or_false] at hq
    rcases hq with rfl | rfl | rfl | rfl | rfl
    · exact List.mem_of_getElem? (i := 4) rfl
    · exact List.mem_of_getElem? (i := 3) rfl
    · exact List.mem_of_getElem? (i := 2) rfl
    · exact List.mem_of_getElem? (i := 1) rfl
    · exact List.mem_of_getElem? (i := 0) rfl
  exact law_loop K hin Inv hstep L 0 M2 H5 locs4 ls (by omega) (by omega) hI hok2 hP hD hS hlo2
