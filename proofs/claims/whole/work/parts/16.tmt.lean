/-! From the small machine to the model: the run is the model's -/
theorem tm_nest_warm {w : Cond} {s U : State} (hn : tm_nest w = true) (hW : s.WarmedH U.vm) (h : va_Nw w s) : va_Nw w U := by
  unfold tm_nest at hn
  split at hn
  · exact va_Nw.warmF hW h
  · exact va_Nw.warmM hW h
  · exact va_Nw.warmD hW h
  · exact va_Nw.warmC hW h
  · cases hn
theorem tm_nest_tab {w : Cond} (hn : tm_nest w = true) : w.onTables = true := by
  unfold tm_nest at hn
  split at hn
  · rfl
  · rfl
  · rfl
  · rfl
  · cases hn
def tm_Pc (D : va_G) (cl : List vw_C) (tA : Nat → ClassId) (WN : List Cond) (ad : Nat → Nat) (h : tm_H) (sz : Nat) (as : List tm_V) : Array Value → State → Prop := va_Pc (as.map (tm_cv ad)) (fun U => U.heap.size = sz ∧ va_P D cl (tm_cW tA ad h) U.heap ∧ va_K D cl (tm_tys tA) U ∧ va_D (fun _ => True) (tm_cW tA ad h) ∧ ∀ w ∈ WN, va_Nw w U)
def tm_Qc (D : va_G) (cl : List vw_C) (tA : Nat → ClassId) (ad : Nat → Nat) (h : tm_H) (sz : Nat) (v : Option tm_V) (h' : tm_H) : Array Value → State → Outcome → State → Prop := fun _ st oc t => (∃ ad' : Nat → Nat, (∀ j, j < h.length → ad' j = ad j) ∧ oc = .returned (v.map (tm_cv ad')) ∧ va_P D cl (tm_cW tA ad' h') t.heap ∧ va_D (va_A (tm_cW tA ad h) sz) (tm_cW tA ad' h')) ∧ va_F (va_A (tm_cW tA ad h) sz) st t
theorem tm_blind {D : va_G} {cl : List vw_C} {tA : Nat → ClassId} {WN : List Cond} {ad : Nat → Nat} {h : tm_H} {sz : Nat} {as : List tm_V} (hWN : WN.all tm_nest = true) : FrameBlind (tm_Pc D cl tA WN ad h sz as) := by
  intro a U g mk q
  obtain ⟨q0, q1, qP, qK, qD, qN⟩ := q
  exact ⟨q0, q1, qP, va_K.moved (u := U) (U := U.calling g mk a) (Vm.Alike.refl U.vm) qK, qD, fun w hw => va_Nw.same (tm_nest_tab (List.all_eq_true.mp hWN w hw)) (rfl : U.vm = (U.calling g mk a).vm) (qN w hw)⟩
section TMT
variable {pg : Nat → tm_M} {nM : Nat} {T : List Cond} {host : String} {cl : List vw_C} {ty : Nat → Nat → FieldType}
variable {p : Program} {l : Launch} {e : Env} {R : Room} {s : State} {m : MethodId} {args : Array Value} {below : List Frame} {meth : Method} {c : Code} {H : Heap} {locs : List Loc} {cells slots : Nat} {Q : State → Prop} {pc : Nat} {ls : Array Slot} {D : va_G} {A : Nat → Prop} {H0 : Heap} {tA : Nat → ClassId} {ad : Nat → Nat} {k : Nat}
theorem tm_after {h h' : tm_H} {v : Option tm_V} {mc ms : Nat} {st0 rest : List Value} {a : Array Value} (hr : va_Run p l e R s m args below meth c H locs cells slots mc ms (F0 m pc ls st0) rest (tm_Qc D cl tA ad h H.size v h' a) (va_A (tm_cW tA ad h) H.size)) (hS : va_S A H0 H locs) (hD : va_D A (tm_cW tA ad h)) (hA : ∀ q, H0.size ≤ q → A q)
    (kk : ∀ (ad' : Nat → Nat) (H1 : Heap) (locs1 : List Loc), (∀ j, j < h.length → ad' j = ad j) → va_P D cl (tm_cW tA ad' h') H1 → va_D A (tm_cW tA ad' h') → va_S A H0 H1 locs1 → W p l e R s m args below meth c H1 locs1 (cells + mc) (slots + ms) Q (F0 m (pc + 3) ls ((v.map (tm_cv ad')).toList ++ rest))) : W p l e R s m args below meth c H locs cells slots Q (F0 m pc ls st0) := by
  have hAA : ∀ q, va_A (tm_cW tA ad h) H.size q → A q := by
    intro q hq
    rcases hq with ⟨i, x, hx⟩ | hq
    · exact hD.2 i _ hx
    · exact hA q (Nat.le_trans hS.1 hq)
  intro T hT X
  obtain ⟨v', st₀, t, T', L, h0, X', hL, e1, e2, ⟨⟨ad', had, hv, hP, hD'⟩, hz, hk⟩, st⟩ := hr T hT X
  cases hv
  rw [h0] at hz hk
  obtain ⟨t2, a1, b1⟩ := kk ad' T'.heap (locs ++ L) had (by rw [e1]; exact hP) (hD'.weaken (fun _ q _ hq => hAA q.1 hq))
    ⟨Nat.le_trans hS.1 (by rw [e1]; exact hz), fun q h1 h2 => by rw [e1, hk q (Nat.lt_of_lt_of_le h1 hS.1) (fun z => h2 (hAA q z))]; exact hS.2.1 q h1 h2, fun q hq => by
      rcases List.mem_append.mp hq with h | h
      · exact hS.2.2 q h
      · exact hAA _ (hL q h)⟩ T' rfl X'
  exact ⟨t2, st t2 a1, b1⟩
theorem tm_nw_W (hx : p.tables.exec = Jvm.exec) (hb : c.code = (pg k).2.1) (hown : s.vm.findClass (pg k).2.2.2.2.1 = some m.cls) (hts : ∀ w ∈ tm_ws pg nM (tm_WB T) k, w.before args s = true) (hT : tm_ckT T cl ty)
    (hK : va_K D cl (tm_tys tA) s) {h : tm_H} (hP : va_P D cl (tm_cW tA ad h) H) (hD : va_D A (tm_cW tA ad h)) (hS : va_S A H0 H locs) (hA : ∀ q, H0.size ≤ q → A q)
    {i : tm_J} {xs : List Nat} {z : Int} {st st' : List tm_V} {q : tm_C} {sz : Nat} (hd : decode (pg k).2.1 pc = .ok (i, tm_len i)) (hck : tm_ckI pg nM T host cl ty k i xs z = true) (hh : tm_nw (tm_df cl ty) i xs st = some (st', q, sz)) (ho : ∀ v ∈ st, tm_ok h.length v) (hoH : tm_okH h) (hc : cells + 1 ≤ R.cells) (hs : slots + sz ≤ R.slots)
    (kk : ∀ (a : Nat) (H1 : Heap), va_P D cl (tm_cW tA (fun j => if j = h.length then a else ad j) (h ++ [q])) H1 → va_D A (tm_cW tA (fun j => if j = h.length then a else ad j) (h ++ [q])) → va_S A H0 H1 locs → W p l e R s m args below meth c H1 locs (cells + 1) (slots + sz) Q (F0 m (pc + tm_len i) ls (((.inr (.inr (some h.length))) :: st').map (tm_cv (fun j => if j = h.length then a else ad j))))) : W p l e R s m args below meth c H locs cells slots Q (F0 m pc ls (st.map (tm_cv ad))) := by
  have hB : ∀ {j : Nat} {w : Cond}, tm_inB T j w = true → w.before args s = true := fun hw => hts _ (tm_ws_B (tm_inB_mem hw))
  obtain ⟨hoq, hos⟩ := tm_nw_ok (n := h.length) hh ho
  have hstk : ∀ a : Nat, ((.inr (.inr (some h.length)) : tm_V) :: st').map (tm_cv (fun j => if j = h.length then a else ad j)) = .ref a :: st'.map (tm_cv ad) := by
    intro a
    rw [List.map_cons, tm_cvs_ext (ad := ad) (ad' := fun j => if j = h.length then a else ad j) (fun j hj => by simp [Nat.ne_of_lt hj]) hos]
    simp [tm_cv]
  have kk' : ∀ (a : Nat) (H1 : Heap), va_P D cl (tm_cW tA ad h ++ [(a, tm_cE tA ad q)]) H1 → va_D A (tm_cW tA ad h ++ [(a, tm_cE tA ad q)]) → va_S A H0 H1 locs → W p l e R s m args below meth c H1 locs (cells + 1) (slots + sz) Q (F0 m (pc + tm_len i) ls (.ref a :: st'.map (tm_cv ad))) := by
    intro a H1 h1 h2 h3
    have := kk a H1 (by rw [tm_cW_push hoH hoq]; exact h1) (by rw [tm_cW_push hoH hoq]; exact h2) h3
    rw [hstk a] at this
    exact this
  unfold tm_nw at hh
  split at hh
  · next idx =>
    split at hh
    · next ci _ =>
      cases hh
      obtain ⟨j1, j2, j3, r, hr, hck1, hck2, hck3⟩ := tm_ckI_new hck
      obtain ⟨t1, t2, t3, t4⟩ := hT _ r hr
      have hdf : tm_df cl ty ci = (List.range r.2.2).map (fun k => tm_dv (ty ci k)) := by unfold tm_df; rw [hr]
      have hlen : (tm_df cl ty ci).length = r.2.2 := by rw [hdf]; simp
      rw [hlen] at hs kk'
      refine va_new (C := r.1) (T := r.2.1) (N := r.2.2) (ci := ci) (fs := (tm_df cl ty ci).map (tm_cv ad)) hx hb hts (fun w hw => tm_ws_B (t1 w hw)) (ty ci) t2 hown (hB hck1) (hB hck2) (hB hck3) hK hP hD hS hA hr (fun j hj => ?_) hc hs hd (fun a H1 h1 h2 h3 => kk' a H1 h1 h2 h3)
      rw [hdf]
      simp [vp_V, hj, tm_dv_ok (ad := ad) (t4 j hj)]
    · cases hh
  · next at_ =>
    split at hh
    · next n r t _ =>
      split at hh
      · next hn =>
        cases hh
        obtain ⟨j, hk1, hk2, hk3⟩ := tm_ckI_newa hck
        have hnI : tm_iI n := ⟨by omega, by omega⟩
        have e1 : (Int32.ofInt n).toInt = n := tm_toI hnI
        refine va_newa (a0 := tm_vA n.toNat t (fun _ => 0)) (N' := n.toNat) hx hb (hB hk1) hk2 hK hP hD hS hA (fun cA => ?_) ?_ ?_ ?_ hc hs hd (fun a cA H1 h0 h1 h2 h3 => ?_)
        · rcases (show t = 0 ∨ t = 1 ∨ t = 2 by omega) with rfl | rfl | rfl <;> rfl
        · rw [Int32.lt_iff_toInt_lt, e1, Int32.toInt_zero]; omega
        · rw [Int32.toNatClampNeg, e1]
        · rcases (show t = 0 ∨ t = 1 ∨ t = 2 by omega) with rfl | rfl | rfl <;> simp [tm_aty, componentBytes] <;> omega
        · have hc1 : cA = tA t := by
            have g1 := (h0.2 3 (cA, tm_aty t) rfl).2
            rcases (show t = 0 ∨ t = 1 ∨ t = 2 by omega) with rfl | rfl | rfl
            · exact Option.some.inj (g1.symm.trans (hK.2 0 (tA 0, .int) rfl).2)
            · exact Option.some.inj (g1.symm.trans (hK.2 1 (tA 1, .long) rfl).2)
            · exact Option.some.inj (g1.symm.trans (hK.2 2 (tA 2, .boolean) rfl).2)
          subst hc1
          exact kk' a H1 h1 h2 h3
      · cases hh
    · cases hh
  · cases hh
theorem tm_kc_W (hx : p.tables.exec = Jvm.exec) (hb : c.code = (pg k).2.1) (hown : s.vm.findClass (pg k).2.2.2.2.1 = some m.cls) (hts : ∀ w ∈ tm_ws pg nM (tm_WB T) k, w.before args s = true) {i : tm_J} {xs : List Nat} {z : Int} {st st' : List tm_V} (hd : decode (pg k).2.1 pc = .ok (i, tm_len i)) (hck : tm_ckI pg nM T host cl ty k i xs z = true) (hh : tm_kc i xs z st = some st')
    (kk : W p l e R s m args below meth c H locs cells slots Q (F0 m (pc + tm_len i) ls (st'.map (tm_cv ad)))) : W p l e R s m args below meth c H locs cells slots Q (F0 m pc ls (st.map (tm_cv ad))) := by
  have hB : ∀ {j : Nat} {w : Cond}, tm_inB T j w = true → w.before args s = true := fun hw => hts _ (tm_ws_B (tm_inB_mem hw))
  unfold tm_kc at hh
  split at hh
  · split at hh
    · cases hh
      obtain ⟨j, hck⟩ := tm_ckI_ldc hck
      exact lv_ldc hx hb hown (hB hck) hd kk
    · cases hh
  · split at hh
    · cases hh
      obtain ⟨j, hck⟩ := tm_ckI_ldc2 hck
      exact lv_ldc2 hx hb hown (hB hck) hd kk
    · cases hh
  · cases hh
theorem tm_rt_W (hx : p.tables.exec = Jvm.exec) (hb : c.code = (pg k).2.1) (hr : meth.sig.returnType = (pg k).2.2.2.1) (hlocks : meth.locks = false) {i : tm_J} {st : List tm_V} {v : Option tm_V} (hd : decode (pg k).2.1 pc = .ok (i, tm_len i)) (hh : tm_rt i (tm_mi pg k).2.1 st = some v) {Qc : Array Value → State → Outcome → State → Prop} {free : Addr → Prop}
    (hq : ∀ t : State, t.heap = H → s.WarmedH t.vm → Qc args s (.returned (v.map (tm_cv ad))) t) (hf : ∀ q ∈ locs, free q.base) : W p l e R s m args below meth c H locs cells slots (MQ below Qc args s cells slots free) (F0 m pc ls (st.map (tm_cv ad))) := by
  unfold tm_rt at hh
  split at hh
  · next x =>
    split at hh
    · next hrt =>
      cases hh
      cases hm : (pg k).2.2.2.1 with
      | none => simp [tm_mi, hm] at hrt
      | some t =>
        rw [hm] at hr
        refine W.zret (ty := t) hx hb hr ?_ hq hf hd hlocks
        simp only [tm_mi, hm] at hrt
        rcases hrt with h0 | ⟨h2, h3⟩
        · cases t <;> simp [tm_tyc] at h0 <;> rfl
        · cases t <;> simp [tm_tyc] at h2
          rcases h3 with rfl | rfl <;> decide +kernel
    · cases hh
  · next x =>
    split at hh
    · next hrt =>
      cases hh
      cases hm : (pg k).2.2.2.1 with
      | none => simp [tm_mi, hm] at hrt
      | some t =>
        rw [hm] at hr
        simp only [tm_mi, hm] at hrt
        have ht : t = .long := by cases t <;> simp [tm_tyc] at hrt <;> rfl
        subst ht
        exact W.lret hx hb hr hq hf hd hlocks
    · cases hh
  · split at hh
    · next hrt =>
      cases hh
      cases hm : (pg k).2.2.2.1 with
      | none =>
        rw [hm] at hr
        exact W.vret hx hb hr hq hf hd hlocks
      | some t =>
        simp only [tm_mi, hm] at hrt
        cases t <;> simp [tm_tyc] at hrt
    · cases hh
  · cases hh
end TMT
