/-! From the small machine to the model: every run -/
/-- runs of at most n steps are the model's -/
def tm_S (pg : Nat → tm_M) (nM : Nat) (T : List Cond) (cl : List vw_C) (ty : Nat → Nat → FieldType) (tb : Nat → Nat → Option tm_I) (n : Nat) : Prop :=
  ∀ (k pc : Nat) (lo : tm_L) (st : List tm_V) (h : tm_H) (bc bs : Nat) (v : Option tm_V) (h' : tm_H), k < nM → tm_run tb (tm_mi pg) (tm_df cl ty) n k pc lo st h bc bs = some (v, h') → (∀ q ∈ lo, tm_ok h.length q.2) → (∀ w ∈ st, tm_ok h.length w) → tm_okH h →
  ∀ (p : Program) (l : Launch) (e : Env) (s : State) (m : MethodId) (args : Array Value) (below : List Frame) (meth : Method) (c : Code) (H : Heap) (locs : List Loc) (cells slots : Nat) (ls : Array Slot) (D : va_G) (A : Nat → Prop) (tA : Nat → ClassId) (ad : Nat → Nat) (Qc : Array Value → State → Outcome → State → Prop),
  p.tables.exec = Jvm.exec → c.code = (pg k).2.1 → c.maxLocals = (pg k).2.2.1 → s.vm.findClass (pg k).2.2.2.2.1 = some m.cls → (∀ w ∈ tm_ws pg nM (tm_WB T) k, w.before args s = true) → (∀ w ∈ tm_WN T, va_Nw w s) → meth.sig.returnType = (pg k).2.2.2.1 → meth.locks = false → meth.name = (pg k).1.name →
  va_K D cl (tm_tys tA) s → va_P D cl (tm_cW tA ad h) H → va_D A (tm_cW tA ad h) → va_S A s.heap H locs → (∀ q, s.heap.size ≤ q → A q) → lv_has ls (pg k).2.2.1 (tm_cL ad lo) → cells + bc = (pg k).2.2.2.2.2.cells → slots + bs = (pg k).2.2.2.2.2.slots →
  (∀ (ad' : Nat → Nat) (t : State), (∀ j, j < h.length → ad' j = ad j) → va_P D cl (tm_cW tA ad' h') t.heap → va_D A (tm_cW tA ad' h') → va_F A s t → Qc args s (.returned (v.map (tm_cv ad'))) t) →
  W p l e (pg k).2.2.2.2.2 s m args below meth c H locs cells slots (MQ below Qc args s (pg k).2.2.2.2.2.cells (pg k).2.2.2.2.2.slots A) (F0 m pc ls (st.map (tm_cv ad)))
section TMU
variable {pg : Nat → tm_M} {nM : Nat} {T : List Cond} {host : String} {cl : List vw_C} {ty : Nat → Nat → FieldType} {tb : Nat → Nat → Option tm_I}
/-- the contract of a method out of its runs -/
theorem tm_met {n : Nat} (hS : tm_S pg nM T cl ty tb n) {y : Nat} (hy : y < nM) (hpl : plainName (pg y).1.cls = true) (hmo : (pg y).1.cls = (pg y).2.2.2.2.1) {as : List tm_V} {h h' : tm_H} {v : Option tm_V} (hr : tm_run tb (tm_mi pg) (tm_df cl ty) n y 0 (tm_args 0 as) [] h (tm_mi pg y).2.2.1 (tm_mi pg y).2.2.2 = some (v, h')) (hsum : tm_sum as ≤ (pg y).2.2.1) (has : ∀ w ∈ as, tm_ok h.length w) (hok : tm_okH h)
    (l : Launch) (D : va_G) (tA : Nat → ClassId) (ad : Nat → Nat) (sz : Nat) : Met l (pg y).1 (tm_ws pg nM (tm_WB T) y) (pg y).2.2.2.2.2 (tm_Pc D cl tA (tm_WN T) ad h sz as) (tm_Qc D cl tA ad h sz v h') (pg y).2.2.2.2.2.cells (pg y).2.2.2.2.2.slots (va_A (tm_cW tA ad h) sz) := by
  refine Met.ofW (cc := (pg y).2.1) (maxL := (pg y).2.2.1) (ret := (pg y).2.2.2.1) hpl rfl ?_
  intro p e s m args below meth c s₁ B hml hv
  obtain ⟨rfl, hsz, hP, hK, hD0, hN⟩ := hv
  have hts := atoms_spec (ws := tm_ws pg nM (tm_WB T) y) B.pre
  have hown : s.vm.findClass (pg y).2.2.2.2.1 = some m.cls := by rw [← hmo]; exact findClass_of_methodNamed B.named
  subst hsz
  have hD := hD0.self (sz := s.heap.size)
  have hl := lv_entry (as.map (tm_cv ad)) (n := (pg y).2.2.1) (by rw [tm_sl_len]; exact hsum)
  rw [lg_entry_eq]
  rw [tm_args_cv] at hl
  refine hS y 0 (tm_args 0 as) [] h _ _ v h' hy hr (tm_args_ok _ _ has) (fun w hw => by cases hw) hok p l e s m _ below meth c s.heap [] 0 0 _ D (va_A (tm_cW tA ad h) s.heap.size) tA ad _ B.exec B.bytes hml hown hts hN B.returns B.notSynchronized (name_of_methodNamed B.named B.method).1 hK hP hD va_S.rf (fun q hq => Or.inr hq) hl (Nat.zero_add _) (Nat.zero_add _) ?_
  intro ad' t h1 h2 h3 h4
  exact ⟨⟨ad', h1, rfl, h2, h3⟩, h4⟩
set_option maxHeartbeats 1000000 in
/-- every run of the small machine is one of the model's -/
theorem tm_sound (hT : tm_ckT T cl ty) (hmo : ∀ k, k < nM → (pg k).1.cls = (pg k).2.2.2.2.1) (hCk : ∀ (k pc : Nat) (i : tm_J) (xs : List Nat) (z : Int), k < nM → tb k pc = some (i, xs, z) → tm_ck pg nM T host cl ty k pc i xs z = true) : ∀ n, tm_S pg nM T cl ty tb n := by
  intro n
  induction n with
  | zero => intro k pc lo st h bc bs v h' hk hr; simp [tm_run] at hr
  | succ n ih =>
    intro k pc lo st h bc bs v h' hk hr hlo hst ho p l e s m args below meth c H locs cells slots ls D A tA ad Qc hx hb hml hown hts hnw hret hlocks hname hK hP hD hS hA hl hcells hslots hQ
    have hB : ∀ {j : Nat} {w : Cond}, tm_inB T j w = true → w.before args s = true := fun hw => hts _ (tm_ws_B (tm_inB_mem hw))
    have hN2 : ∀ {j : Nat} {w : Cond}, tm_inN T j w = true → va_Nw w s := fun hw => hnw _ (tm_inN_mem hw)
    have hG := tm_WB_good T
    have hWN := tm_WN_nest T
    unfold tm_run at hr
    split at hr
    · cases hr
    · next i xs z hi =>
      have hck0 := hCk k pc i xs z hk hi
      unfold tm_ck at hck0
      simp only [Bool.and_eq_true, decide_eq_true_eq] at hck0
      obtain ⟨hd, hck⟩ := hck0
      split at hr
      · split at hr
        · next st' e1 =>
          exact tm_pu_W hx hb hd e1 hst (ih _ _ _ _ _ _ _ _ _ hk hr hlo (tm_pu_ok e1 hst) ho p l e s m args below meth c H locs cells slots ls D A tA ad Qc hx hb hml hown hts hnw hret hlocks hname hK hP hD hS hA hl hcells hslots hQ)
        · cases hr
      · split at hr
        · next lo' st' e1 =>
          obtain ⟨a1, a2⟩ := tm_lo_ok e1 hlo hst
          exact tm_lo_W hx hb hd e1 hl (fun ls' hl' => ih _ _ _ _ _ _ _ _ _ hk hr a1 a2 ho p l e s m args below meth c H locs cells slots ls' D A tA ad Qc hx hb hml hown hts hnw hret hlocks hname hK hP hD hS hA hl' hcells hslots hQ)
        · cases hr
      · split at hr
        · next pc' st' e1 =>
          exact tm_br_W hx hb hd e1 hst (ih _ _ _ _ _ _ _ _ _ hk hr hlo (tm_br_ok e1 hst) ho p l e s m args below meth c H locs cells slots ls D A tA ad Qc hx hb hml hown hts hnw hret hlocks hname hK hP hD hS hA hl hcells hslots hQ)
        · cases hr
      · split at hr
        · next st' h1 e1 =>
          obtain ⟨a1, a2, a3⟩ := tm_hp_ok e1 hst ho
          refine tm_hp_W hx hb hown hts hnw hname hT hK hP hD hS hd hck e1 hst ho (fun H1 locs1 b1 b2 b3 => ?_)
          refine ih _ _ _ _ _ _ _ _ _ hk hr (by rw [a1]; exact hlo) (by rw [a1]; exact a3) a2 p l e s m args below meth c H1 locs1 cells slots ls D A tA ad Qc hx hb hml hown hts hnw hret hlocks hname hK b1 b2 b3 hA hl hcells hslots ?_
          rw [a1]
          exact hQ
        · cases hr
      · split at hr
        · next st' q sz e1 =>
          split at hr
          · next hbud =>
            obtain ⟨a1, a2⟩ := tm_nw_ok (n := h.length) e1 hst
            have hlen : (h ++ [q]).length = h.length + 1 := by simp
            refine tm_nw_W hx hb hown hts hT hK hP hD hS hA hd hck e1 hst ho (by omega) (by omega) (fun a H1 b1 b2 b3 => ?_)
            have hx0 : ∀ j, j < h.length → (fun j => if j = h.length then a else ad j) j = ad j := fun j hj => by simp [Nat.ne_of_lt hj]
            refine ih _ _ _ _ _ _ _ _ _ hk hr (fun x hx => tm_ok_mono (by omega) (hlo x hx)) (fun x hx => by
              rcases List.mem_cons.mp hx with rfl | hx
              · show h.length < _; omega
              · exact tm_ok_mono (by omega) (a2 x hx)) (tm_okH_push ho a1) p l e s m args below meth c H1 locs (cells + 1) (slots + sz) ls D A tA _ Qc hx hb hml hown hts hnw hret hlocks hname hK b1 b2 b3 hA (by rw [tm_cL_ext hx0 hlo]; exact hl) (by omega) (by omega) ?_
            intro ad' t c1 c2 c3 c4
            exact hQ ad' t (fun j hj => (c1 j (by omega)).trans (hx0 j hj)) c2 c3 c4
          · cases hr
        · cases hr
      · split at hr
        · next st' e1 =>
          exact tm_kc_W hx hb hown hts hd hck e1 (ih _ _ _ _ _ _ _ _ _ hk hr hlo (tm_kc_ok e1 hst) ho p l e s m args below meth c H locs cells slots ls D A tA ad Qc hx hb hml hown hts hnw hret hlocks hname hK hP hD hS hA hl hcells hslots hQ)
        · cases hr
      · split at hr
        · next w e1 =>
          cases hr
          refine W.widen (k := (pg k).2.2.2.2.2.cells) (n := (pg k).2.2.2.2.2.slots) (by omega) (by omega) ?_
          exact tm_rt_W hx hb hret hlocks hd e1 (fun t ht hW => hQ ad t (fun _ _ => rfl) (by rw [ht]; exact hP) hD (hS.F ht)) hS.2.2
        · cases hr
      · next hkd =>
        split at hr
        · next y na xs' =>
          split at hr
          · next hc =>
            obtain ⟨hna, hsum, hbc, hbs, hargs, hrc⟩ := hc
            split at hr
            · next v1 h1 e1 =>
              have has : ∀ w ∈ (st.take na).reverse, tm_ok h.length w := fun w hw => hst w (List.mem_of_mem_take (List.mem_reverse.mp hw))
              obtain ⟨g1, g2, g3⟩ := tm_run_ok _ _ _ _ _ _ _ _ _ _ e1 (tm_args_ok _ _ has) (fun w hw => by cases hw) ho
              -- what comes behind the call
              have kk : ∀ (ad' : Nat → Nat) (H1 : Heap) (locs1 : List Loc), (∀ j, j < h.length → ad' j = ad j) → va_P D cl (tm_cW tA ad' h1) H1 → va_D A (tm_cW tA ad' h1) → va_S A s.heap H1 locs1 → W p l e (pg k).2.2.2.2.2 s m args below meth c H1 locs1 (cells + (tm_mi pg y).2.2.1) (slots + (tm_mi pg y).2.2.2) (MQ below Qc args s (pg k).2.2.2.2.2.cells (pg k).2.2.2.2.2.slots A) (F0 m (pc + 3) ls ((v1.map (tm_cv ad')).toList ++ (st.drop na).map (tm_cv ad))) := by
                intro ad' H1 locs1 d1 d2 d3 d4
                have e2 : (v1.map (tm_cv ad')).toList ++ (st.drop na).map (tm_cv ad) = (v1.toList ++ st.drop na).map (tm_cv ad') := by
                  rw [List.map_append, tm_cvs_ext d1 (fun w hw => hst w (List.mem_of_mem_drop hw))]
                  cases v1 <;> rfl
                rw [e2]
                refine ih _ _ _ _ _ _ _ _ _ hk hr (fun x hx => tm_ok_mono g1 (hlo x hx)) (fun x hx => by
                  rcases List.mem_append.mp hx with h2 | h2
                  · exact g3 x h2
                  · exact tm_ok_mono g1 (hst x (List.mem_of_mem_drop h2))) g2 p l e s m args below meth c H1 locs1 _ _ ls D A tA ad' Qc hx hb hml hown hts hnw hret hlocks hname hK d2 d3 d4 hA (by rw [tm_cL_ext d1 hlo]; exact hl) (by omega) (by omega) ?_
                intro ad2 t c1 c2 c3 c4
                exact hQ ad2 t (fun j hj => (c1 j (by omega)).trans (d1 j hj)) c2 c3 c4
              have hroom : 2 * (F0 m pc ls (st.map (tm_cv ad))).monitorRoom + (((st.drop na).map (tm_cv ad)).map fun v => v.category).sum ≤ 8 := lv_room (by rw [tm_cat_sum]; exact hsum)
              have hpre : ∀ U : State, U.heap = H → s.WarmedH U.vm → tm_Pc D cl tA (tm_WN T) ad h H.size (st.take na).reverse (((st.take na).reverse.map (tm_cv ad)).toArray) U := fun U hU hW => ⟨rfl, by rw [hU], by rw [hU]; exact hP, va_K.moved hW.alike hK, hD.weaken (fun _ _ _ _ => trivial), fun w hw => tm_nest_warm (List.all_eq_true.mp hWN w hw) hW (hnw w hw)⟩
              have hsplit : st.map (tm_cv ad) = ((st.take na).reverse.map (tm_cv ad)).reverse ++ (st.drop na).map (tm_cv ad) := by
                rw [← List.map_reverse, List.reverse_reverse, ← List.map_append, List.take_append_drop]
              have hlenT : (st.take na).reverse.length = na := by simp; omega
              have hGI : y < nM → GoodIn (tm_ws pg nM (tm_WB T) k) (tm_ws pg nM (tm_WB T) y) := fun hy => tm_goodIn hG hy
              have hf : cells + (tm_mi pg y).2.2.1 ≤ (pg k).2.2.2.2.2.cells ∧ slots + (tm_mi pg y).2.2.2 ≤ (pg k).2.2.2.2.2.slots := ⟨by omega, by omega⟩
              have hargs : tm_sum (st.take na).reverse ≤ (pg y).2.2.1 := by
                have e9 : tm_sum (st.take na).reverse = tm_sum (st.take na) := by unfold tm_sum; rw [List.map_reverse, List.sum_reverse]
                rw [e9]; exact hargs
              unfold tm_rc at hrc
              split at hrc
              · next idx =>
                split at hrc
                · next a as' _ _ ci _ has' hxs =>
                  split at hrc
                  · next cj fs ea =>
                    have hcj : cj = ci := eq_of_beq hrc
                    subst hcj
                    cases hxs
                    obtain ⟨j1, j2, j3, j4, q, hq, hna0, hcC, hcls, hins, hsel, hini, hlink⟩ := tm_ckI_V hck
                    simp only [Bool.and_eq_true, decide_eq_true_eq, tm_ckC] at hcC
                    obtain ⟨hy, hfr, hloc, hn1, hn2, hpar, hpl⟩ := hcC
                    simp only [tm_ckM, Bool.or_eq_true] at hlink
                    have hM := tm_met ih hy hpl (hmo y hy) e1 hargs has ho l D tA ad H.size
                    rw [has'] at hM hpre hsplit hlenT
                    have hst2 : st.map (tm_cv ad) = (as'.map (tm_cv ad)).reverse ++ .ref (ad a) :: (st.drop na).map (tm_cv ad) := by
                      rw [hsplit, List.map_cons, List.reverse_cons, List.append_assoc]; rfl
                    have hlen2 : (as'.map (tm_cv ad)).length = na - 1 := by rw [List.length_map]; rw [List.length_cons] at hlenT; omega
                    have hini2 : (Cond.initialized (pg y).1.cls).before args s = true := by rw [hcls]; exact hB hini
                    rcases hlink with hlink | hlink
                    · exact tm_after (va_runV (C := q.1) ⟨hx, hb, hml, hown, hts⟩ hM ⟨callB_of (na - 1) hts (hGI hy) rfl rfl rfl hini2 (hB hlink) ⟨hn1, hn2, hpar⟩ ⟨hfr, hloc⟩, hB hins, hB hsel⟩ ⟨tm_blind hWN, va_recv hK hP hq (tm_cW_at ea), hpre⟩ rfl hlen2 hl.1 hst2 hroom hd hf) hS hD hA kk
                    · exact tm_after (va_runVN (C := q.1) ⟨hx, hb, hml, hown, hts⟩ hM ⟨va_cnB (na - 1) hts (hGI hy) rfl rfl rfl (hN2 hlink) hini2 ⟨hn1, hn2, hpar⟩ ⟨hfr, hloc⟩, hB hins, hB hsel⟩ ⟨tm_blind hWN, va_recv hK hP hq (tm_cW_at ea), hpre⟩ rfl hlen2 hl.1 hst2 hroom hd hf) hS hD hA kk
                  · cases hrc
                · cases hrc
              · next idx =>
                split at hrc
                · next a as' has' =>
                  obtain ⟨j1, j2, j3, hna0, hcC, hnm, hrn, hins, hini, hlink⟩ := tm_ckI_I hkd hck
                  simp only [Bool.and_eq_true, decide_eq_true_eq, tm_ckC] at hcC
                  obtain ⟨hy, hfr, hloc, hn1, hn2, hpar, hpl⟩ := hcC
                  simp only [tm_ckM, Bool.or_eq_true] at hlink
                  have hM := tm_met ih hy hpl (hmo y hy) e1 hargs has ho l D tA ad H.size
                  rw [has'] at hM hpre hsplit hlenT
                  have hst2 : st.map (tm_cv ad) = (as'.map (tm_cv ad)).reverse ++ .ref (ad a) :: (st.drop na).map (tm_cv ad) := by
                    rw [hsplit, List.map_cons, List.reverse_cons, List.append_assoc]; rfl
                  have hlen2 : (as'.map (tm_cv ad)).length = na - 1 := by rw [List.length_map]; rw [List.length_cons] at hlenT; omega
                  have hwsn : tm_ws pg nM (tm_WB T) y = Cond.code (pg y).1 (pg y).2.1 (pg y).2.2.1 none :: ((List.range nM).map (tm_cd1 pg) ++ tm_WB T) := by unfold tm_ws tm_cd1; rw [hrn]
                  rcases hlink with hlink | hlink
                  · exact tm_after (va_runI ⟨hx, hb, hml, hown, hts⟩ hM ⟨callB_of (na - 1) hts (hGI hy) hwsn rfl rfl (hB hini) (hB hlink) ⟨hn1, hn2, hpar⟩ ⟨hfr, hloc⟩, hnm, hB hins⟩ ⟨tm_blind hWN, hpre⟩ rfl hlen2 hl.1 hst2 hroom hd hf) hS hD hA kk
                  · exact tm_after (va_runIN ⟨hx, hb, hml, hown, hts⟩ hM ⟨va_cnB (na - 1) hts (hGI hy) hwsn rfl rfl (hN2 hlink) (hB hini) ⟨hn1, hn2, hpar⟩ ⟨hfr, hloc⟩, hnm, hB hins⟩ ⟨tm_blind hWN, hpre⟩ rfl hlen2 hl.1 hst2 hroom hd hf) hS hD hA kk
                · cases hrc
              · next idx =>
                obtain ⟨j1, j2, j3, hcC, hstt, hini, hlink⟩ := tm_ckI_S hck
                simp only [Bool.and_eq_true, decide_eq_true_eq, tm_ckC] at hcC
                obtain ⟨hy, hfr, hloc, hn1, hn2, hpar, hpl⟩ := hcC
                simp only [tm_ckM, Bool.or_eq_true] at hlink
                have hM := tm_met ih hy hpl (hmo y hy) e1 hargs has ho l D tA ad H.size
                have hlen2 : ((st.take na).reverse.map (tm_cv ad)).length = na := by rw [List.length_map]; exact hlenT
                rcases hlink with hlink | hlink
                · exact tm_after (va_runS ⟨hx, hb, hml, hown, hts⟩ hM ⟨callB_of na hts (hGI hy) rfl rfl rfl (hB hini) (hB hlink) ⟨hn1, hn2, hpar⟩ ⟨hfr, hloc⟩, hB hstt⟩ ⟨tm_blind hWN, hpre⟩ rfl hlen2 hl.1 hsplit hroom hd hf) hS hD hA kk
                · exact tm_after (va_runSN ⟨hx, hb, hml, hown, hts⟩ hM ⟨va_cnB na hts (hGI hy) rfl rfl rfl (hN2 hlink) (hB hini) ⟨hn1, hn2, hpar⟩ ⟨hfr, hloc⟩, hB hstt, trivial⟩ ⟨tm_blind hWN, hpre⟩ rfl hlen2 hl.1 hsplit hroom hd hf) hS hD hA kk
              · cases hrc
            · cases hr
          · cases hr
        · cases hr
      · next hkd =>
        split at hr
        · next a r =>
          split at hr
          · next hsum =>
            unfold tm_kd at hkd
            split at hkd <;> first | (cases hkd; done) | skip
            split at hkd
            · next idx =>
              obtain ⟨q1, q2, q3, q4, q5⟩ := tm_ckI_O hck
              refine W.objInit hx hb hown (hB q1) (hB q2) (hB q3) rfl (by rw [hml]; exact hl.1) rfl hd q4 ?_ (ih _ _ _ _ _ _ _ _ _ hk hr hlo (fun w hw => hst w (by simp [hw])) ho p l e s m args below meth c H locs cells slots ls D A tA ad Qc hx hb hml hown hts hnw hret hlocks hname hK hP hD hS hA hl hcells hslots hQ)
              have := lv_room (m := m) (pc := pc) (ls := ls) (rest := ((.inr (.inr (some a)) : tm_V) :: r).map (tm_cv ad)) (st := r.map (tm_cv ad)) (by rw [tm_cat_sum]; exact hsum)
              omega
            · cases hkd
          · cases hr
        · cases hr
      · cases hr
end TMU
