/-! Calls of the small machine's methods out of a walk by hand -/
theorem pg_ws_in {y : Nat} (hy : y < pg_n) {w : Cond} (hw : w ∈ tm_ws pg pg_n (tm_WB lw_tbl) y) : w ∈ tm_WB lw_tbl := by
  rcases List.mem_cons.mp hw with rfl | hw
  · exact pg_code_in hy
  · rcases List.mem_append.mp hw with h | h
    · obtain ⟨j, hj, rfl⟩ := List.mem_map.mp h
      exact pg_code_in (List.mem_range.mp hj)
    · exact h
/-- the words of a walk by hand: a code word, then the tables' -/
theorem xg_good {c0 : Cond} {y : Nat} (hy : y < pg_n) : GoodIn (c0 :: tm_WB lw_tbl) (tm_ws pg pg_n (tm_WB lw_tbl) y) := fun w hw =>
  have h := pg_ws_in hy hw
  ⟨List.mem_cons_of_mem _ h, good_of_word (List.mem_filter.mp h).2⟩
/-- a memory whose numbers are in range -/
def okM (M : ev_M) : Prop := tm_okH (hp M)
section XG
variable {p : Program} {l : Launch} {e : Env} {R : Room} {s : State} {m : MethodId} {args : Array Value} {below : List Frame} {meth : Method} {c : Code} {H : Heap} {locs : List Loc} {cells slots : Nat} {Q : State → Prop} {cc : ByteArray} {pc : Nat} {ls : Array Slot} {D : va_G} {A : Nat → Prop} {tA : Nat → ClassId} {ad : Nat → Nat} {nL : Nat} {own : String} {c0 : Cond} {M M1 : ev_M}
theorem hp_len (M : ev_M) : (hp M).length = 47 := rfl
theorem xg_V (hx : p.tables.exec = Jvm.exec) (hb : c.code = cc) (hml : c.maxLocals = nL) (hown : s.vm.findClass own = some m.cls) (hts : ∀ w ∈ c0 :: tm_WB lw_tbl, w.before args s = true) (hnw : ∀ w ∈ tm_WN lw_tbl, va_Nw w s)
    {n y a ci idx j1 j2 j3 j4 na : Nat} {as rest : List tm_V} {fs : List tm_V} {q : vw_C} {v : Option tm_V} (hck : (decide (y < pg_n) && (plainName (pg y).1.cls && (decide ((pg y).1.cls = q.1) && (tm_inB lw_tbl j1 (.instanceMethod (pg y).1) && (tm_inB lw_tbl j2 (.selects q.1 (pg y).1 (pg y).1) && (tm_inB lw_tbl j3 (.initialized q.1) && (tm_inB lw_tbl j4 (.methodLink own idx (pg y).1) && (decide ((pg y).1.cls ≠ "java/lang/invoke/MethodHandle") && (decide ((pg y).1.cls ≠ "java/lang/invoke/VarHandle") && (decide ((parseMethodDescriptor (pg y).1.desc).map (fun d => d.parameters.length) = some na) && (decide ((pg y).2.2.2.2.2.cells = 0) && decide ((pg y).2.2.2.2.2.slots = 0)))))))))))) = true) (hna : as.length = na)
    (hfr : (pg y).2.2.2.2.2.frames + 1 ≤ R.frames) (hlo : 8 + ((pg y).2.2.1 + 11) + (pg y).2.2.2.2.2.locals ≤ R.locals)
    (hK : va_K D pg_cl (tm_tys tA) s) (hP : va_P D pg_cl (tm_cW tA ad (hp M)) H) (hD : va_D A (tm_cW tA ad (hp M))) (hS : va_S A s.heap H locs) (hA : ∀ q, s.heap.size ≤ q → A q) (hok : okM M)
    (hq : pg_cl[ci]? = some q) (hea : (hp M)[a]? = some (.inr (ci, fs)))
    (hrun : ev_r n y 0 (tm_args 0 (.inr (.inr (some a)) :: as)) [] (hp M) = some (v, hp M1)) (hsum : tm_sum (.inr (.inr (some a)) :: as) ≤ (pg y).2.2.1) (has : ∀ w ∈ as, tm_ok 47 w) (hrest : tm_sum rest ≤ 8) (hl : ls.size = nL)
    (hcs : cells ≤ R.cells ∧ slots ≤ R.slots)
    (hd : decode cc pc = .ok (.invokevirtual idx, 3))
    (kk : ∀ (H1 : Heap) (locs1 : List Loc), va_P D pg_cl (tm_cW tA ad (hp M1)) H1 → va_D A (tm_cW tA ad (hp M1)) → va_S A s.heap H1 locs1 → okM M1 → (∀ w ∈ v.toList, tm_ok 47 w) → W p l e R s m args below meth c H1 locs1 cells slots Q (F0 m (pc + 3) ls ((v.toList ++ rest).map (tm_cv ad)))) :
    W p l e R s m args below meth c H locs cells slots Q (F0 m pc ls ((as.reverse ++ .inr (.inr (some a)) :: rest).map (tm_cv ad))) := by
  subst hna
  simp only [Bool.and_eq_true, decide_eq_true_eq] at hck
  obtain ⟨hy, hpl, hcls, hins, hsel, hini, hlink, hn1, hn2, hpar, hz1, hz2⟩ := hck
  have hB : ∀ {j : Nat} {w : Cond}, tm_inB lw_tbl j w = true → w.before args s = true := fun hw => hts _ (List.mem_cons_of_mem _ (tm_inB_mem hw))
  have ha47 : a < 47 := by
    have := (List.getElem?_eq_some_iff.mp hea).1
    rw [hp_len] at this; exact this
  have has' : ∀ w ∈ ((.inr (.inr (some a)) : tm_V) :: as), tm_ok (hp M).length w := by
    intro w hw
    rw [hp_len]
    rcases List.mem_cons.mp hw with rfl | hw
    · exact ha47
    · exact has w hw
  have hr2 : tm_run pg_tb (tm_mi pg) (tm_df pg_cl pg_ty) n y 0 (tm_args 0 (.inr (.inr (some a)) :: as)) [] (hp M) (tm_mi pg y).2.2.1 (tm_mi pg y).2.2.2 = some (v, hp M1) := by
    have e1 : (tm_mi pg y).2.2.1 = 0 := hz1
    have e2 : (tm_mi pg y).2.2.2 = 0 := hz2
    rw [e1, e2]; exact hrun
  obtain ⟨-, g2, g3⟩ := tm_run_ok _ _ _ _ _ _ _ _ _ _ hr2 (tm_args_ok _ _ has') (fun w hw => by cases hw) hok
  have hM := tm_met (pg_sound n) hy hpl (pg_mo y hy) hr2 hsum has' hok l D tA ad H.size
  have hini2 : (Cond.initialized (pg y).1.cls).before args s = true := by rw [hcls]; exact hB hini
  have hpre : ∀ U : State, U.heap = H → s.WarmedH U.vm → tm_Pc D pg_cl tA (tm_WN lw_tbl) ad (hp M) H.size (.inr (.inr (some a)) :: as) ((((.inr (.inr (some a)) : tm_V) :: as).map (tm_cv ad)).toArray) U := fun U hU hW => ⟨rfl, by rw [hU], by rw [hU]; exact hP, va_K.moved hW.alike hK, hD.weaken (fun _ _ _ _ => trivial), fun w hw => tm_nest_warm (List.all_eq_true.mp (tm_WN_nest lw_tbl) w hw) hW (hnw w hw)⟩
  have hstk : (as.reverse ++ .inr (.inr (some a)) :: rest).map (tm_cv ad) = (as.map (tm_cv ad)).reverse ++ .ref (ad a) :: rest.map (tm_cv ad) := by
    rw [List.map_append, List.map_reverse]; rfl
  rw [hstk]
  have hroom : 2 * (F0 m pc ls ((as.map (tm_cv ad)).reverse ++ .ref (ad a) :: rest.map (tm_cv ad))).monitorRoom + ((rest.map (tm_cv ad)).map fun v => v.category).sum ≤ 8 := lv_room (by rw [tm_cat_sum]; exact hrest)
  refine tm_after (va_runV (C := q.1) ⟨hx, hb, hml, hown, hts⟩ hM ⟨callB_of as.length hts (xg_good hy) rfl rfl rfl hini2 (hB hlink) ⟨hn1, hn2, hpar⟩ ⟨hfr, hlo⟩, hB hins, hB hsel⟩ ⟨tm_blind (tm_WN_nest lw_tbl), va_recv hK hP hq (tm_cW_at hea), hpre⟩ rfl (List.length_map ..) hl rfl hroom hd (by rw [hz1, hz2]; exact hcs)) hS hD hA ?_
  intro ad' H1 locs1 d1 d2 d3 d4
  have e1 : tm_cW tA ad' (hp M1) = tm_cW tA ad (hp M1) := tm_cW_ext (fun j hj => d1 j (by rw [hp_len] at hj ⊢; exact hj)) g2
  rw [e1] at d2 d3
  have g3' : ∀ w ∈ v.toList, tm_ok 47 w := fun w hw => by have := g3 w hw; rw [hp_len] at this; exact this
  have e2 : (v.map (tm_cv ad')).toList = v.toList.map (tm_cv ad) := by
    clear kk hrun hr2 hM
    cases v with
    | none => rfl
    | some w => exact congrArg (fun z => [z]) (tm_cv_ext (n := 47) (fun j hj => d1 j (by rw [hp_len]; exact hj)) (g3' w List.mem_cons_self))
  have e3 := kk H1 locs1 d2 d3 d4 g2 g3'
  rw [List.map_append, ← e2] at e3
  rw [hz1, hz2]
  exact e3
end XG
