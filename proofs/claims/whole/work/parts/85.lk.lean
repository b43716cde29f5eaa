/-! The law's beginning: what is known there -/
theorem pg_cl_inst : (pg_cl.all (fun q => decide (Cond.instantiable q.1 q.2.2 ∈ lw_tbl))) = true := by decide +kernel
theorem arr_known {args : Array Value} {s : State} {ty : FieldType} (h : (Cond.arrayClass ty).before args s = true) : ∃ cA, ArrOfT s cA ty ∧ s.vm.findClass ("[" ++ ty.toString) = some cA := by
  obtain ⟨cA, kA, comp, h1, h2, h3⟩ := Cond.arrayClass_spec h
  exact ⟨cA, fun n z => ⟨fun k h => (by cases h), kA, h2, comp, h3⟩, h1⟩
theorem law_classes {s : State} {args : Array Value} (hts : ∀ w ∈ lw_tbl, w.before args s = true) : ∃ D : va_G, ∀ (ci : Nat) (q : vw_C), pg_cl[ci]? = some q → u_Kn s q.1 q.2.1 q.2.2 (D.1 ci) (D.2 ci) := by
  have h1 : ∀ ci : Nat, ∃ d : ClassId × (Nat → Nat), ∀ q : vw_C, pg_cl[ci]? = some q → u_Kn s q.1 q.2.1 q.2.2 d.1 d.2 := by
    intro ci
    cases hq : pg_cl[ci]? with
    | none => exact ⟨(0, fun _ => 0), fun q h => by cases h⟩
    | some q =>
      have hi : Cond.instantiable q.1 q.2.2 ∈ lw_tbl := of_decide_eq_true (List.all_eq_true.mp pg_cl_inst q (List.mem_of_getElem? hq))
      obtain ⟨cC, iS, h⟩ := u_known (T := q.2.1) (N := q.2.2) hts (fun w hw => (List.mem_filter.mp ((pg_ckT ci q hq).1 w hw)).1) (hts _ hi)
      exact ⟨(cC, iS), fun q' h' => by cases h'; exact h⟩
  obtain ⟨f, hf⟩ := Classical.axiomOfChoice h1
  exact ⟨(fun ci => (f ci).1, fun ci => (f ci).2), fun ci q hq => hf ci q hq⟩
set_option maxRecDepth 100000 in
theorem law_arrays {s : State} {args : Array Value} (hts : ∀ w ∈ lw_tbl, w.before args s = true) : ∃ tA : Nat → ClassId, ∀ (k : Nat) (q : ClassId × FieldType), (tm_tys tA)[k]? = some q → ArrOfT s q.1 q.2 ∧ va_RA s q.1 q.2 := by
  obtain ⟨c0, a0, b0⟩ := arr_known (hts (.arrayClass .int) (List.mem_of_getElem? (i := 132) rfl))
  obtain ⟨c1, a1, b1⟩ := arr_known (hts (.arrayClass .long) (List.mem_of_getElem? (i := 160) rfl))
  obtain ⟨c2, a2, b2⟩ := arr_known (hts (.arrayClass .boolean) (List.mem_of_getElem? (i := 913) rfl))
  refine ⟨fun k => if k = 0 then c0 else if k = 1 then c1 else c2, fun k q hk => ?_⟩
  match k, hk with
  | 0, hk => cases hk; exact ⟨a0, b0⟩
  | 1, hk => cases hk; exact ⟨a1, b1⟩
  | 2, hk => cases hk; exact ⟨a2, b2⟩
  | k + 3, hk => cases hk
set_option maxHeartbeats 4000000 in
set_option maxRecDepth 100000 in
theorem law_known {p : Program} {l : Launch} {s : State} {m : MethodId} {meth : Method} {c : Code} {b L : Nat} {xs : Nat → Int32} (hl : l.flags = flags0) (hL : L ≤ 3072) (C0 : lw_At p s m meth c b L xs) (hcd : (Jvm.Cond.code x code maxLocals ret).before #[Value.ref b] s = true) : ∃ (D : va_G) (tA : Nat → ClassId) (q1 q2 q3 : Nat), ∀ ad : Nat → Nat, ad 47 = b → lw_K p l s m meth c b L xs D tA ad q1 q2 q3 := by
  obtain ⟨hx, hb, hr, hml, hown, hts, hX, hbl, hlocks, hgv⟩ := C0
  obtain ⟨D, hD⟩ := law_classes hts
  obtain ⟨tA, hA⟩ := law_arrays hts
  have hs := flat_of_before _ hgv
  have st : ∀ {k : Nat} {tx : String}, (Cond.stringRef "NulledForest" k tx).before #[Value.ref b] s = true → (Cond.exactly (.string "NulledForest" k) "java/lang/String").before #[Value.ref b] s = true → ∃ q : Nat, vk_R "NulledForest" k tx q s := by
    intro k tx h1 h2
    obtain ⟨a, -, -, -, h3, -⟩ := Cond.exactly_spec h2
    exact ⟨a, vk_R.of h1 h3⟩
  obtain ⟨q1, k1⟩ := st (hts (.stringRef "NulledForest" 176 "there are endlessly many trees") (List.mem_of_getElem? (i := 676) rfl)) (hs _ (by decide +kernel))
  obtain ⟨q2, k2⟩ := st (hts (.stringRef "NulledForest" 181 "there is no such tree") (List.mem_of_getElem? (i := 712) rfl)) (hs _ (by decide +kernel))
  obtain ⟨q3, k3⟩ := st (hts (.stringRef "NulledForest" 169 "the row of rules is not so long") (List.mem_of_getElem? (i := 773) rfl)) (hs _ (by decide +kernel))
  have hAs : ∀ a : Nat, a < s.heap.size → ¬ (fun q => s.heap.size ≤ q) a := fun a h h2 => Nat.lt_irrefl _ (Nat.lt_of_lt_of_le h h2)
  refine ⟨D, tA, q1, q2, q3, fun ad had => ⟨hx, hb, hr, hml, hown, fun w hw => ?_, fun w hw => va_Nw.of (tm_nest_tab (List.mem_filter.mp hw).2) (hts w (List.mem_filter.mp hw).1), hX, hbl, hlocks, ⟨hD, hA⟩, ⟨xz.of (hts _ (List.mem_of_getElem? (i := 662) rfl)) (hs _ (by decide +kernel)) hAs, xz.of (hts _ (List.mem_of_getElem? (i := 664) rfl)) (hs _ (by decide +kernel)) hAs⟩, ⟨k1, k2, k3⟩, ⟨va_Nc.of (hs _ (by decide +kernel)), va_Nc.of (hs _ (by decide +kernel)), va_Nc.of (hs _ (by decide +kernel))⟩, hl, hL, had⟩⟩
  rcases List.mem_cons.mp hw with rfl | hw
  · exact hcd
  · exact hts w (List.mem_filter.mp hw).1
