/-! The constructors' memories -/
def rfB (n : Nat) (v : tm_V) : Bool := match v with
  | .inr (.inr (some k)) => decide (k < n)
  | _ => true
def cfB (n : Nat) (q : tm_C) : Bool := match q with
  | .inl _ => true
  | .inr (_, fs) => fs.all (rfB n)
theorem rfB_ok {m n : Nat} {v : tm_V} (h : tm_ok m v) (hb : rfB n v = true) : tm_ok n v := by
  unfold rfB at hb
  split at hb
  · next k => exact (of_decide_eq_true hb : k < n)
  · next hne =>
    match v, h, hne with
    | .inl x, h, _ => exact h
    | .inr (.inl x), h, _ => exact h
    | .inr (.inr none), h, _ => exact h
    | .inr (.inr (some k)), _, hne => exact absurd rfl (hne k)
theorem cfB_ok {m n : Nat} {q : tm_C} (h : tm_okC m q) (hb : cfB n q = true) : tm_okC n q := by
  match q, h, hb with
  | .inl (t, z, f), h, _ => exact h
  | .inr (ci, fs), h, hb => exact fun v hv => rfB_ok (h v hv) (List.all_eq_true.mp hb v hv)
theorem okH_take {h : tm_H} {n : Nat} (ho : tm_okH h) (hn : (h.take n).length = n) (hb : (h.take n).all (cfB n) = true) : tm_okH (h.take n) := by
  intro q hq
  rw [hn]
  exact cfB_ok (ho q (List.mem_of_mem_take hq)) (List.all_eq_true.mp hb q hq)
set_option maxRecDepth 100000 in
theorem okH_30 {M : ev_M} (ho : okM M) : tm_okH ((hp M).take 30) := okH_take ho rfl rfl
set_option maxRecDepth 100000 in
theorem okH_46 {M : ev_M} (ho : okM M) : tm_okH ((hp M).take 46) := okH_take ho rfl rfl
theorem ok_zI {n : Nat} : tm_ok n (.inl 0) := ⟨by omega, by omega⟩
theorem ok_zL {n : Nat} : tm_ok n (.inr (.inl 0)) := ⟨by omega, by omega⟩
set_option maxHeartbeats 4000000 in
theorem okM_of {M : ev_M} (h1 : ∀ k, tm_iI (M.1 k)) (h2 : ∀ k j, tm_iI (M.2 k j)) : okM M := by
  have h1L : ∀ k, tm_iL (M.1 k) := fun k => ⟨by have := (h1 k).1; omega, by have := (h1 k).2; omega⟩
  have h2L : ∀ k j, tm_iL (M.2 k j) := fun k j => ⟨by have := (h2 k j).1; omega, by have := (h2 k j).2; omega⟩
  intro q hq
  have ho : ∀ (ci : Nat) (fs : List tm_V), (∀ v ∈ fs, (∃ k, v = .inl (M.1 k)) ∨ (∃ k, v = .inr (.inl (M.1 k))) ∨ ∃ k, k < 47 ∧ v = .inr (.inr (some k))) → tm_okC 47 (.inr (ci, fs)) := by
    intro ci fs hf v hv
    rcases hf v hv with ⟨k, rfl⟩ | ⟨k, rfl⟩ | ⟨k, hk, rfl⟩
    · exact h1 k
    · exact h1L k
    · exact hk
  have ha : ∀ (t n k : Nat), tm_okC 47 (.inl (t, n, M.2 k)) := by
    intro t n k j
    by_cases ht : t = 1
    · simp only [ht, if_true]; exact h2L k j
    · simp only [ht, if_false]; exact h2 k j
  rw [hp_len]
  simp only [hp, List.mem_cons, List.not_mem_nil, or_false] at hq
  rcases hq with rfl | rfl | rfl | rfl | rfl | rfl | rfl | rfl | rfl | rfl | rfl | rfl | rfl | rfl | rfl | rfl | rfl | rfl | rfl | rfl | rfl | rfl | rfl | rfl | rfl | rfl | rfl | rfl | rfl | rfl | rfl | rfl | rfl | rfl | rfl | rfl | rfl | rfl | rfl | rfl | rfl | rfl | rfl | rfl | rfl | rfl | rfl
  all_goals first
    | exact ha _ _ _
    | (refine ho _ _ (fun v hv => ?_)
       simp only [List.mem_cons, List.not_mem_nil, or_false] at hv
       rcases hv with rfl | rfl | rfl <;> first | exact Or.inl ⟨_, rfl⟩ | exact Or.inr (Or.inl ⟨_, rfl⟩) | exact Or.inr (Or.inr ⟨_, by decide, rfl⟩))
    | (refine ho _ _ (fun v hv => ?_)
       simp only [List.mem_cons, List.not_mem_nil, or_false] at hv
       rcases hv with rfl | rfl | rfl | rfl <;> first | exact Or.inl ⟨_, rfl⟩ | exact Or.inr (Or.inl ⟨_, rfl⟩) | exact Or.inr (Or.inr ⟨_, by decide, rfl⟩))
    | (refine ho _ _ (fun v hv => ?_)
       simp only [List.mem_cons, List.not_mem_nil, or_false] at hv
       rcases hv with rfl | rfl | rfl | rfl | rfl | rfl <;> first | exact Or.inl ⟨_, rfl⟩ | exact Or.inr (Or.inl ⟨_, rfl⟩) | exact Or.inr (Or.inr ⟨_, by decide, rfl⟩))
    | (refine ho _ _ (fun v hv => ?_)
       simp only [List.mem_cons, List.not_mem_nil, or_false] at hv
       rcases hv with rfl | rfl | rfl | rfl | rfl | rfl | rfl <;> first | exact Or.inl ⟨_, rfl⟩ | exact Or.inr (Or.inl ⟨_, rfl⟩) | exact Or.inr (Or.inr ⟨_, by decide, rfl⟩))
    | (refine ho _ _ (fun v hv => ?_)
       simp only [List.mem_cons, List.not_mem_nil, or_false] at hv
       rcases hv with rfl | rfl | rfl | rfl | rfl | rfl | rfl | rfl <;> first | exact Or.inl ⟨_, rfl⟩ | exact Or.inr (Or.inl ⟨_, rfl⟩) | exact Or.inr (Or.inr ⟨_, by decide, rfl⟩))
    | (refine ho _ _ (fun v hv => ?_)
       simp only [List.mem_cons, List.not_mem_nil, or_false] at hv
       rcases hv with rfl | rfl | rfl | rfl | rfl | rfl | rfl | rfl | rfl <;> first | exact Or.inl ⟨_, rfl⟩ | exact Or.inr (Or.inl ⟨_, rfl⟩) | exact Or.inr (Or.inr ⟨_, by decide, rfl⟩))
    | (refine ho _ _ (fun v hv => ?_)
       simp only [List.mem_cons, List.not_mem_nil, or_false] at hv
       rcases hv with rfl | rfl | rfl | rfl | rfl | rfl | rfl | rfl | rfl | rfl <;> first | exact Or.inl ⟨_, rfl⟩ | exact Or.inr (Or.inl ⟨_, rfl⟩) | exact Or.inr (Or.inr ⟨_, by decide, rfl⟩))
    | (refine ho _ _ (fun v hv => ?_)
       simp only [List.mem_cons, List.not_mem_nil, or_false] at hv
       rcases hv with rfl | rfl | rfl | rfl | rfl | rfl | rfl | rfl | rfl | rfl | rfl | rfl | rfl | rfl | rfl | rfl | rfl | rfl | rfl | rfl | rfl | rfl | rfl | rfl | rfl | rfl | rfl | rfl | rfl | rfl | rfl <;> first | exact Or.inl ⟨_, rfl⟩ | exact Or.inr (Or.inl ⟨_, rfl⟩) | exact Or.inr (Or.inr ⟨_, by decide, rfl⟩))
theorem okM0 : okM M0 := okM_of (fun _ => ⟨by show -2147483648 ≤ (0 : Int); omega, by show (0 : Int) < 2147483648; omega⟩) (fun _ _ => ⟨by show -2147483648 ≤ (0 : Int); omega, by show (0 : Int) < 2147483648; omega⟩)
set_option maxRecDepth 100000 in
theorem okM_mrg {M : ev_M} (ho : okM M) : okM (mrg M) := by
  have e : hp (mrg M) = (hp M).take 30 ++ (hp M0).drop 30 := rfl
  intro q hq
  rw [e] at hq
  rcases List.mem_append.mp hq with h | h
  · exact ho q (List.mem_of_mem_take h)
  · exact okM0 q (List.mem_of_mem_drop h)
set_option maxRecDepth 100000 in
set_option maxHeartbeats 4000000 in
/-- the class's constructor: the cells, then the first automaton -/
theorem ctor_x {Q : ev_M → Prop} (h : m19 M0 (fun _ M1 => Q M1)) : ∃ M1 : ev_M, Q M1 ∧ okM M1 ∧ rv 62 0 [(0, rR 0)] [] [.inr (7, tm_df pg_cl pg_ty 7)] 29 4514 (none, (hp M1).take 30) := by
  obtain ⟨n, v, M1, hr, w, rfl, hq⟩ := h
  have hlo : ∀ q ∈ ([(0, .inr (.inr (some 5)))] : tm_L), tm_ok 30 q.2 := fun q hq => by rw [List.mem_singleton.mp hq]; show 5 < 30; decide
  have hok1 : okM M1 := (okM_run hr (fun q hq => tm_ok_mono (by decide) (hlo q hq)) okM0).1
  have hr' : tm_run pg_tb (tm_mi pg) (tm_df pg_cl pg_ty) n 19 0 [(0, .inr (.inr (some 5)))] [] ((hp M0).take 30 ++ (hp M0).drop 30) 0 0 = some (some (.inl w), hp M1) := by rw [List.take_append_drop]; exact hr
  obtain ⟨h', r1, r2, r3⟩ := tm_frame ((hp M0).drop 30) n 19 0 _ [] ((hp M0).take 30) 0 _ _ hr' hlo (fun v hv => by cases hv) (okH_30 okM0)
  have e1 : h' = (hp M1).take 30 := by
    rw [r2, List.take_append_of_le_length (by rw [r3]; decide), List.take_of_length_le (by rw [r3]; decide)]
  refine ⟨M1, hq, hok1, ctor_x0 ?_⟩
  rw [ctor_xh]
  refine rv_call (as := [rR 5]) (rest := []) (v := some (.inl w)) (h' := (hp M1).take 30) (mc := 0) (ms := 0) (pc' := 136) rfl rfl rfl rfl rfl rfl (by decide) (by decide) ⟨by decide, by decide⟩ (by decide) rfl ⟨n, by rw [← e1]; exact r1⟩ ?_
  refine rv_pu (st' := []) (pc' := 137) rfl rfl rfl rfl ?_
  exact rv_rt rfl rfl rfl
set_option maxRecDepth 100000 in
set_option maxHeartbeats 4000000 in
/-- the model's constructor: the cells, then the first automaton -/
theorem ctor_m {M1 : ev_M} (hok1 : okM M1) {Q : ev_M → Prop} (h : m91 (mrg M1) (fun _ M2 => Q M2)) (hok : okM (mrg M1)) : ∃ M2 : ev_M, Q M2 ∧ okM M2 ∧ hp M2 = (hp M2).take 46 ++ [.inl (1, 1, rZ)] ∧ rv 92 0 [(0, rR 30)] [] ((hp M1).take 30 ++ [.inr (8, tm_df pg_cl pg_ty 8)]) 15 6480 (none, (hp M2).take 46) := by
  obtain ⟨n, v, M2, hr, w, rfl, hq⟩ := h
  have hlo : ∀ q ∈ ([(0, .inr (.inr (some 30)))] : tm_L), tm_ok 46 q.2 := fun q hq => by rw [List.mem_singleton.mp hq]; show 30 < 46; decide
  have hok2 : okM M2 := (okM_run hr (fun q hq => tm_ok_mono (by decide) (hlo q hq)) hok).1
  have hr' : tm_run pg_tb (tm_mi pg) (tm_df pg_cl pg_ty) n 91 0 [(0, .inr (.inr (some 30)))] [] ((hp (mrg M1)).take 46 ++ (hp (mrg M1)).drop 46) 0 0 = some (some (.inl w), hp M2) := by rw [List.take_append_drop]; exact hr
  obtain ⟨h', r1, r2, r3⟩ := tm_frame ((hp (mrg M1)).drop 46) n 91 0 _ [] ((hp (mrg M1)).take 46) 0 _ _ hr' hlo (fun v hv => by cases hv) (okH_46 hok)
  have l46 : ((hp (mrg M1)).take 46).length = 46 := rfl
  have e1 : h' = (hp M2).take 46 := by
    rw [r2, List.take_append_of_le_length (by rw [r3, l46]; exact Nat.le_refl _), List.take_of_length_le (by rw [r3, l46]; exact Nat.le_refl _)]
  refine ⟨M2, hq, hok2, ?_, ?_⟩
  · rw [← e1, r2]; rfl
  · refine ctor_m0 M1 ?_
    rw [ctor_mh]
    refine rv_call (as := [rR 30]) (rest := []) (v := some (.inl w)) (h' := (hp M2).take 46) (mc := 0) (ms := 0) (pc' := 136) rfl rfl rfl rfl rfl rfl (by decide) (by decide) ⟨by decide, by decide⟩ (by decide) rfl ⟨n, by rw [← e1]; exact r1⟩ ?_
    refine rv_pu (st' := []) (pc' := 137) rfl rfl rfl rfl ?_
    exact rv_rt rfl rfl rfl
