/-! Arrays.fill over a row of the memory -/
/-- the first n places of a row are x -/
def ev_fl (M : ev_M) (a n : Nat) (x : Int) : ev_M := (M.1, fun b => if b = a then (fun j => if j < n then x else M.2 a j) else M.2 b)
theorem ev_fl0 (M : ev_M) (a : Nat) (x : Int) : ev_fl M a 0 x = M := by
  unfold ev_fl
  refine Prod.ext rfl ?_
  funext b
  by_cases h : b = a
  · subst h; simp
  · simp [h]
theorem ev_flS (M : ev_M) (a n : Nat) (x : Int) : ev_sA (ev_fl M a n x) a n x = ev_fl M a (n + 1) x := by
  unfold ev_fl ev_sA
  refine Prod.ext rfl ?_
  funext b
  by_cases h : b = a
  · subst h
    simp only [if_true]
    funext j
    unfold tm_up
    by_cases h1 : j = n
    · simp [h1]
    · by_cases h2 : j < n
      · simp [h1, h2, Nat.lt_succ_of_lt h2]
      · simp [h1, h2, show ¬ j < n + 1 by omega]
  · simp [h]
theorem m1_fill {a n : Nat} {x : Int} {M : ev_M} {Q : ev_M → Prop} (hn : n < 2147483647) (ha : ∀ M : ev_M, (hp M)[a]? = some (.inl (0, n, M.2 a))) (hs : ∀ (M : ev_M) (i : Nat) (y : Int), (hp M).set a (.inl (0, n, tm_up (M.2 a) i y)) = hp (ev_sA M a i y))
    (h : Q (ev_fl M a n x)) : m1 a x M Q := by
  unfold m1
  refine ev_pu (st' := [.inl 0]) (pc' := 1) rfl rfl rfl rfl ?_
  refine ev_lo (lo' := [(2, .inl 0), (0, .inr (.inr (some a))), (1, .inl x)]) (st' := []) (pc' := 2) rfl rfl rfl rfl ?_
  refine ev_lo (lo' := [(2, .inl 0), (0, .inr (.inr (some a))), (1, .inl x)]) (st' := [.inr (.inr (some a))]) (pc' := 3) rfl rfl rfl rfl ?_
  refine ev_hp (M' := M) (st' := [.inl (n : Int)]) (pc' := 4) rfl rfl (by simp only [tm_hp, ha]; rw [if_pos ⟨by omega, by decide⟩]) rfl rfl ?_
  refine ev_lo (lo' := [(3, .inl (n : Int)), (2, .inl 0), (0, .inr (.inr (some a))), (1, .inl x)]) (st' := []) (pc' := 5) rfl rfl rfl rfl ?_
  refine ev_pick (lo' := [(0, .inr (.inr (some a))), (1, .inl x), (2, .inl 0), (3, .inl (n : Int))]) [0, 1, 2, 3] rfl rfl ?_
  have key : ∀ (d i : Nat), i + d = n → ev 1 5 [(0, .inr (.inr (some a))), (1, .inl x), (2, .inl (i : Int)), (3, .inl (n : Int))] [] (ev_fl M a i x) (fun v M1 => v = none ∧ Q M1) := by
    intro d
    induction d with
    | zero =>
      intro i hi
      have hi : i = n := by omega
      subst hi
      refine ev_lo (lo' := [(0, .inr (.inr (some a))), (1, .inl x), (2, .inl (i : Int)), (3, .inl (i : Int))]) (st' := [.inl (i : Int)]) (pc' := 6) rfl rfl rfl rfl ?_
      refine ev_lo (lo' := [(0, .inr (.inr (some a))), (1, .inl x), (2, .inl (i : Int)), (3, .inl (i : Int))]) (st' := [.inl (i : Int), .inl (i : Int)]) (pc' := 7) rfl rfl rfl rfl ?_
      refine ev_icmp (pc' := 20) (pc2 := 10) rfl (by decide) rfl rfl (fun hc => ?_) (fun hc => ?_)
      · exact ev_rt rfl rfl rfl ⟨rfl, h⟩
      · simp [tm_cd] at hc
    | succ d ih =>
      intro i hi
      refine ev_lo (lo' := [(0, .inr (.inr (some a))), (1, .inl x), (2, .inl (i : Int)), (3, .inl (n : Int))]) (st' := [.inl (i : Int)]) (pc' := 6) rfl rfl rfl rfl ?_
      refine ev_lo (lo' := [(0, .inr (.inr (some a))), (1, .inl x), (2, .inl (i : Int)), (3, .inl (n : Int))]) (st' := [.inl (n : Int), .inl (i : Int)]) (pc' := 7) rfl rfl rfl rfl ?_
      refine ev_icmp (pc' := 20) (pc2 := 10) rfl (by decide) rfl rfl (fun hc => ?_) (fun hc => ?_)
      · have := of_decide_eq_true hc
        omega
      · refine ev_lo (lo' := [(0, .inr (.inr (some a))), (1, .inl x), (2, .inl (i : Int)), (3, .inl (n : Int))]) (st' := [.inr (.inr (some a))]) (pc' := 11) rfl rfl rfl rfl ?_
        refine ev_lo (lo' := [(0, .inr (.inr (some a))), (1, .inl x), (2, .inl (i : Int)), (3, .inl (n : Int))]) (st' := [.inl (i : Int), .inr (.inr (some a))]) (pc' := 12) rfl rfl rfl rfl ?_
        refine ev_lo (lo' := [(0, .inr (.inr (some a))), (1, .inl x), (2, .inl (i : Int)), (3, .inl (n : Int))]) (st' := [.inl x, .inl (i : Int), .inr (.inr (some a))]) (pc' := 13) rfl rfl rfl rfl ?_
        refine ev_iast (n := n) (f := (ev_fl M a i x).2 a) (M' := ev_fl M a (i + 1) x) (pc' := 14) rfl (ha _) ⟨by omega, by omega⟩ (by rw [hs, Int.toNat_natCast, ev_flS]) rfl ?_
        refine ev_iinc (lo' := [(2, .inl ((i : Int) + 1)), (0, .inr (.inr (some a))), (1, .inl x), (3, .inl (n : Int))]) (pc' := 17) rfl rfl (by decide) (tm_add ⟨by omega, by omega⟩) rfl rfl ?_
        refine ev_br (pc' := 5) (st' := []) rfl rfl rfl ?_
        refine ev_pick (lo' := [(0, .inr (.inr (some a))), (1, .inl x), (2, .inl ((i + 1 : Nat) : Int)), (3, .inl (n : Int))]) [0, 1, 2, 3] rfl (by simp [tm_pick, List.lookup]) (ih (i + 1) (by omega))
  have := key n 0 (by omega)
  rw [ev_fl0] at this
  exact this
theorem m2_fill {a n : Nat} {x : Int} {M : ev_M} {Q : ev_M → Prop} (hn : n < 2147483647) (ha : ∀ M : ev_M, (hp M)[a]? = some (.inl (1, n, M.2 a))) (hs : ∀ (M : ev_M) (i : Nat) (y : Int), (hp M).set a (.inl (1, n, tm_up (M.2 a) i y)) = hp (ev_sA M a i y))
    (h : Q (ev_fl M a n x)) : m2 a x M Q := by
  unfold m2
  refine ev_pu (st' := [.inl 0]) (pc' := 1) rfl rfl rfl rfl ?_
  refine ev_lo (lo' := [(3, .inl 0), (0, .inr (.inr (some a))), (1, .inr (.inl x))]) (st' := []) (pc' := 2) rfl rfl rfl rfl ?_
  refine ev_lo (lo' := [(3, .inl 0), (0, .inr (.inr (some a))), (1, .inr (.inl x))]) (st' := [.inr (.inr (some a))]) (pc' := 3) rfl rfl rfl rfl ?_
  refine ev_hp (M' := M) (st' := [.inl (n : Int)]) (pc' := 4) rfl rfl (by simp only [tm_hp, ha]; rw [if_pos ⟨by omega, by decide⟩]) rfl rfl ?_
  refine ev_lo (lo' := [(4, .inl (n : Int)), (3, .inl 0), (0, .inr (.inr (some a))), (1, .inr (.inl x))]) (st' := []) (pc' := 6) rfl rfl rfl rfl ?_
  refine ev_pick (lo' := [(0, .inr (.inr (some a))), (1, .inr (.inl x)), (3, .inl 0), (4, .inl (n : Int))]) [0, 1, 3, 4] rfl rfl ?_
  have key : ∀ (d i : Nat), i + d = n → ev 2 6 [(0, .inr (.inr (some a))), (1, .inr (.inl x)), (3, .inl (i : Int)), (4, .inl (n : Int))] [] (ev_fl M a i x) (fun v M1 => v = none ∧ Q M1) := by
    intro d
    induction d with
    | zero =>
      intro i hi
      have hi : i = n := by omega
      subst hi
      refine ev_lo (lo' := [(0, .inr (.inr (some a))), (1, .inr (.inl x)), (3, .inl (i : Int)), (4, .inl (i : Int))]) (st' := [.inl (i : Int)]) (pc' := 7) rfl rfl rfl rfl ?_
      refine ev_lo (lo' := [(0, .inr (.inr (some a))), (1, .inr (.inl x)), (3, .inl (i : Int)), (4, .inl (i : Int))]) (st' := [.inl (i : Int), .inl (i : Int)]) (pc' := 9) rfl rfl rfl rfl ?_
      refine ev_icmp (pc' := 22) (pc2 := 12) rfl (by decide) rfl rfl (fun hc => ?_) (fun hc => ?_)
      · exact ev_rt rfl rfl rfl ⟨rfl, h⟩
      · simp [tm_cd] at hc
    | succ d ih =>
      intro i hi
      refine ev_lo (lo' := [(0, .inr (.inr (some a))), (1, .inr (.inl x)), (3, .inl (i : Int)), (4, .inl (n : Int))]) (st' := [.inl (i : Int)]) (pc' := 7) rfl rfl rfl rfl ?_
      refine ev_lo (lo' := [(0, .inr (.inr (some a))), (1, .inr (.inl x)), (3, .inl (i : Int)), (4, .inl (n : Int))]) (st' := [.inl (n : Int), .inl (i : Int)]) (pc' := 9) rfl rfl rfl rfl ?_
      refine ev_icmp (pc' := 22) (pc2 := 12) rfl (by decide) rfl rfl (fun hc => ?_) (fun hc => ?_)
      · have := of_decide_eq_true hc
        omega
      · refine ev_lo (lo' := [(0, .inr (.inr (some a))), (1, .inr (.inl x)), (3, .inl (i : Int)), (4, .inl (n : Int))]) (st' := [.inr (.inr (some a))]) (pc' := 13) rfl rfl rfl rfl ?_
        refine ev_lo (lo' := [(0, .inr (.inr (some a))), (1, .inr (.inl x)), (3, .inl (i : Int)), (4, .inl (n : Int))]) (st' := [.inl (i : Int), .inr (.inr (some a))]) (pc' := 14) rfl rfl rfl rfl ?_
        refine ev_lo (lo' := [(0, .inr (.inr (some a))), (1, .inr (.inl x)), (3, .inl (i : Int)), (4, .inl (n : Int))]) (st' := [.inr (.inl x), .inl (i : Int), .inr (.inr (some a))]) (pc' := 15) rfl rfl rfl rfl ?_
        refine ev_last (n := n) (f := (ev_fl M a i x).2 a) (M' := ev_fl M a (i + 1) x) (pc' := 16) rfl (ha _) ⟨by omega, by omega⟩ (by rw [hs, Int.toNat_natCast, ev_flS]) rfl ?_
        refine ev_iinc (lo' := [(3, .inl ((i : Int) + 1)), (0, .inr (.inr (some a))), (1, .inr (.inl x)), (4, .inl (n : Int))]) (pc' := 19) rfl rfl (by decide) (tm_add ⟨by omega, by omega⟩) rfl rfl ?_
        refine ev_br (pc' := 6) (st' := []) rfl rfl rfl ?_
        refine ev_pick (lo' := [(0, .inr (.inr (some a))), (1, .inr (.inl x)), (3, .inl ((i + 1 : Nat) : Int)), (4, .inl (n : Int))]) [0, 1, 3, 4] rfl (by simp [tm_pick, List.lookup]) (ih (i + 1) (by omega))
  have := key n 0 (by omega)
  rw [ev_fl0] at this
  exact this
