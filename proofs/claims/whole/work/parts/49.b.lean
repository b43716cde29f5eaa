/-! Block rules, written by wip/whole/gen3.py -/
/-! NulledForestModel.familyCount()J -/
def m116 (M : ev_M) (Q : Int → ev_M → Prop) : Prop := ev 116 0 [(0, .inr (.inr (some 30)))] [] M (fun v M1 => ∃ w : Int, v = some (.inr (.inl w)) ∧ Q w M1)
def c116_4 (x1 x3 : Int) (M : ev_M) (Q : Int → ev_M → Prop) : Prop := ev 116 4 [(0, .inr (.inr (some 30))), (1, .inr (.inl x1)), (3, .inl x3)] [] M (fun v M1 => ∃ w : Int, v = some (.inr (.inl w)) ∧ Q w M1)
def c116_43 (x1 x3 x4 : Int) (M : ev_M) (Q : Int → ev_M → Prop) : Prop := ev 116 43 [(0, .inr (.inr (some 30))), (1, .inr (.inl x1)), (3, .inl x3), (4, .inl x4)] [] M (fun v M1 => ∃ w : Int, v = some (.inr (.inl w)) ∧ Q w M1)
def c116_83 (x3 t0 : Int) (M : ev_M) (Q : Int → ev_M → Prop) : Prop := ev 116 83 [(0, .inr (.inr (some 30))), (3, .inl x3)] [.inr (.inl t0)] M (fun v M1 => ∃ w : Int, v = some (.inr (.inl w)) ∧ Q w M1)
set_option maxRecDepth 10000 in
theorem b116 {M : ev_M} {Q : Int → ev_M → Prop}
    (h : c116_4 1 0 M Q) : m116 M Q := by
  unfold m116
  refine ev_pu (st' := [.inr (.inl 1)]) (pc' := 1) rfl rfl rfl rfl ?_
  refine ev_lo (lo' := [(1, .inr (.inl 1)), (0, .inr (.inr (some 30)))]) (st' := []) (pc' := 2) rfl rfl rfl rfl ?_
  refine ev_pu (st' := [.inl 0]) (pc' := 3) rfl rfl rfl rfl ?_
  refine ev_lo (lo' := [(3, .inl 0), (1, .inr (.inl 1)), (0, .inr (.inr (some 30)))]) (st' := []) (pc' := 4) rfl rfl rfl rfl ?_
  exact ev_pick [0, 1, 3] rfl rfl h
set_option maxRecDepth 10000 in
theorem b116_4 {x1 x3 : Int} {M : ev_M} {Q : Int → ev_M → Prop}
    (h : (0 ≤ (sM_rule M) ∧ (sM_rule M) < 14) ∧ (((aM_sizes M (sM_rule M).toNat) ≤ x3 → (Q x1 M)) ∧ (¬ ((aM_sizes M (sM_rule M).toNat) ≤ x3) → (m113 x3 M (fun w1 M1 => (w1 < 0 → (c116_43 x1 x3 w1 M1 Q)) ∧ (¬ (w1 < 0) → ((0 ≤ w1 ∧ w1 < 726) ∧ ((¬ (aM_done M1 (w1).toNat) = 0 → (c116_43 x1 x3 w1 M1 Q)) ∧ (¬ (¬ (aM_done M1 (w1).toNat) = 0) → (Q (-1) M1)))))))))) : c116_4 x1 x3 M Q := by
  unfold c116_4
  refine ev_lo (lo' := [(0, .inr (.inr (some 30))), (1, .inr (.inl x1)), (3, .inl x3)]) (st' := [.inl x3]) (pc' := 5) rfl rfl rfl rfl ?_
  refine ev_lo (lo' := [(0, .inr (.inr (some 30))), (1, .inr (.inl x1)), (3, .inl x3)]) (st' := [.inr (.inr (some 30)), .inl x3]) (pc' := 6) rfl rfl rfl rfl ?_
  refine ev_get (v := .inr (.inr (some 32))) (pc' := 9) rfl rfl rfl rfl ?_
  refine ev_lo (lo' := [(0, .inr (.inr (some 30))), (1, .inr (.inl x1)), (3, .inl x3)]) (st' := [.inr (.inr (some 30)), .inr (.inr (some 32)), .inl x3]) (pc' := 10) rfl rfl rfl rfl ?_
  refine ev_get (v := .inl (sM_rule M)) (pc' := 13) rfl rfl rfl rfl ?_
  obtain ⟨hs0, h⟩ := h
  refine ev_ald (t := 0) (n := 14) (f := aM_sizes M) (w := fun x => .inl x) (pc' := 14) rfl rfl (fun _ _ => rfl) rfl hs0 rfl ?_
  refine ev_icmp (pc' := 90) (pc2 := 17) rfl (by decide) rfl rfl (fun hc => ?_) (fun hc => ?_)
  · replace h := h.1 (of_decide_eq_true hc)
    refine ev_lo (lo' := [(0, .inr (.inr (some 30))), (1, .inr (.inl x1)), (3, .inl x3)]) (st' := [.inr (.inl x1)]) (pc' := 91) rfl rfl rfl rfl ?_
    exact ev_rt rfl rfl rfl ⟨_, rfl, h⟩
  · replace h := h.2 (of_decide_eq_false hc)
    refine ev_lo (lo' := [(0, .inr (.inr (some 30))), (1, .inr (.inl x1)), (3, .inl x3)]) (st' := [.inr (.inr (some 30))]) (pc' := 18) rfl rfl rfl rfl ?_
    refine ev_lo (lo' := [(0, .inr (.inr (some 30))), (1, .inr (.inl x1)), (3, .inl x3)]) (st' := [.inl x3, .inr (.inr (some 30))]) (pc' := 19) rfl rfl rfl rfl ?_
    refine ev_call (as := [.inr (.inr (some 30)), .inl x3]) (r := []) (pc' := 22) rfl rfl (Nat.le_of_ble_eq_true rfl) (Nat.le_of_ble_eq_true rfl) ⟨rfl, rfl⟩ (Nat.le_of_ble_eq_true rfl) rfl rfl rfl rfl ?_
    refine ev.post h (fun v M1 h => ?_)
    obtain ⟨w1, rfl, h⟩ := h
    show ev 116 22 [(0, .inr (.inr (some 30))), (1, .inr (.inl x1)), (3, .inl x3)] [.inl w1] M1 _
    refine ev_lo (lo' := [(4, .inl w1), (0, .inr (.inr (some 30))), (1, .inr (.inl x1)), (3, .inl x3)]) (st' := []) (pc' := 24) rfl rfl rfl rfl ?_
    refine ev_lo (lo' := [(4, .inl w1), (0, .inr (.inr (some 30))), (1, .inr (.inl x1)), (3, .inl x3)]) (st' := [.inl w1]) (pc' := 26) rfl rfl rfl rfl ?_
    refine ev_ifT (pc' := 43) (pc2 := 29) rfl (by decide) rfl rfl (fun hc => ?_) (fun hc => ?_)
    · replace h := h.1 (of_decide_eq_true hc)
      exact ev_pick [0, 1, 3, 4] rfl rfl h
    · replace h := h.2 (of_decide_eq_false hc)
      refine ev_lo (lo' := [(4, .inl w1), (0, .inr (.inr (some 30))), (1, .inr (.inl x1)), (3, .inl x3)]) (st' := [.inr (.inr (some 30))]) (pc' := 30) rfl rfl rfl rfl ?_
      refine ev_get (v := .inr (.inr (some 41))) (pc' := 33) rfl rfl rfl rfl ?_
      refine ev_lo (lo' := [(4, .inl w1), (0, .inr (.inr (some 30))), (1, .inr (.inl x1)), (3, .inl x3)]) (st' := [.inl w1, .inr (.inr (some 41))]) (pc' := 35) rfl rfl rfl rfl ?_
      obtain ⟨hs0, h⟩ := h
      refine ev_ald (t := 2) (n := 726) (f := aM_done M1) (w := fun x => .inl x) (pc' := 36) rfl rfl (fun _ _ => rfl) rfl hs0 rfl ?_
      refine ev_ifT (pc' := 43) (pc2 := 39) rfl (by decide) rfl rfl (fun hc => ?_) (fun hc => ?_)
      · replace h := h.1 (of_decide_eq_true hc)
        exact ev_pick [0, 1, 3, 4] rfl rfl h
      · replace h := h.2 (of_decide_eq_false hc)
        refine ev_kc (st' := [.inr (.inl (-1))]) (pc' := 42) rfl rfl rfl rfl ?_
        exact ev_rt rfl rfl rfl ⟨_, rfl, h⟩
set_option maxRecDepth 10000 in
theorem b116_43 {x1 x3 x4 : Int} {M : ev_M} {Q : Int → ev_M → Prop}
    (h : (0 ≤ x4 → ((0 ≤ x4 ∧ x4 < 726) ∧ (tm_iL (x1 * (aM_counts M (x4).toNat)) ∧ (((x1 * (aM_counts M (x4).toNat)) ≤ 1000000000 → ((0 ≤ x4 ∧ x4 < 726) ∧ (tm_iL (x1 * (aM_counts M (x4).toNat)) ∧ (c116_83 x3 (x1 * (aM_counts M (x4).toNat)) M Q)))) ∧ (¬ ((x1 * (aM_counts M (x4).toNat)) ≤ 1000000000) → (c116_83 x3 1000000000 M Q)))))) ∧ (¬ (0 ≤ x4) → (c116_83 x3 x1 M Q))) : c116_43 x1 x3 x4 M Q := by
  unfold c116_43
  refine ev_lo (lo' := [(0, .inr (.inr (some 30))), (1, .inr (.inl x1)), (3, .inl x3), (4, .inl x4)]) (st' := [.inl x4]) (pc' := 45) rfl rfl rfl rfl ?_
  refine ev_ifT (pc' := 52) (pc2 := 48) rfl (by decide) rfl rfl (fun hc => ?_) (fun hc => ?_)
  · replace h := h.1 (of_decide_eq_true hc)
    refine ev_lo (lo' := [(0, .inr (.inr (some 30))), (1, .inr (.inl x1)), (3, .inl x3), (4, .inl x4)]) (st' := [.inr (.inl x1)]) (pc' := 53) rfl rfl rfl rfl ?_
    refine ev_lo (lo' := [(0, .inr (.inr (some 30))), (1, .inr (.inl x1)), (3, .inl x3), (4, .inl x4)]) (st' := [.inr (.inr (some 30)), .inr (.inl x1)]) (pc' := 54) rfl rfl rfl rfl ?_
    refine ev_get (v := .inr (.inr (some 42))) (pc' := 57) rfl rfl rfl rfl ?_
    refine ev_lo (lo' := [(0, .inr (.inr (some 30))), (1, .inr (.inl x1)), (3, .inl x3), (4, .inl x4)]) (st' := [.inl x4, .inr (.inr (some 42)), .inr (.inl x1)]) (pc' := 59) rfl rfl rfl rfl ?_
    obtain ⟨hs0, h⟩ := h
    refine ev_ald (t := 1) (n := 726) (f := aM_counts M) (w := fun x => .inr (.inl x)) (pc' := 60) rfl rfl (fun _ _ => rfl) rfl hs0 rfl ?_
    obtain ⟨hs, h⟩ := h
    refine ev_ll (f := fun a b => a * b) (pc' := 61) rfl rfl (fun _ => rfl) (tm_lmul hs) rfl ?_
    refine ev_kc (st' := [.inr (.inl 1000000000), .inr (.inl (x1 * (aM_counts M (x4).toNat)))]) (pc' := 64) rfl rfl rfl rfl ?_
    refine ev_lcmp (pc1 := 65) (pc' := 74) (pc2 := 68) rfl rfl rfl (by decide) rfl rfl (fun hc => ?_) (fun hc => ?_)
    · replace h := h.1 (of_decide_eq_true hc)
      refine ev_lo (lo' := [(0, .inr (.inr (some 30))), (1, .inr (.inl x1)), (3, .inl x3), (4, .inl x4)]) (st' := [.inr (.inl x1)]) (pc' := 75) rfl rfl rfl rfl ?_
      refine ev_lo (lo' := [(0, .inr (.inr (some 30))), (1, .inr (.inl x1)), (3, .inl x3), (4, .inl x4)]) (st' := [.inr (.inr (some 30)), .inr (.inl x1)]) (pc' := 76) rfl rfl rfl rfl ?_
      refine ev_get (v := .inr (.inr (some 42))) (pc' := 79) rfl rfl rfl rfl ?_
      refine ev_lo (lo' := [(0, .inr (.inr (some 30))), (1, .inr (.inl x1)), (3, .inl x3), (4, .inl x4)]) (st' := [.inl x4, .inr (.inr (some 42)), .inr (.inl x1)]) (pc' := 81) rfl rfl rfl rfl ?_
      obtain ⟨hs0, h⟩ := h
      refine ev_ald (t := 1) (n := 726) (f := aM_counts M) (w := fun x => .inr (.inl x)) (pc' := 82) rfl rfl (fun _ _ => rfl) rfl hs0 rfl ?_
      obtain ⟨hs, h⟩ := h
      refine ev_ll (f := fun a b => a * b) (pc' := 83) rfl rfl (fun _ => rfl) (tm_lmul hs) rfl ?_
      exact ev_pick [0, 3] rfl rfl h
    · replace h := h.2 (of_decide_eq_false hc)
      refine ev_kc (st' := [.inr (.inl 1000000000)]) (pc' := 71) rfl rfl rfl rfl ?_
      refine ev_br (pc' := 83) (st' := [.inr (.inl 1000000000)]) rfl rfl rfl ?_
      exact ev_pick [0, 3] rfl rfl h
  · replace h := h.2 (of_decide_eq_false hc)
    refine ev_lo (lo' := [(0, .inr (.inr (some 30))), (1, .inr (.inl x1)), (3, .inl x3), (4, .inl x4)]) (st' := [.inr (.inl x1)]) (pc' := 49) rfl rfl rfl rfl ?_
    refine ev_br (pc' := 83) (st' := [.inr (.inl x1)]) rfl rfl rfl ?_
    exact ev_pick [0, 3] rfl rfl h
set_option maxRecDepth 10000 in
theorem b116_83 {x3 t0 : Int} {M : ev_M} {Q : Int → ev_M → Prop}
    (h : tm_iI (x3 + 1) ∧ (c116_4 t0 (x3 + 1) M Q)) : c116_83 x3 t0 M Q := by
  unfold c116_83
  refine ev_lo (lo' := [(1, .inr (.inl t0)), (0, .inr (.inr (some 30))), (3, .inl x3)]) (st' := []) (pc' := 84) rfl rfl rfl rfl ?_
  obtain ⟨hs, h⟩ := h
  refine ev_iinc (lo' := [(3, .inl (x3 + 1)), (1, .inr (.inl t0)), (0, .inr (.inr (some 30)))]) (pc' := 87) rfl rfl (by decide) (tm_add hs) rfl rfl ?_
  refine ev_br (pc' := 4) (st' := []) rfl rfl rfl ?_
  exact ev_pick [0, 1, 3] rfl rfl h
/-! NulledForestModel.count(I)Z -/
def m117 (x1 : Int) (M : ev_M) (Q : Int → ev_M → Prop) : Prop := ev 117 0 [(0, .inr (.inr (some 30))), (1, .inl x1)] [] M (fun v M1 => ∃ w : Int, v = some (.inl w) ∧ Q w M1)
def c117_9 (x1 x2 x4 : Int) (M : ev_M) (Q : Int → ev_M → Prop) : Prop := ev 117 9 [(0, .inr (.inr (some 30))), (1, .inl x1), (2, .inr (.inl x2)), (4, .inl x4)] [] M (fun v M1 => ∃ w : Int, v = some (.inl w) ∧ Q w M1)
def c117_50 (x1 t0 : Int) (M : ev_M) (Q : Int → ev_M → Prop) : Prop := ev 117 50 [(0, .inr (.inr (some 30))), (1, .inl x1)] [.inr (.inl t0)] M (fun v M1 => ∃ w : Int, v = some (.inl w) ∧ Q w M1)
set_option maxRecDepth 10000 in
theorem b117 {x1 : Int} {M : ev_M} {Q : Int → ev_M → Prop}
    (h : m112 x1 M (fun w1 M1 => c117_9 x1 0 w1 M1 Q)) : m117 x1 M Q := by
  unfold m117
  refine ev_pu (st' := [.inr (.inl 0)]) (pc' := 1) rfl rfl rfl rfl ?_
  refine ev_lo (lo' := [(2, .inr (.inl 0)), (0, .inr (.inr (some 30))), (1, .inl x1)]) (st' := []) (pc' := 2) rfl rfl rfl rfl ?_
  refine ev_lo (lo' := [(2, .inr (.inl 0)), (0, .inr (.inr (some 30))), (1, .inl x1)]) (st' := [.inr (.inr (some 30))]) (pc' := 3) rfl rfl rfl rfl ?_
  refine ev_lo (lo' := [(2, .inr (.inl 0)), (0, .inr (.inr (some 30))), (1, .inl x1)]) (st' := [.inl x1, .inr (.inr (some 30))]) (pc' := 4) rfl rfl rfl rfl ?_
  refine ev_call (as := [.inr (.inr (some 30)), .inl x1]) (r := []) (pc' := 7) rfl rfl (Nat.le_of_ble_eq_true rfl) (Nat.le_of_ble_eq_true rfl) ⟨rfl, rfl⟩ (Nat.le_of_ble_eq_true rfl) rfl rfl rfl rfl ?_
  refine ev.post h (fun v M1 h => ?_)
  obtain ⟨w1, rfl, h⟩ := h
  show ev 117 7 [(2, .inr (.inl 0)), (0, .inr (.inr (some 30))), (1, .inl x1)] [.inl w1] M1 _
  refine ev_lo (lo' := [(4, .inl w1), (2, .inr (.inl 0)), (0, .inr (.inr (some 30))), (1, .inl x1)]) (st' := []) (pc' := 9) rfl rfl rfl rfl ?_
  exact ev_pick [0, 1, 2, 4] rfl rfl h
set_option maxRecDepth 10000 in
theorem b117_9 {x1 x2 x4 : Int} {M : ev_M} {Q : Int → ev_M → Prop}
    (h : (x4 = 0 → ((0 ≤ x1 ∧ x1 < 726) ∧ (Q 1 (ev_sA M 42 (x1).toNat x2)))) ∧ (¬ (x4 = 0) → (m116 M (fun w1 M1 => (0 ≤ w1 → (tm_iL (x2 + w1) ∧ (((x2 + w1) ≤ 1000000000 → (tm_iL (x2 + w1) ∧ (c117_50 x1 (x2 + w1) M1 Q))) ∧ (¬ ((x2 + w1) ≤ 1000000000) → (c117_50 x1 1000000000 M1 Q))))) ∧ (¬ (0 ≤ w1) → (Q 0 M1)))))) : c117_9 x1 x2 x4 M Q := by
  unfold c117_9
  refine ev_lo (lo' := [(0, .inr (.inr (some 30))), (1, .inl x1), (2, .inr (.inl x2)), (4, .inl x4)]) (st' := [.inl x4]) (pc' := 11) rfl rfl rfl rfl ?_
  refine ev_ifT (pc' := 60) (pc2 := 14) rfl (by decide) rfl rfl (fun hc => ?_) (fun hc => ?_)
  · replace h := h.1 (of_decide_eq_true hc)
    refine ev_lo (lo' := [(0, .inr (.inr (some 30))), (1, .inl x1), (2, .inr (.inl x2)), (4, .inl x4)]) (st' := [.inr (.inr (some 30))]) (pc' := 61) rfl rfl rfl rfl ?_
    refine ev_get (v := .inr (.inr (some 42))) (pc' := 64) rfl rfl rfl rfl ?_
    refine ev_lo (lo' := [(0, .inr (.inr (some 30))), (1, .inl x1), (2, .inr (.inl x2)), (4, .inl x4)]) (st' := [.inl x1, .inr (.inr (some 42))]) (pc' := 65) rfl rfl rfl rfl ?_
    refine ev_lo (lo' := [(0, .inr (.inr (some 30))), (1, .inl x1), (2, .inr (.inl x2)), (4, .inl x4)]) (st' := [.inr (.inl x2), .inl x1, .inr (.inr (some 42))]) (pc' := 66) rfl rfl rfl rfl ?_
    obtain ⟨hs0, h⟩ := h
    refine ev_last (n := 726) (f := aM_counts M) (M' := ev_sA M 42 (x1).toNat x2) (pc' := 67) rfl rfl hs0 (hp_a42 _ _ _) rfl ?_
    refine ev_pu (st' := [.inl 1]) (pc' := 68) rfl rfl rfl rfl ?_
    exact ev_rt rfl rfl rfl ⟨_, rfl, h⟩
  · replace h := h.2 (of_decide_eq_false hc)
    refine ev_lo (lo' := [(0, .inr (.inr (some 30))), (1, .inl x1), (2, .inr (.inl x2)), (4, .inl x4)]) (st' := [.inr (.inr (some 30))]) (pc' := 15) rfl rfl rfl rfl ?_
    refine ev_call (as := [.inr (.inr (some 30))]) (r := []) (pc' := 18) rfl rfl (Nat.le_of_ble_eq_true rfl) (Nat.le_of_ble_eq_true rfl) ⟨rfl, rfl⟩ (Nat.le_of_ble_eq_true rfl) rfl rfl rfl rfl ?_
    refine ev.post h (fun v M1 h => ?_)
    obtain ⟨w1, rfl, h⟩ := h
    show ev 117 18 [(0, .inr (.inr (some 30))), (1, .inl x1), (2, .inr (.inl x2)), (4, .inl x4)] [.inr (.inl w1)] M1 _
    refine ev_lo (lo' := [(5, .inr (.inl w1)), (0, .inr (.inr (some 30))), (1, .inl x1), (2, .inr (.inl x2)), (4, .inl x4)]) (st' := []) (pc' := 20) rfl rfl rfl rfl ?_
    refine ev_lo (lo' := [(5, .inr (.inl w1)), (0, .inr (.inr (some 30))), (1, .inl x1), (2, .inr (.inl x2)), (4, .inl x4)]) (st' := [.inr (.inl w1)]) (pc' := 22) rfl rfl rfl rfl ?_
    refine ev_pu (st' := [.inr (.inl 0), .inr (.inl w1)]) (pc' := 23) rfl rfl rfl rfl ?_
    refine ev_lcmp (pc1 := 24) (pc' := 29) (pc2 := 27) rfl rfl rfl (by decide) rfl rfl (fun hc => ?_) (fun hc => ?_)
    · replace h := h.1 (of_decide_eq_true hc)
      refine ev_lo (lo' := [(5, .inr (.inl w1)), (0, .inr (.inr (some 30))), (1, .inl x1), (2, .inr (.inl x2)), (4, .inl x4)]) (st' := [.inr (.inl x2)]) (pc' := 30) rfl rfl rfl rfl ?_
      refine ev_lo (lo' := [(5, .inr (.inl w1)), (0, .inr (.inr (some 30))), (1, .inl x1), (2, .inr (.inl x2)), (4, .inl x4)]) (st' := [.inr (.inl w1), .inr (.inl x2)]) (pc' := 32) rfl rfl rfl rfl ?_
      obtain ⟨hs, h⟩ := h
      refine ev_ll (f := fun a b => a + b) (pc' := 33) rfl rfl (fun _ => rfl) (tm_ladd hs) rfl ?_
      refine ev_kc (st' := [.inr (.inl 1000000000), .inr (.inl (x2 + w1))]) (pc' := 36) rfl rfl rfl rfl ?_
      refine ev_lcmp (pc1 := 37) (pc' := 46) (pc2 := 40) rfl rfl rfl (by decide) rfl rfl (fun hc => ?_) (fun hc => ?_)
      · replace h := h.1 (of_decide_eq_true hc)
        refine ev_lo (lo' := [(5, .inr (.inl w1)), (0, .inr (.inr (some 30))), (1, .inl x1), (2, .inr (.inl x2)), (4, .inl x4)]) (st' := [.inr (.inl x2)]) (pc' := 47) rfl rfl rfl rfl ?_
        refine ev_lo (lo' := [(5, .inr (.inl w1)), (0, .inr (.inr (some 30))), (1, .inl x1), (2, .inr (.inl x2)), (4, .inl x4)]) (st' := [.inr (.inl w1), .inr (.inl x2)]) (pc' := 49) rfl rfl rfl rfl ?_
        obtain ⟨hs, h⟩ := h
        refine ev_ll (f := fun a b => a + b) (pc' := 50) rfl rfl (fun _ => rfl) (tm_ladd hs) rfl ?_
        exact ev_pick [0, 1] rfl rfl h
      · replace h := h.2 (of_decide_eq_false hc)
        refine ev_kc (st' := [.inr (.inl 1000000000)]) (pc' := 43) rfl rfl rfl rfl ?_
        refine ev_br (pc' := 50) (st' := [.inr (.inl 1000000000)]) rfl rfl rfl ?_
        exact ev_pick [0, 1] rfl rfl h
    · replace h := h.2 (of_decide_eq_false hc)
      refine ev_pu (st' := [.inl 0]) (pc' := 28) rfl rfl rfl rfl ?_
      exact ev_rt rfl rfl rfl ⟨_, rfl, h⟩
set_option maxRecDepth 10000 in
theorem b117_50 {x1 t0 : Int} {M : ev_M} {Q : Int → ev_M → Prop}
    (h : m111 M (fun w1 M1 => c117_9 x1 t0 w1 M1 Q)) : c117_50 x1 t0 M Q := by
  unfold c117_50
  refine ev_lo (lo' := [(2, .inr (.inl t0)), (0, .inr (.inr (some 30))), (1, .inl x1)]) (st' := []) (pc' := 51) rfl rfl rfl rfl ?_
  refine ev_lo (lo' := [(2, .inr (.inl t0)), (0, .inr (.inr (some 30))), (1, .inl x1)]) (st' := [.inr (.inr (some 30))]) (pc' := 52) rfl rfl rfl rfl ?_
  refine ev_call (as := [.inr (.inr (some 30))]) (r := []) (pc' := 55) rfl rfl (Nat.le_of_ble_eq_true rfl) (Nat.le_of_ble_eq_true rfl) ⟨rfl, rfl⟩ (Nat.le_of_ble_eq_true rfl) rfl rfl rfl rfl ?_
  refine ev.post h (fun v M1 h => ?_)
  obtain ⟨w1, rfl, h⟩ := h
  show ev 117 55 [(2, .inr (.inl t0)), (0, .inr (.inr (some 30))), (1, .inl x1)] [.inl w1] M1 _
  refine ev_lo (lo' := [(4, .inl w1), (2, .inr (.inl t0)), (0, .inr (.inr (some 30))), (1, .inl x1)]) (st' := []) (pc' := 57) rfl rfl rfl rfl ?_
  refine ev_br (pc' := 9) (st' := []) rfl rfl rfl ?_
  exact ev_pick [0, 1, 2, 4] rfl rfl h
/-! NulledForestModel.findCounts()V -/
def m118 (M : ev_M) (Q : ev_M → Prop) : Prop := ev 118 0 [(0, .inr (.inr (some 30)))] [] M (fun v M1 => v = none ∧ Q M1)
def c118_2 (x1 : Int) (M : ev_M) (Q : ev_M → Prop) : Prop := ev 118 2 [(0, .inr (.inr (some 30))), (1, .inl x1)] [] M (fun v M1 => v = none ∧ Q M1)
def c118_24 (x1 : Int) (M : ev_M) (Q : ev_M → Prop) : Prop := ev 118 24 [(0, .inr (.inr (some 30))), (1, .inl x1)] [] M (fun v M1 => v = none ∧ Q M1)
def c118_32 (x1 x2 : Int) (M : ev_M) (Q : ev_M → Prop) : Prop := ev 118 32 [(0, .inr (.inr (some 30))), (1, .inl x1), (2, .inl x2)] [] M (fun v M1 => v = none ∧ Q M1)
def c118_74 (x1 x2 : Int) (M : ev_M) (Q : ev_M → Prop) : Prop := ev 118 74 [(0, .inr (.inr (some 30))), (1, .inl x1), (2, .inl x2)] [] M (fun v M1 => v = none ∧ Q M1)
def c118_90 (x2 : Int) (M : ev_M) (Q : ev_M → Prop) : Prop := ev 118 90 [(0, .inr (.inr (some 30))), (2, .inl x2)] [] M (fun v M1 => v = none ∧ Q M1)
def c118_123 (x2 : Int) (M : ev_M) (Q : ev_M → Prop) : Prop := ev 118 123 [(0, .inr (.inr (some 30))), (2, .inl x2)] [.inr (.inr (some 30))] M (fun v M1 => v = none ∧ Q M1)
def c118_127 (x2 : Int) (M : ev_M) (Q : ev_M → Prop) : Prop := ev 118 127 [(0, .inr (.inr (some 30))), (2, .inl x2)] [.inr (.inr (some 30))] M (fun v M1 => v = none ∧ Q M1)
def c118_128 (x2 t1 : Int) (M : ev_M) (Q : ev_M → Prop) : Prop := ev 118 128 [(0, .inr (.inr (some 30))), (2, .inl x2)] [.inl t1, .inr (.inr (some 30))] M (fun v M1 => v = none ∧ Q M1)
set_option maxRecDepth 10000 in
theorem b118 {M : ev_M} {Q : ev_M → Prop}
    (h : c118_2 0 M Q) : m118 M Q := by
  unfold m118
  refine ev_pu (st' := [.inl 0]) (pc' := 1) rfl rfl rfl rfl ?_
  refine ev_lo (lo' := [(1, .inl 0), (0, .inr (.inr (some 30)))]) (st' := []) (pc' := 2) rfl rfl rfl rfl ?_
  exact ev_pick [0, 1] rfl rfl h
set_option maxRecDepth 10000 in
theorem b118_2 {x1 : Int} {M : ev_M} {Q : ev_M → Prop}
    (h : (726 ≤ x1 → (c118_24 1 M Q)) ∧ (¬ (726 ≤ x1) → ((0 ≤ x1 ∧ x1 < 726) ∧ (tm_iI (x1 + 1) ∧ (c118_2 (x1 + 1) (ev_sA M 41 (x1).toNat 0) Q))))) : c118_2 x1 M Q := by
  unfold c118_2
  refine ev_lo (lo' := [(0, .inr (.inr (some 30))), (1, .inl x1)]) (st' := [.inl x1]) (pc' := 3) rfl rfl rfl rfl ?_
  refine ev_pu (st' := [.inl 726, .inl x1]) (pc' := 6) rfl rfl rfl rfl ?_
  refine ev_icmp (pc' := 22) (pc2 := 9) rfl (by decide) rfl rfl (fun hc => ?_) (fun hc => ?_)
  · replace h := h.1 (of_decide_eq_true hc)
    refine ev_pu (st' := [.inl 1]) (pc' := 23) rfl rfl rfl rfl ?_
    refine ev_lo (lo' := [(1, .inl 1), (0, .inr (.inr (some 30)))]) (st' := []) (pc' := 24) rfl rfl rfl rfl ?_
    exact ev_pick [0, 1] rfl rfl h
  · replace h := h.2 (of_decide_eq_false hc)
    refine ev_lo (lo' := [(0, .inr (.inr (some 30))), (1, .inl x1)]) (st' := [.inr (.inr (some 30))]) (pc' := 10) rfl rfl rfl rfl ?_
    refine ev_get (v := .inr (.inr (some 41))) (pc' := 13) rfl rfl rfl rfl ?_
    refine ev_lo (lo' := [(0, .inr (.inr (some 30))), (1, .inl x1)]) (st' := [.inl x1, .inr (.inr (some 41))]) (pc' := 14) rfl rfl rfl rfl ?_
    refine ev_pu (st' := [.inl 0, .inl x1, .inr (.inr (some 41))]) (pc' := 15) rfl rfl rfl rfl ?_
    obtain ⟨hs0, h⟩ := h
    refine ev_bast (n := 726) (f := aM_done M) (M' := ev_sA M 41 (x1).toNat 0) (pc' := 16) rfl rfl hs0 (by decide) (hp_a41 _ _ _) rfl ?_
    obtain ⟨hs, h⟩ := h
    refine ev_iinc (lo' := [(1, .inl (x1 + 1)), (0, .inr (.inr (some 30)))]) (pc' := 19) rfl rfl (by decide) (tm_add hs) rfl rfl ?_
    refine ev_br (pc' := 2) (st' := []) rfl rfl rfl ?_
    exact ev_pick [0, 1] rfl rfl h
set_option maxRecDepth 10000 in
theorem b118_24 {x1 : Int} {M : ev_M} {Q : ev_M → Prop}
    (h : (x1 = 0 → (c118_90 0 (ev_sS M 17 0) Q)) ∧ (¬ (x1 = 0) → (c118_32 0 0 M Q))) : c118_24 x1 M Q := by
  unfold c118_24
  refine ev_lo (lo' := [(0, .inr (.inr (some 30))), (1, .inl x1)]) (st' := [.inl x1]) (pc' := 25) rfl rfl rfl rfl ?_
  refine ev_ifT (pc' := 83) (pc2 := 28) rfl (by decide) rfl rfl (fun hc => ?_) (fun hc => ?_)
  · replace h := h.1 (of_decide_eq_true hc)
    refine ev_lo (lo' := [(0, .inr (.inr (some 30))), (1, .inl x1)]) (st' := [.inr (.inr (some 30))]) (pc' := 84) rfl rfl rfl rfl ?_
    refine ev_pu (st' := [.inl 0, .inr (.inr (some 30))]) (pc' := 85) rfl rfl rfl rfl ?_
    refine ev_put (M' := ev_sS M 17 0) (pc' := 88) rfl rfl (Nat.le_of_ble_eq_true rfl) rfl (hp_s17 _ _) rfl ?_
    refine ev_pu (st' := [.inl 0]) (pc' := 89) rfl rfl rfl rfl ?_
    refine ev_lo (lo' := [(2, .inl 0), (0, .inr (.inr (some 30))), (1, .inl x1)]) (st' := []) (pc' := 90) rfl rfl rfl rfl ?_
    exact ev_pick [0, 2] rfl rfl h
  · replace h := h.2 (of_decide_eq_false hc)
    refine ev_pu (st' := [.inl 0]) (pc' := 29) rfl rfl rfl rfl ?_
    refine ev_lo (lo' := [(1, .inl 0), (0, .inr (.inr (some 30)))]) (st' := []) (pc' := 30) rfl rfl rfl rfl ?_
    refine ev_pu (st' := [.inl 0]) (pc' := 31) rfl rfl rfl rfl ?_
    refine ev_lo (lo' := [(2, .inl 0), (1, .inl 0), (0, .inr (.inr (some 30)))]) (st' := []) (pc' := 32) rfl rfl rfl rfl ?_
    exact ev_pick [0, 1, 2] rfl rfl h
set_option maxRecDepth 10000 in
theorem b118_32 {x1 x2 : Int} {M : ev_M} {Q : ev_M → Prop}
    (h : (726 ≤ x2 → (c118_24 x1 M Q)) ∧ (¬ (726 ≤ x2) → ((0 ≤ x2 ∧ x2 < 726) ∧ (((aM_used M (x2).toNat) = 0 → (c118_74 x1 x2 M Q)) ∧ (¬ ((aM_used M (x2).toNat) = 0) → ((0 ≤ x2 ∧ x2 < 726) ∧ ((¬ (aM_done M (x2).toNat) = 0 → (c118_74 x1 x2 M Q)) ∧ (¬ (¬ (aM_done M (x2).toNat) = 0) → (m117 x2 M (fun w1 M1 => (w1 = 0 → (c118_74 x1 x2 M1 Q)) ∧ (¬ (w1 = 0) → ((0 ≤ x2 ∧ x2 < 726) ∧ (c118_74 1 x2 (ev_sA M1 41 (x2).toNat 1) Q))))))))))))) : c118_32 x1 x2 M Q := by
  unfold c118_32
  refine ev_lo (lo' := [(0, .inr (.inr (some 30))), (1, .inl x1), (2, .inl x2)]) (st' := [.inl x2]) (pc' := 33) rfl rfl rfl rfl ?_
  refine ev_pu (st' := [.inl 726, .inl x2]) (pc' := 36) rfl rfl rfl rfl ?_
  refine ev_icmp (pc' := 80) (pc2 := 39) rfl (by decide) rfl rfl (fun hc => ?_) (fun hc => ?_)
  · replace h := h.1 (of_decide_eq_true hc)
    refine ev_br (pc' := 24) (st' := []) rfl rfl rfl ?_
    exact ev_pick [0, 1] rfl rfl h
  · replace h := h.2 (of_decide_eq_false hc)
    refine ev_lo (lo' := [(0, .inr (.inr (some 30))), (1, .inl x1), (2, .inl x2)]) (st' := [.inr (.inr (some 30))]) (pc' := 40) rfl rfl rfl rfl ?_
    refine ev_get (v := .inr (.inr (some 40))) (pc' := 43) rfl rfl rfl rfl ?_
    refine ev_lo (lo' := [(0, .inr (.inr (some 30))), (1, .inl x1), (2, .inl x2)]) (st' := [.inl x2, .inr (.inr (some 40))]) (pc' := 44) rfl rfl rfl rfl ?_
    obtain ⟨hs0, h⟩ := h
    refine ev_ald (t := 2) (n := 726) (f := aM_used M) (w := fun x => .inl x) (pc' := 45) rfl rfl (fun _ _ => rfl) rfl hs0 rfl ?_
    refine ev_ifT (pc' := 74) (pc2 := 48) rfl (by decide) rfl rfl (fun hc => ?_) (fun hc => ?_)
    · replace h := h.1 (of_decide_eq_true hc)
      exact ev_pick [0, 1, 2] rfl rfl h
    · replace h := h.2 (of_decide_eq_false hc)
      refine ev_lo (lo' := [(0, .inr (.inr (some 30))), (1, .inl x1), (2, .inl x2)]) (st' := [.inr (.inr (some 30))]) (pc' := 49) rfl rfl rfl rfl ?_
      refine ev_get (v := .inr (.inr (some 41))) (pc' := 52) rfl rfl rfl rfl ?_
      refine ev_lo (lo' := [(0, .inr (.inr (some 30))), (1, .inl x1), (2, .inl x2)]) (st' := [.inl x2, .inr (.inr (some 41))]) (pc' := 53) rfl rfl rfl rfl ?_
      obtain ⟨hs0, h⟩ := h
      refine ev_ald (t := 2) (n := 726) (f := aM_done M) (w := fun x => .inl x) (pc' := 54) rfl rfl (fun _ _ => rfl) rfl hs0 rfl ?_
      refine ev_ifT (pc' := 74) (pc2 := 57) rfl (by decide) rfl rfl (fun hc => ?_) (fun hc => ?_)
      · replace h := h.1 (of_decide_eq_true hc)
        exact ev_pick [0, 1, 2] rfl rfl h
      · replace h := h.2 (of_decide_eq_false hc)
        refine ev_lo (lo' := [(0, .inr (.inr (some 30))), (1, .inl x1), (2, .inl x2)]) (st' := [.inr (.inr (some 30))]) (pc' := 58) rfl rfl rfl rfl ?_
        refine ev_lo (lo' := [(0, .inr (.inr (some 30))), (1, .inl x1), (2, .inl x2)]) (st' := [.inl x2, .inr (.inr (some 30))]) (pc' := 59) rfl rfl rfl rfl ?_
        refine ev_call (as := [.inr (.inr (some 30)), .inl x2]) (r := []) (pc' := 62) rfl rfl (Nat.le_of_ble_eq_true rfl) (Nat.le_of_ble_eq_true rfl) ⟨rfl, rfl⟩ (Nat.le_of_ble_eq_true rfl) rfl rfl rfl rfl ?_
        refine ev.post h (fun v M1 h => ?_)
        obtain ⟨w1, rfl, h⟩ := h
        show ev 118 62 [(0, .inr (.inr (some 30))), (1, .inl x1), (2, .inl x2)] [.inl w1] M1 _
        refine ev_ifT (pc' := 74) (pc2 := 65) rfl (by decide) rfl rfl (fun hc => ?_) (fun hc => ?_)
        · replace h := h.1 (of_decide_eq_true hc)
          exact ev_pick [0, 1, 2] rfl rfl h
        · replace h := h.2 (of_decide_eq_false hc)
          refine ev_lo (lo' := [(0, .inr (.inr (some 30))), (1, .inl x1), (2, .inl x2)]) (st' := [.inr (.inr (some 30))]) (pc' := 66) rfl rfl rfl rfl ?_
          refine ev_get (v := .inr (.inr (some 41))) (pc' := 69) rfl rfl rfl rfl ?_
          refine ev_lo (lo' := [(0, .inr (.inr (some 30))), (1, .inl x1), (2, .inl x2)]) (st' := [.inl x2, .inr (.inr (some 41))]) (pc' := 70) rfl rfl rfl rfl ?_
          refine ev_pu (st' := [.inl 1, .inl x2, .inr (.inr (some 41))]) (pc' := 71) rfl rfl rfl rfl ?_
          obtain ⟨hs0, h⟩ := h
          refine ev_bast (n := 726) (f := aM_done M1) (M' := ev_sA M1 41 (x2).toNat 1) (pc' := 72) rfl rfl hs0 (by decide) (hp_a41 _ _ _) rfl ?_
          refine ev_pu (st' := [.inl 1]) (pc' := 73) rfl rfl rfl rfl ?_
          refine ev_lo (lo' := [(1, .inl 1), (0, .inr (.inr (some 30))), (2, .inl x2)]) (st' := []) (pc' := 74) rfl rfl rfl rfl ?_
          exact ev_pick [0, 1, 2] rfl rfl h
set_option maxRecDepth 10000 in
theorem b118_74 {x1 x2 : Int} {M : ev_M} {Q : ev_M → Prop}
    (h : tm_iI (x2 + 1) ∧ (c118_32 x1 (x2 + 1) M Q)) : c118_74 x1 x2 M Q := by
  unfold c118_74
  obtain ⟨hs, h⟩ := h
  refine ev_iinc (lo' := [(2, .inl (x2 + 1)), (0, .inr (.inr (some 30))), (1, .inl x1)]) (pc' := 77) rfl rfl (by decide) (tm_add hs) rfl rfl ?_
  refine ev_br (pc' := 32) (st' := []) rfl rfl rfl ?_
  exact ev_pick [0, 1, 2] rfl rfl h
set_option maxRecDepth 10000 in
theorem b118_90 {x2 : Int} {M : ev_M} {Q : ev_M → Prop}
    (h : (726 ≤ x2 → (Q M)) ∧ (¬ (726 ≤ x2) → ((¬ (sM_endless M) = 0 → (c118_123 x2 M Q)) ∧ (¬ (¬ (sM_endless M) = 0) → ((0 ≤ x2 ∧ x2 < 726) ∧ (((aM_used M (x2).toNat) = 0 → (c118_127 x2 M Q)) ∧ (¬ ((aM_used M (x2).toNat) = 0) → ((0 ≤ x2 ∧ x2 < 726) ∧ ((¬ (aM_done M (x2).toNat) = 0 → (c118_127 x2 M Q)) ∧ (¬ (¬ (aM_done M (x2).toNat) = 0) → (c118_123 x2 M Q))))))))))) : c118_90 x2 M Q := by
  unfold c118_90
  refine ev_lo (lo' := [(0, .inr (.inr (some 30))), (2, .inl x2)]) (st' := [.inl x2]) (pc' := 91) rfl rfl rfl rfl ?_
  refine ev_pu (st' := [.inl 726, .inl x2]) (pc' := 94) rfl rfl rfl rfl ?_
  refine ev_icmp (pc' := 137) (pc2 := 97) rfl (by decide) rfl rfl (fun hc => ?_) (fun hc => ?_)
  · replace h := h.1 (of_decide_eq_true hc)
    exact ev_rt rfl rfl rfl ⟨rfl, h⟩
  · replace h := h.2 (of_decide_eq_false hc)
    refine ev_lo (lo' := [(0, .inr (.inr (some 30))), (2, .inl x2)]) (st' := [.inr (.inr (some 30))]) (pc' := 98) rfl rfl rfl rfl ?_
    refine ev_lo (lo' := [(0, .inr (.inr (some 30))), (2, .inl x2)]) (st' := [.inr (.inr (some 30)), .inr (.inr (some 30))]) (pc' := 99) rfl rfl rfl rfl ?_
    refine ev_get (v := .inl (sM_endless M)) (pc' := 102) rfl rfl rfl rfl ?_
    refine ev_ifT (pc' := 123) (pc2 := 105) rfl (by decide) rfl rfl (fun hc => ?_) (fun hc => ?_)
    · replace h := h.1 (of_decide_eq_true hc)
      exact ev_pick [0, 2] rfl rfl h
    · replace h := h.2 (of_decide_eq_false hc)
      refine ev_lo (lo' := [(0, .inr (.inr (some 30))), (2, .inl x2)]) (st' := [.inr (.inr (some 30)), .inr (.inr (some 30))]) (pc' := 106) rfl rfl rfl rfl ?_
      refine ev_get (v := .inr (.inr (some 40))) (pc' := 109) rfl rfl rfl rfl ?_
      refine ev_lo (lo' := [(0, .inr (.inr (some 30))), (2, .inl x2)]) (st' := [.inl x2, .inr (.inr (some 40)), .inr (.inr (some 30))]) (pc' := 110) rfl rfl rfl rfl ?_
      obtain ⟨hs0, h⟩ := h
      refine ev_ald (t := 2) (n := 726) (f := aM_used M) (w := fun x => .inl x) (pc' := 111) rfl rfl (fun _ _ => rfl) rfl hs0 rfl ?_
      refine ev_ifT (pc' := 127) (pc2 := 114) rfl (by decide) rfl rfl (fun hc => ?_) (fun hc => ?_)
      · replace h := h.1 (of_decide_eq_true hc)
        exact ev_pick [0, 2] rfl rfl h
      · replace h := h.2 (of_decide_eq_false hc)
        refine ev_lo (lo' := [(0, .inr (.inr (some 30))), (2, .inl x2)]) (st' := [.inr (.inr (some 30)), .inr (.inr (some 30))]) (pc' := 115) rfl rfl rfl rfl ?_
        refine ev_get (v := .inr (.inr (some 41))) (pc' := 118) rfl rfl rfl rfl ?_
        refine ev_lo (lo' := [(0, .inr (.inr (some 30))), (2, .inl x2)]) (st' := [.inl x2, .inr (.inr (some 41)), .inr (.inr (some 30))]) (pc' := 119) rfl rfl rfl rfl ?_
        obtain ⟨hs0, h⟩ := h
        refine ev_ald (t := 2) (n := 726) (f := aM_done M) (w := fun x => .inl x) (pc' := 120) rfl rfl (fun _ _ => rfl) rfl hs0 rfl ?_
        refine ev_ifT (pc' := 127) (pc2 := 123) rfl (by decide) rfl rfl (fun hc => ?_) (fun hc => ?_)
        · replace h := h.1 (of_decide_eq_true hc)
          exact ev_pick [0, 2] rfl rfl h
        · replace h := h.2 (of_decide_eq_false hc)
          exact ev_pick [0, 2] rfl rfl h
set_option maxRecDepth 10000 in
theorem b118_123 {x2 : Int} {M : ev_M} {Q : ev_M → Prop}
    (h : c118_128 x2 1 M Q) : c118_123 x2 M Q := by
  unfold c118_123
  refine ev_pu (st' := [.inl 1, .inr (.inr (some 30))]) (pc' := 124) rfl rfl rfl rfl ?_
  refine ev_br (pc' := 128) (st' := [.inl 1, .inr (.inr (some 30))]) rfl rfl rfl ?_
  exact ev_pick [0, 2] rfl rfl h
set_option maxRecDepth 10000 in
theorem b118_127 {x2 : Int} {M : ev_M} {Q : ev_M → Prop}
    (h : c118_128 x2 0 M Q) : c118_127 x2 M Q := by
  unfold c118_127
  refine ev_pu (st' := [.inl 0, .inr (.inr (some 30))]) (pc' := 128) rfl rfl rfl rfl ?_
  exact ev_pick [0, 2] rfl rfl h
set_option maxRecDepth 10000 in
theorem b118_128 {x2 t1 : Int} {M : ev_M} {Q : ev_M → Prop}
    (h : (t1 = 0 ∨ t1 = 1) ∧ (tm_iI (x2 + 1) ∧ (c118_90 (x2 + 1) (ev_sS M 17 t1) Q))) : c118_128 x2 t1 M Q := by
  unfold c118_128
  obtain ⟨hs, h⟩ := h
  refine ev_put (M' := ev_sS M 17 t1) (pc' := 131) rfl rfl (Nat.le_of_ble_eq_true rfl) (tm_fitZ hs) (hp_s17 _ _) rfl ?_
  obtain ⟨hs, h⟩ := h
  refine ev_iinc (lo' := [(2, .inl (x2 + 1)), (0, .inr (.inr (some 30)))]) (pc' := 134) rfl rfl (by decide) (tm_add hs) rfl rfl ?_
  refine ev_br (pc' := 90) (st' := []) rfl rfl rfl ?_
  exact ev_pick [0, 2] rfl rfl h
/-! NulledForestModel.spread(II)Z -/
def m119 (x1 x2 : Int) (M : ev_M) (Q : Int → ev_M → Prop) : Prop := ev 119 0 [(0, .inr (.inr (some 30))), (1, .inl x1), (2, .inl x2)] [] M (fun v M1 => ∃ w : Int, v = some (.inl w) ∧ Q w M1)
def c119_5 (x1 x2 x3 x4 : Int) (M : ev_M) (Q : Int → ev_M → Prop) : Prop := ev 119 5 [(0, .inr (.inr (some 30))), (1, .inl x1), (2, .inl x2), (3, .inl x3), (4, .inl x4)] [] M (fun v M1 => ∃ w : Int, v = some (.inl w) ∧ Q w M1)
def c119_29 (x1 x2 x3 x4 x5 x6 : Int) (M : ev_M) (Q : Int → ev_M → Prop) : Prop := ev 119 29 [(0, .inr (.inr (some 30))), (1, .inl x1), (2, .inl x2), (3, .inl x3), (4, .inl x4), (5, .inl x5), (6, .inl x6)] [] M (fun v M1 => ∃ w : Int, v = some (.inl w) ∧ Q w M1)
def c119_87 (x1 x2 x3 x4 x5 x6 : Int) (M : ev_M) (Q : Int → ev_M → Prop) : Prop := ev 119 87 [(0, .inr (.inr (some 30))), (1, .inl x1), (2, .inl x2), (3, .inl x3), (4, .inl x4), (5, .inl x5), (6, .inl x6)] [] M (fun v M1 => ∃ w : Int, v = some (.inl w) ∧ Q w M1)
def c119_93 (x1 x2 x3 x4 : Int) (M : ev_M) (Q : Int → ev_M → Prop) : Prop := ev 119 93 [(0, .inr (.inr (some 30))), (1, .inl x1), (2, .inl x2), (3, .inl x3), (4, .inl x4)] [] M (fun v M1 => ∃ w : Int, v = some (.inl w) ∧ Q w M1)
set_option maxRecDepth 10000 in
theorem b119 {x1 x2 : Int} {M : ev_M} {Q : Int → ev_M → Prop}
    (h : c119_5 x1 x2 0 0 M Q) : m119 x1 x2 M Q := by
  unfold m119
  refine ev_pu (st' := [.inl 0]) (pc' := 1) rfl rfl rfl rfl ?_
  refine ev_lo (lo' := [(3, .inl 0), (0, .inr (.inr (some 30))), (1, .inl x1), (2, .inl x2)]) (st' := []) (pc' := 2) rfl rfl rfl rfl ?_
  refine ev_pu (st' := [.inl 0]) (pc' := 3) rfl rfl rfl rfl ?_
  refine ev_lo (lo' := [(4, .inl 0), (3, .inl 0), (0, .inr (.inr (some 30))), (1, .inl x1), (2, .inl x2)]) (st' := []) (pc' := 5) rfl rfl rfl rfl ?_
  exact ev_pick [0, 1, 2, 3, 4] rfl rfl h
set_option maxRecDepth 10000 in
theorem b119_5 {x1 x2 x3 x4 : Int} {M : ev_M} {Q : Int → ev_M → Prop}
    (h : (10 ≤ x4 → ((x3 = 0 ∨ x3 = 1) ∧ Q x3 M)) ∧ (¬ (10 ≤ x4) → (tm_iI (10 * x2) ∧ (tm_iI ((10 * x2) + x4) ∧ ((0 ≤ ((10 * x2) + x4) ∧ ((10 * x2) + x4) < 610) ∧ (c119_29 x1 x2 x3 x4 (aM_ways M ((10 * x2) + x4).toNat) x1 M Q)))))) : c119_5 x1 x2 x3 x4 M Q := by
  unfold c119_5
  refine ev_lo (lo' := [(0, .inr (.inr (some 30))), (1, .inl x1), (2, .inl x2), (3, .inl x3), (4, .inl x4)]) (st' := [.inl x4]) (pc' := 7) rfl rfl rfl rfl ?_
  refine ev_pu (st' := [.inl 10, .inl x4]) (pc' := 9) rfl rfl rfl rfl ?_
  refine ev_icmp (pc' := 99) (pc2 := 12) rfl (by decide) rfl rfl (fun hc => ?_) (fun hc => ?_)
  · replace h := h.1 (of_decide_eq_true hc)
    refine ev_lo (lo' := [(0, .inr (.inr (some 30))), (1, .inl x1), (2, .inl x2), (3, .inl x3), (4, .inl x4)]) (st' := [.inl x3]) (pc' := 100) rfl rfl rfl rfl ?_
    obtain ⟨hs, h⟩ := h
    exact ev_rtZ rfl rfl hs ⟨_, rfl, h⟩
  · replace h := h.2 (of_decide_eq_false hc)
    refine ev_lo (lo' := [(0, .inr (.inr (some 30))), (1, .inl x1), (2, .inl x2), (3, .inl x3), (4, .inl x4)]) (st' := [.inr (.inr (some 30))]) (pc' := 13) rfl rfl rfl rfl ?_
    refine ev_get (v := .inr (.inr (some 37))) (pc' := 16) rfl rfl rfl rfl ?_
    refine ev_pu (st' := [.inl 10, .inr (.inr (some 37))]) (pc' := 18) rfl rfl rfl rfl ?_
    refine ev_lo (lo' := [(0, .inr (.inr (some 30))), (1, .inl x1), (2, .inl x2), (3, .inl x3), (4, .inl x4)]) (st' := [.inl x2, .inl 10, .inr (.inr (some 37))]) (pc' := 19) rfl rfl rfl rfl ?_
    obtain ⟨hs, h⟩ := h
    refine ev_ii (f := fun a b => a * b) (pc' := 20) rfl rfl (fun _ => rfl) (tm_mul hs) rfl ?_
    refine ev_lo (lo' := [(0, .inr (.inr (some 30))), (1, .inl x1), (2, .inl x2), (3, .inl x3), (4, .inl x4)]) (st' := [.inl x4, .inl (10 * x2), .inr (.inr (some 37))]) (pc' := 22) rfl rfl rfl rfl ?_
    obtain ⟨hs, h⟩ := h
    refine ev_ii (f := fun a b => a + b) (pc' := 23) rfl rfl (fun _ => rfl) (tm_add hs) rfl ?_
    obtain ⟨hs0, h⟩ := h
    refine ev_ald (t := 0) (n := 610) (f := aM_ways M) (w := fun x => .inl x) (pc' := 24) rfl rfl (fun _ _ => rfl) rfl hs0 rfl ?_
    refine ev_lo (lo' := [(5, .inl (aM_ways M ((10 * x2) + x4).toNat)), (0, .inr (.inr (some 30))), (1, .inl x1), (2, .inl x2), (3, .inl x3), (4, .inl x4)]) (st' := []) (pc' := 26) rfl rfl rfl rfl ?_
    refine ev_lo (lo' := [(5, .inl (aM_ways M ((10 * x2) + x4).toNat)), (0, .inr (.inr (some 30))), (1, .inl x1), (2, .inl x2), (3, .inl x3), (4, .inl x4)]) (st' := [.inl x1]) (pc' := 27) rfl rfl rfl rfl ?_
    refine ev_lo (lo' := [(6, .inl x1), (5, .inl (aM_ways M ((10 * x2) + x4).toNat)), (0, .inr (.inr (some 30))), (1, .inl x1), (2, .inl x2), (3, .inl x3), (4, .inl x4)]) (st' := []) (pc' := 29) rfl rfl rfl rfl ?_
    exact ev_pick [0, 1, 2, 3, 4, 5, 6] rfl rfl h
set_option maxRecDepth 10000 in
theorem b119_29 {x1 x2 x3 x4 x5 x6 : Int} {M : ev_M} {Q : Int → ev_M → Prop}
    (h : ((sM_length M) < x6 → (c119_93 x1 x2 x3 x4 M Q)) ∧ (¬ ((sM_length M) < x6) → ((x5 < 0 → (c119_93 x1 x2 x3 x4 M Q)) ∧ (¬ (x5 < 0) → (m101 x4 x1 x6 M (fun w1 M1 => (w1 = 0 → (c119_87 x1 x2 x3 x4 x5 x6 M1 Q)) ∧ (¬ (w1 = 0) → (tm_iI (60 * x6) ∧ (tm_iI ((60 * x6) + x5) ∧ ((0 ≤ ((60 * x6) + x5) ∧ ((60 * x6) + x5) < 660) ∧ ((¬ (aM_front M1 ((60 * x6) + x5).toNat) = 0 → (c119_87 x1 x2 x3 x4 x5 x6 M1 Q)) ∧ (¬ (¬ (aM_front M1 ((60 * x6) + x5).toNat) = 0) → (tm_iI (60 * x6) ∧ (tm_iI ((60 * x6) + x5) ∧ ((0 ≤ ((60 * x6) + x5) ∧ ((60 * x6) + x5) < 660) ∧ (c119_87 x1 x2 1 x4 x5 x6 (ev_sA M1 43 ((60 * x6) + x5).toNat 1) Q)))))))))))))))) : c119_29 x1 x2 x3 x4 x5 x6 M Q := by
  unfold c119_29
  refine ev_lo (lo' := [(0, .inr (.inr (some 30))), (1, .inl x1), (2, .inl x2), (3, .inl x3), (4, .inl x4), (5, .inl x5), (6, .inl x6)]) (st' := [.inl x6]) (pc' := 31) rfl rfl rfl rfl ?_
  refine ev_lo (lo' := [(0, .inr (.inr (some 30))), (1, .inl x1), (2, .inl x2), (3, .inl x3), (4, .inl x4), (5, .inl x5), (6, .inl x6)]) (st' := [.inr (.inr (some 30)), .inl x6]) (pc' := 32) rfl rfl rfl rfl ?_
  refine ev_get (v := .inl (sM_length M)) (pc' := 35) rfl rfl rfl rfl ?_
  refine ev_icmp (pc' := 93) (pc2 := 38) rfl (by decide) rfl rfl (fun hc => ?_) (fun hc => ?_)
  · replace h := h.1 (of_decide_eq_true hc)
    exact ev_pick [0, 1, 2, 3, 4] rfl rfl h
  · replace h := h.2 (of_decide_eq_false hc)
    refine ev_lo (lo' := [(0, .inr (.inr (some 30))), (1, .inl x1), (2, .inl x2), (3, .inl x3), (4, .inl x4), (5, .inl x5), (6, .inl x6)]) (st' := [.inl x5]) (pc' := 40) rfl rfl rfl rfl ?_
    refine ev_ifT (pc' := 93) (pc2 := 43) rfl (by decide) rfl rfl (fun hc => ?_) (fun hc => ?_)
    · replace h := h.1 (of_decide_eq_true hc)
      exact ev_pick [0, 1, 2, 3, 4] rfl rfl h
    · replace h := h.2 (of_decide_eq_false hc)
      refine ev_lo (lo' := [(0, .inr (.inr (some 30))), (1, .inl x1), (2, .inl x2), (3, .inl x3), (4, .inl x4), (5, .inl x5), (6, .inl x6)]) (st' := [.inr (.inr (some 30))]) (pc' := 44) rfl rfl rfl rfl ?_
      refine ev_lo (lo' := [(0, .inr (.inr (some 30))), (1, .inl x1), (2, .inl x2), (3, .inl x3), (4, .inl x4), (5, .inl x5), (6, .inl x6)]) (st' := [.inl x4, .inr (.inr (some 30))]) (pc' := 46) rfl rfl rfl rfl ?_
      refine ev_lo (lo' := [(0, .inr (.inr (some 30))), (1, .inl x1), (2, .inl x2), (3, .inl x3), (4, .inl x4), (5, .inl x5), (6, .inl x6)]) (st' := [.inl x1, .inl x4, .inr (.inr (some 30))]) (pc' := 47) rfl rfl rfl rfl ?_
      refine ev_lo (lo' := [(0, .inr (.inr (some 30))), (1, .inl x1), (2, .inl x2), (3, .inl x3), (4, .inl x4), (5, .inl x5), (6, .inl x6)]) (st' := [.inl x6, .inl x1, .inl x4, .inr (.inr (some 30))]) (pc' := 49) rfl rfl rfl rfl ?_
      refine ev_call (as := [.inr (.inr (some 30)), .inl x4, .inl x1, .inl x6]) (r := []) (pc' := 52) rfl rfl (Nat.le_of_ble_eq_true rfl) (Nat.le_of_ble_eq_true rfl) ⟨rfl, rfl⟩ (Nat.le_of_ble_eq_true rfl) rfl rfl rfl rfl ?_
      refine ev.post h (fun v M1 h => ?_)
      obtain ⟨w1, rfl, h⟩ := h
      show ev 119 52 [(0, .inr (.inr (some 30))), (1, .inl x1), (2, .inl x2), (3, .inl x3), (4, .inl x4), (5, .inl x5), (6, .inl x6)] [.inl w1] M1 _
      refine ev_ifT (pc' := 87) (pc2 := 55) rfl (by decide) rfl rfl (fun hc => ?_) (fun hc => ?_)
      · replace h := h.1 (of_decide_eq_true hc)
        exact ev_pick [0, 1, 2, 3, 4, 5, 6] rfl rfl h
      · replace h := h.2 (of_decide_eq_false hc)
        refine ev_lo (lo' := [(0, .inr (.inr (some 30))), (1, .inl x1), (2, .inl x2), (3, .inl x3), (4, .inl x4), (5, .inl x5), (6, .inl x6)]) (st' := [.inr (.inr (some 30))]) (pc' := 56) rfl rfl rfl rfl ?_
        refine ev_get (v := .inr (.inr (some 43))) (pc' := 59) rfl rfl rfl rfl ?_
        refine ev_pu (st' := [.inl 60, .inr (.inr (some 43))]) (pc' := 61) rfl rfl rfl rfl ?_
        refine ev_lo (lo' := [(0, .inr (.inr (some 30))), (1, .inl x1), (2, .inl x2), (3, .inl x3), (4, .inl x4), (5, .inl x5), (6, .inl x6)]) (st' := [.inl x6, .inl 60, .inr (.inr (some 43))]) (pc' := 63) rfl rfl rfl rfl ?_
        obtain ⟨hs, h⟩ := h
        refine ev_ii (f := fun a b => a * b) (pc' := 64) rfl rfl (fun _ => rfl) (tm_mul hs) rfl ?_
        refine ev_lo (lo' := [(0, .inr (.inr (some 30))), (1, .inl x1), (2, .inl x2), (3, .inl x3), (4, .inl x4), (5, .inl x5), (6, .inl x6)]) (st' := [.inl x5, .inl (60 * x6), .inr (.inr (some 43))]) (pc' := 66) rfl rfl rfl rfl ?_
        obtain ⟨hs, h⟩ := h
        refine ev_ii (f := fun a b => a + b) (pc' := 67) rfl rfl (fun _ => rfl) (tm_add hs) rfl ?_
        obtain ⟨hs0, h⟩ := h
        refine ev_ald (t := 2) (n := 660) (f := aM_front M1) (w := fun x => .inl x) (pc' := 68) rfl rfl (fun _ _ => rfl) rfl hs0 rfl ?_
        refine ev_ifT (pc' := 87) (pc2 := 71) rfl (by decide) rfl rfl (fun hc => ?_) (fun hc => ?_)
        · replace h := h.1 (of_decide_eq_true hc)
          exact ev_pick [0, 1, 2, 3, 4, 5, 6] rfl rfl h
        · replace h := h.2 (of_decide_eq_false hc)
          refine ev_lo (lo' := [(0, .inr (.inr (some 30))), (1, .inl x1), (2, .inl x2), (3, .inl x3), (4, .inl x4), (5, .inl x5), (6, .inl x6)]) (st' := [.inr (.inr (some 30))]) (pc' := 72) rfl rfl rfl rfl ?_
          refine ev_get (v := .inr (.inr (some 43))) (pc' := 75) rfl rfl rfl rfl ?_
          refine ev_pu (st' := [.inl 60, .inr (.inr (some 43))]) (pc' := 77) rfl rfl rfl rfl ?_
          refine ev_lo (lo' := [(0, .inr (.inr (some 30))), (1, .inl x1), (2, .inl x2), (3, .inl x3), (4, .inl x4), (5, .inl x5), (6, .inl x6)]) (st' := [.inl x6, .inl 60, .inr (.inr (some 43))]) (pc' := 79) rfl rfl rfl rfl ?_
          obtain ⟨hs, h⟩ := h
          refine ev_ii (f := fun a b => a * b) (pc' := 80) rfl rfl (fun _ => rfl) (tm_mul hs) rfl ?_
          refine ev_lo (lo' := [(0, .inr (.inr (some 30))), (1, .inl x1), (2, .inl x2), (3, .inl x3), (4, .inl x4), (5, .inl x5), (6, .inl x6)]) (st' := [.inl x5, .inl (60 * x6), .inr (.inr (some 43))]) (pc' := 82) rfl rfl rfl rfl ?_
          obtain ⟨hs, h⟩ := h
          refine ev_ii (f := fun a b => a + b) (pc' := 83) rfl rfl (fun _ => rfl) (tm_add hs) rfl ?_
          refine ev_pu (st' := [.inl 1, .inl ((60 * x6) + x5), .inr (.inr (some 43))]) (pc' := 84) rfl rfl rfl rfl ?_
          obtain ⟨hs0, h⟩ := h
          refine ev_bast (n := 660) (f := aM_front M1) (M' := ev_sA M1 43 ((60 * x6) + x5).toNat 1) (pc' := 85) rfl rfl hs0 (by decide) (hp_a43 _ _ _) rfl ?_
          refine ev_pu (st' := [.inl 1]) (pc' := 86) rfl rfl rfl rfl ?_
          refine ev_lo (lo' := [(3, .inl 1), (0, .inr (.inr (some 30))), (1, .inl x1), (2, .inl x2), (4, .inl x4), (5, .inl x5), (6, .inl x6)]) (st' := []) (pc' := 87) rfl rfl rfl rfl ?_
          exact ev_pick [0, 1, 2, 3, 4, 5, 6] rfl rfl h
set_option maxRecDepth 10000 in
theorem b119_87 {x1 x2 x3 x4 x5 x6 : Int} {M : ev_M} {Q : Int → ev_M → Prop}
    (h : tm_iI (x6 + 1) ∧ (c119_29 x1 x2 x3 x4 x5 (x6 + 1) M Q)) : c119_87 x1 x2 x3 x4 x5 x6 M Q := by
  unfold c119_87
  obtain ⟨hs, h⟩ := h
  refine ev_iinc (lo' := [(6, .inl (x6 + 1)), (0, .inr (.inr (some 30))), (1, .inl x1), (2, .inl x2), (3, .inl x3), (4, .inl x4), (5, .inl x5)]) (pc' := 90) rfl rfl (by decide) (tm_add hs) rfl rfl ?_
  refine ev_br (pc' := 29) (st' := []) rfl rfl rfl ?_
  exact ev_pick [0, 1, 2, 3, 4, 5, 6] rfl rfl h
set_option maxRecDepth 10000 in
theorem b119_93 {x1 x2 x3 x4 : Int} {M : ev_M} {Q : Int → ev_M → Prop}
    (h : tm_iI (x4 + 1) ∧ (c119_5 x1 x2 x3 (x4 + 1) M Q)) : c119_93 x1 x2 x3 x4 M Q := by
  unfold c119_93
  obtain ⟨hs, h⟩ := h
  refine ev_iinc (lo' := [(4, .inl (x4 + 1)), (0, .inr (.inr (some 30))), (1, .inl x1), (2, .inl x2), (3, .inl x3)]) (pc' := 96) rfl rfl (by decide) (tm_add hs) rfl rfl ?_
  refine ev_br (pc' := 5) (st' := []) rfl rfl rfl ?_
  exact ev_pick [0, 1, 2, 3, 4] rfl rfl h
/-! NulledForestModel.findFronts()V -/
def m120 (M : ev_M) (Q : ev_M → Prop) : Prop := ev 120 0 [(0, .inr (.inr (some 30)))] [] M (fun v M1 => v = none ∧ Q M1)
def c120_2 (x1 : Int) (M : ev_M) (Q : ev_M → Prop) : Prop := ev 120 2 [(0, .inr (.inr (some 30))), (1, .inl x1)] [] M (fun v M1 => v = none ∧ Q M1)
def c120_31 (x1 : Int) (M : ev_M) (Q : ev_M → Prop) : Prop := ev 120 31 [(0, .inr (.inr (some 30))), (1, .inl x1)] [] M (fun v M1 => v = none ∧ Q M1)
def c120_39 (x1 x2 : Int) (M : ev_M) (Q : ev_M → Prop) : Prop := ev 120 39 [(0, .inr (.inr (some 30))), (1, .inl x1), (2, .inl x2)] [] M (fun v M1 => v = none ∧ Q M1)
def c120_49 (x1 x2 x3 : Int) (M : ev_M) (Q : ev_M → Prop) : Prop := ev 120 49 [(0, .inr (.inr (some 30))), (1, .inl x1), (2, .inl x2), (3, .inl x3)] [] M (fun v M1 => v = none ∧ Q M1)
def c120_80 (x1 x2 x3 : Int) (M : ev_M) (Q : ev_M → Prop) : Prop := ev 120 80 [(0, .inr (.inr (some 30))), (1, .inl x1), (2, .inl x2), (3, .inl x3)] [] M (fun v M1 => v = none ∧ Q M1)
def c120_84 (x2 x3 : Int) (M : ev_M) (Q : ev_M → Prop) : Prop := ev 120 84 [(0, .inr (.inr (some 30))), (2, .inl x2), (3, .inl x3)] [] M (fun v M1 => v = none ∧ Q M1)
def c120_89 (x2 x3 t0 : Int) (M : ev_M) (Q : ev_M → Prop) : Prop := ev 120 89 [(0, .inr (.inr (some 30))), (2, .inl x2), (3, .inl x3)] [.inl t0] M (fun v M1 => v = none ∧ Q M1)
set_option maxRecDepth 10000 in
theorem b120 {M : ev_M} {Q : ev_M → Prop}
    (h : c120_2 0 M Q) : m120 M Q := by
  unfold m120
  refine ev_pu (st' := [.inl 0]) (pc' := 1) rfl rfl rfl rfl ?_
  refine ev_lo (lo' := [(1, .inl 0), (0, .inr (.inr (some 30)))]) (st' := []) (pc' := 2) rfl rfl rfl rfl ?_
  exact ev_pick [0, 1] rfl rfl h
set_option maxRecDepth 10000 in
theorem b120_2 {x1 : Int} {M : ev_M} {Q : ev_M → Prop}
    (h : (660 ≤ x1 → (c120_31 1 (ev_sA M 43 0 1) Q)) ∧ (¬ (660 ≤ x1) → ((0 ≤ x1 ∧ x1 < 660) ∧ (tm_iI (x1 + 1) ∧ (c120_2 (x1 + 1) (ev_sA M 43 (x1).toNat 0) Q))))) : c120_2 x1 M Q := by
  unfold c120_2
  refine ev_lo (lo' := [(0, .inr (.inr (some 30))), (1, .inl x1)]) (st' := [.inl x1]) (pc' := 3) rfl rfl rfl rfl ?_
  refine ev_pu (st' := [.inl 660, .inl x1]) (pc' := 6) rfl rfl rfl rfl ?_
  refine ev_icmp (pc' := 22) (pc2 := 9) rfl (by decide) rfl rfl (fun hc => ?_) (fun hc => ?_)
  · replace h := h.1 (of_decide_eq_true hc)
    refine ev_lo (lo' := [(0, .inr (.inr (some 30))), (1, .inl x1)]) (st' := [.inr (.inr (some 30))]) (pc' := 23) rfl rfl rfl rfl ?_
    refine ev_get (v := .inr (.inr (some 43))) (pc' := 26) rfl rfl rfl rfl ?_
    refine ev_pu (st' := [.inl 0, .inr (.inr (some 43))]) (pc' := 27) rfl rfl rfl rfl ?_
    refine ev_pu (st' := [.inl 1, .inl 0, .inr (.inr (some 43))]) (pc' := 28) rfl rfl rfl rfl ?_
    refine ev_bast (n := 660) (f := aM_front M) (M' := ev_sA M 43 0 1) (pc' := 29) rfl rfl (by decide) (by decide) (hp_a43 _ _ _) rfl ?_
    refine ev_pu (st' := [.inl 1]) (pc' := 30) rfl rfl rfl rfl ?_
    refine ev_lo (lo' := [(1, .inl 1), (0, .inr (.inr (some 30)))]) (st' := []) (pc' := 31) rfl rfl rfl rfl ?_
    exact ev_pick [0, 1] rfl rfl h
  · replace h := h.2 (of_decide_eq_false hc)
    refine ev_lo (lo' := [(0, .inr (.inr (some 30))), (1, .inl x1)]) (st' := [.inr (.inr (some 30))]) (pc' := 10) rfl rfl rfl rfl ?_
    refine ev_get (v := .inr (.inr (some 43))) (pc' := 13) rfl rfl rfl rfl ?_
    refine ev_lo (lo' := [(0, .inr (.inr (some 30))), (1, .inl x1)]) (st' := [.inl x1, .inr (.inr (some 43))]) (pc' := 14) rfl rfl rfl rfl ?_
    refine ev_pu (st' := [.inl 0, .inl x1, .inr (.inr (some 43))]) (pc' := 15) rfl rfl rfl rfl ?_
    obtain ⟨hs0, h⟩ := h
    refine ev_bast (n := 660) (f := aM_front M) (M' := ev_sA M 43 (x1).toNat 0) (pc' := 16) rfl rfl hs0 (by decide) (hp_a43 _ _ _) rfl ?_
    obtain ⟨hs, h⟩ := h
    refine ev_iinc (lo' := [(1, .inl (x1 + 1)), (0, .inr (.inr (some 30)))]) (pc' := 19) rfl rfl (by decide) (tm_add hs) rfl rfl ?_
    refine ev_br (pc' := 2) (st' := []) rfl rfl rfl ?_
    exact ev_pick [0, 1] rfl rfl h
set_option maxRecDepth 10000 in
theorem b120_31 {x1 : Int} {M : ev_M} {Q : ev_M → Prop}
    (h : (x1 = 0 → (Q M)) ∧ (¬ (x1 = 0) → (c120_39 0 0 M Q))) : c120_31 x1 M Q := by
  unfold c120_31
  refine ev_lo (lo' := [(0, .inr (.inr (some 30))), (1, .inl x1)]) (st' := [.inl x1]) (pc' := 32) rfl rfl rfl rfl ?_
  refine ev_ifT (pc' := 105) (pc2 := 35) rfl (by decide) rfl rfl (fun hc => ?_) (fun hc => ?_)
  · replace h := h.1 (of_decide_eq_true hc)
    exact ev_rt rfl rfl rfl ⟨rfl, h⟩
  · replace h := h.2 (of_decide_eq_false hc)
    refine ev_pu (st' := [.inl 0]) (pc' := 36) rfl rfl rfl rfl ?_
    refine ev_lo (lo' := [(1, .inl 0), (0, .inr (.inr (some 30)))]) (st' := []) (pc' := 37) rfl rfl rfl rfl ?_
    refine ev_pu (st' := [.inl 0]) (pc' := 38) rfl rfl rfl rfl ?_
    refine ev_lo (lo' := [(2, .inl 0), (1, .inl 0), (0, .inr (.inr (some 30)))]) (st' := []) (pc' := 39) rfl rfl rfl rfl ?_
    exact ev_pick [0, 1, 2] rfl rfl h
set_option maxRecDepth 10000 in
theorem b120_39 {x1 x2 : Int} {M : ev_M} {Q : ev_M → Prop}
    (h : ((sM_length M) < x2 → (c120_31 x1 M Q)) ∧ (¬ ((sM_length M) < x2) → (c120_49 x1 x2 0 M Q))) : c120_39 x1 x2 M Q := by
  unfold c120_39
  refine ev_lo (lo' := [(0, .inr (.inr (some 30))), (1, .inl x1), (2, .inl x2)]) (st' := [.inl x2]) (pc' := 40) rfl rfl rfl rfl ?_
  refine ev_lo (lo' := [(0, .inr (.inr (some 30))), (1, .inl x1), (2, .inl x2)]) (st' := [.inr (.inr (some 30)), .inl x2]) (pc' := 41) rfl rfl rfl rfl ?_
  refine ev_get (v := .inl (sM_length M)) (pc' := 44) rfl rfl rfl rfl ?_
  refine ev_icmp (pc' := 102) (pc2 := 47) rfl (by decide) rfl rfl (fun hc => ?_) (fun hc => ?_)
  · replace h := h.1 (of_decide_eq_true hc)
    refine ev_br (pc' := 31) (st' := []) rfl rfl rfl ?_
    exact ev_pick [0, 1] rfl rfl h
  · replace h := h.2 (of_decide_eq_false hc)
    refine ev_pu (st' := [.inl 0]) (pc' := 48) rfl rfl rfl rfl ?_
    refine ev_lo (lo' := [(3, .inl 0), (0, .inr (.inr (some 30))), (1, .inl x1), (2, .inl x2)]) (st' := []) (pc' := 49) rfl rfl rfl rfl ?_
    exact ev_pick [0, 1, 2, 3] rfl rfl h
set_option maxRecDepth 10000 in
theorem b120_49 {x1 x2 x3 : Int} {M : ev_M} {Q : ev_M → Prop}
    (h : ((sM_states M) ≤ x3 → (tm_iI (x2 + 1) ∧ (c120_39 x1 (x2 + 1) M Q))) ∧ (¬ ((sM_states M) ≤ x3) → (tm_iI (60 * x2) ∧ (tm_iI ((60 * x2) + x3) ∧ ((0 ≤ ((60 * x2) + x3) ∧ ((60 * x2) + x3) < 660) ∧ (((aM_front M ((60 * x2) + x3).toNat) = 0 → (c120_80 x1 x2 x3 M Q)) ∧ (¬ ((aM_front M ((60 * x2) + x3).toNat) = 0) → (m119 x2 x3 M (fun w1 M1 => (¬ w1 = 0 → (c120_84 x2 x3 M1 Q)) ∧ (¬ (¬ w1 = 0) → (c120_80 x1 x2 x3 M1 Q))))))))))) : c120_49 x1 x2 x3 M Q := by
  unfold c120_49
  refine ev_lo (lo' := [(0, .inr (.inr (some 30))), (1, .inl x1), (2, .inl x2), (3, .inl x3)]) (st' := [.inl x3]) (pc' := 50) rfl rfl rfl rfl ?_
  refine ev_lo (lo' := [(0, .inr (.inr (some 30))), (1, .inl x1), (2, .inl x2), (3, .inl x3)]) (st' := [.inr (.inr (some 30)), .inl x3]) (pc' := 51) rfl rfl rfl rfl ?_
  refine ev_get (v := .inl (sM_states M)) (pc' := 54) rfl rfl rfl rfl ?_
  refine ev_icmp (pc' := 96) (pc2 := 57) rfl (by decide) rfl rfl (fun hc => ?_) (fun hc => ?_)
  · replace h := h.1 (of_decide_eq_true hc)
    obtain ⟨hs, h⟩ := h
    refine ev_iinc (lo' := [(2, .inl (x2 + 1)), (0, .inr (.inr (some 30))), (1, .inl x1), (3, .inl x3)]) (pc' := 99) rfl rfl (by decide) (tm_add hs) rfl rfl ?_
    refine ev_br (pc' := 39) (st' := []) rfl rfl rfl ?_
    exact ev_pick [0, 1, 2] rfl rfl h
  · replace h := h.2 (of_decide_eq_false hc)
    refine ev_lo (lo' := [(0, .inr (.inr (some 30))), (1, .inl x1), (2, .inl x2), (3, .inl x3)]) (st' := [.inr (.inr (some 30))]) (pc' := 58) rfl rfl rfl rfl ?_
    refine ev_get (v := .inr (.inr (some 43))) (pc' := 61) rfl rfl rfl rfl ?_
    refine ev_pu (st' := [.inl 60, .inr (.inr (some 43))]) (pc' := 63) rfl rfl rfl rfl ?_
    refine ev_lo (lo' := [(0, .inr (.inr (some 30))), (1, .inl x1), (2, .inl x2), (3, .inl x3)]) (st' := [.inl x2, .inl 60, .inr (.inr (some 43))]) (pc' := 64) rfl rfl rfl rfl ?_
    obtain ⟨hs, h⟩ := h
    refine ev_ii (f := fun a b => a * b) (pc' := 65) rfl rfl (fun _ => rfl) (tm_mul hs) rfl ?_
    refine ev_lo (lo' := [(0, .inr (.inr (some 30))), (1, .inl x1), (2, .inl x2), (3, .inl x3)]) (st' := [.inl x3, .inl (60 * x2), .inr (.inr (some 43))]) (pc' := 66) rfl rfl rfl rfl ?_
    obtain ⟨hs, h⟩ := h
    refine ev_ii (f := fun a b => a + b) (pc' := 67) rfl rfl (fun _ => rfl) (tm_add hs) rfl ?_
    obtain ⟨hs0, h⟩ := h
    refine ev_ald (t := 2) (n := 660) (f := aM_front M) (w := fun x => .inl x) (pc' := 68) rfl rfl (fun _ _ => rfl) rfl hs0 rfl ?_
    refine ev_ifT (pc' := 80) (pc2 := 71) rfl (by decide) rfl rfl (fun hc => ?_) (fun hc => ?_)
    · replace h := h.1 (of_decide_eq_true hc)
      exact ev_pick [0, 1, 2, 3] rfl rfl h
    · replace h := h.2 (of_decide_eq_false hc)
      refine ev_lo (lo' := [(0, .inr (.inr (some 30))), (1, .inl x1), (2, .inl x2), (3, .inl x3)]) (st' := [.inr (.inr (some 30))]) (pc' := 72) rfl rfl rfl rfl ?_
      refine ev_lo (lo' := [(0, .inr (.inr (some 30))), (1, .inl x1), (2, .inl x2), (3, .inl x3)]) (st' := [.inl x2, .inr (.inr (some 30))]) (pc' := 73) rfl rfl rfl rfl ?_
      refine ev_lo (lo' := [(0, .inr (.inr (some 30))), (1, .inl x1), (2, .inl x2), (3, .inl x3)]) (st' := [.inl x3, .inl x2, .inr (.inr (some 30))]) (pc' := 74) rfl rfl rfl rfl ?_
      refine ev_call (as := [.inr (.inr (some 30)), .inl x2, .inl x3]) (r := []) (pc' := 77) rfl rfl (Nat.le_of_ble_eq_true rfl) (Nat.le_of_ble_eq_true rfl) ⟨rfl, rfl⟩ (Nat.le_of_ble_eq_true rfl) rfl rfl rfl rfl ?_
      refine ev.post h (fun v M1 h => ?_)
      obtain ⟨w1, rfl, h⟩ := h
      show ev 120 77 [(0, .inr (.inr (some 30))), (1, .inl x1), (2, .inl x2), (3, .inl x3)] [.inl w1] M1 _
      refine ev_ifT (pc' := 84) (pc2 := 80) rfl (by decide) rfl rfl (fun hc => ?_) (fun hc => ?_)
      · replace h := h.1 (of_decide_eq_true hc)
        exact ev_pick [0, 2, 3] rfl rfl h
      · replace h := h.2 (of_decide_eq_false hc)
        exact ev_pick [0, 1, 2, 3] rfl rfl h
set_option maxRecDepth 10000 in
theorem b120_80 {x1 x2 x3 : Int} {M : ev_M} {Q : ev_M → Prop}
    (h : (x1 = 0 → (c120_89 x2 x3 0 M Q)) ∧ (¬ (x1 = 0) → (c120_84 x2 x3 M Q))) : c120_80 x1 x2 x3 M Q := by
  unfold c120_80
  refine ev_lo (lo' := [(0, .inr (.inr (some 30))), (1, .inl x1), (2, .inl x2), (3, .inl x3)]) (st' := [.inl x1]) (pc' := 81) rfl rfl rfl rfl ?_
  refine ev_ifT (pc' := 88) (pc2 := 84) rfl (by decide) rfl rfl (fun hc => ?_) (fun hc => ?_)
  · replace h := h.1 (of_decide_eq_true hc)
    refine ev_pu (st' := [.inl 0]) (pc' := 89) rfl rfl rfl rfl ?_
    exact ev_pick [0, 2, 3] rfl rfl h
  · replace h := h.2 (of_decide_eq_false hc)
    exact ev_pick [0, 2, 3] rfl rfl h
set_option maxRecDepth 10000 in
theorem b120_84 {x2 x3 : Int} {M : ev_M} {Q : ev_M → Prop}
    (h : c120_89 x2 x3 1 M Q) : c120_84 x2 x3 M Q := by
  unfold c120_84
  refine ev_pu (st' := [.inl 1]) (pc' := 85) rfl rfl rfl rfl ?_
  refine ev_br (pc' := 89) (st' := [.inl 1]) rfl rfl rfl ?_
  exact ev_pick [0, 2, 3] rfl rfl h
set_option maxRecDepth 10000 in
theorem b120_89 {x2 x3 t0 : Int} {M : ev_M} {Q : ev_M → Prop}
    (h : tm_iI (x3 + 1) ∧ (c120_49 t0 x2 (x3 + 1) M Q)) : c120_89 x2 x3 t0 M Q := by
  unfold c120_89
  refine ev_lo (lo' := [(1, .inl t0), (0, .inr (.inr (some 30))), (2, .inl x2), (3, .inl x3)]) (st' := []) (pc' := 90) rfl rfl rfl rfl ?_
  obtain ⟨hs, h⟩ := h
  refine ev_iinc (lo' := [(3, .inl (x3 + 1)), (1, .inl t0), (0, .inr (.inr (some 30))), (2, .inl x2)]) (pc' := 93) rfl rfl (by decide) (tm_add hs) rfl rfl ?_
  refine ev_br (pc' := 49) (st' := []) rfl rfl rfl ?_
  exact ev_pick [0, 1, 2, 3] rfl rfl h
/-! NulledForestModel.look()V -/
def m121 (M : ev_M) (Q : ev_M → Prop) : Prop := ev 121 0 [(0, .inr (.inr (some 30)))] [] M (fun v M1 => v = none ∧ Q M1)
set_option maxRecDepth 10000 in
theorem b121 {M : ev_M} {Q : ev_M → Prop}
    (h : ((sM_known M) = 0 → (m103 (ev_sS (ev_sS M 10 0) 16 1) (fun M1 => m105 M1 (fun M2 => m115 M2 (fun M3 => m118 M3 (fun M4 => m120 M4 (fun M5 => Q M5))))))) ∧ (¬ ((sM_known M) = 0) → (Q (ev_sS M 10 0)))) : m121 M Q := by
  unfold m121
  refine ev_lo (lo' := [(0, .inr (.inr (some 30)))]) (st' := [.inr (.inr (some 30))]) (pc' := 1) rfl rfl rfl rfl ?_
  refine ev_pu (st' := [.inl 0, .inr (.inr (some 30))]) (pc' := 2) rfl rfl rfl rfl ?_
  refine ev_put (M' := ev_sS M 10 0) (pc' := 5) rfl rfl (Nat.le_of_ble_eq_true rfl) rfl (hp_s10 _ _) rfl ?_
  refine ev_lo (lo' := [(0, .inr (.inr (some 30)))]) (st' := [.inr (.inr (some 30))]) (pc' := 6) rfl rfl rfl rfl ?_
  refine ev_get (v := .inl (sM_known M)) (pc' := 9) rfl rfl rfl rfl ?_
  refine ev_ifT (pc' := 13) (pc2 := 12) rfl (by decide) rfl rfl (fun hc => ?_) (fun hc => ?_)
  · replace h := h.1 (of_decide_eq_true hc)
    refine ev_lo (lo' := [(0, .inr (.inr (some 30)))]) (st' := [.inr (.inr (some 30))]) (pc' := 14) rfl rfl rfl rfl ?_
    refine ev_pu (st' := [.inl 1, .inr (.inr (some 30))]) (pc' := 15) rfl rfl rfl rfl ?_
    refine ev_put (M' := ev_sS (ev_sS M 10 0) 16 1) (pc' := 18) rfl rfl (Nat.le_of_ble_eq_true rfl) rfl (hp_s16 _ _) rfl ?_
    refine ev_lo (lo' := [(0, .inr (.inr (some 30)))]) (st' := [.inr (.inr (some 30))]) (pc' := 19) rfl rfl rfl rfl ?_
    refine ev_call (as := [.inr (.inr (some 30))]) (r := []) (pc' := 22) rfl rfl (Nat.le_of_ble_eq_true rfl) (Nat.le_of_ble_eq_true rfl) ⟨rfl, rfl⟩ (Nat.le_of_ble_eq_true rfl) rfl rfl rfl rfl ?_
    refine ev.post h (fun v M1 h => ?_)
    obtain ⟨rfl, h⟩ := h
    show ev 121 22 [(0, .inr (.inr (some 30)))] [] M1 _
    refine ev_lo (lo' := [(0, .inr (.inr (some 30)))]) (st' := [.inr (.inr (some 30))]) (pc' := 23) rfl rfl rfl rfl ?_
    refine ev_call (as := [.inr (.inr (some 30))]) (r := []) (pc' := 26) rfl rfl (Nat.le_of_ble_eq_true rfl) (Nat.le_of_ble_eq_true rfl) ⟨rfl, rfl⟩ (Nat.le_of_ble_eq_true rfl) rfl rfl rfl rfl ?_
    refine ev.post h (fun v M2 h => ?_)
    obtain ⟨rfl, h⟩ := h
    show ev 121 26 [(0, .inr (.inr (some 30)))] [] M2 _
    refine ev_lo (lo' := [(0, .inr (.inr (some 30)))]) (st' := [.inr (.inr (some 30))]) (pc' := 27) rfl rfl rfl rfl ?_
    refine ev_call (as := [.inr (.inr (some 30))]) (r := []) (pc' := 30) rfl rfl (Nat.le_of_ble_eq_true rfl) (Nat.le_of_ble_eq_true rfl) ⟨rfl, rfl⟩ (Nat.le_of_ble_eq_true rfl) rfl rfl rfl rfl ?_
    refine ev.post h (fun v M3 h => ?_)
    obtain ⟨rfl, h⟩ := h
    show ev 121 30 [(0, .inr (.inr (some 30)))] [] M3 _
    refine ev_lo (lo' := [(0, .inr (.inr (some 30)))]) (st' := [.inr (.inr (some 30))]) (pc' := 31) rfl rfl rfl rfl ?_
    refine ev_call (as := [.inr (.inr (some 30))]) (r := []) (pc' := 34) rfl rfl (Nat.le_of_ble_eq_true rfl) (Nat.le_of_ble_eq_true rfl) ⟨rfl, rfl⟩ (Nat.le_of_ble_eq_true rfl) rfl rfl rfl rfl ?_
    refine ev.post h (fun v M4 h => ?_)
    obtain ⟨rfl, h⟩ := h
    show ev 121 34 [(0, .inr (.inr (some 30)))] [] M4 _
    refine ev_lo (lo' := [(0, .inr (.inr (some 30)))]) (st' := [.inr (.inr (some 30))]) (pc' := 35) rfl rfl rfl rfl ?_
    refine ev_call (as := [.inr (.inr (some 30))]) (r := []) (pc' := 38) rfl rfl (Nat.le_of_ble_eq_true rfl) (Nat.le_of_ble_eq_true rfl) ⟨rfl, rfl⟩ (Nat.le_of_ble_eq_true rfl) rfl rfl rfl rfl ?_
    refine ev.post h (fun v M5 h => ?_)
    obtain ⟨rfl, h⟩ := h
    show ev 121 38 [(0, .inr (.inr (some 30)))] [] M5 _
    exact ev_rt rfl rfl rfl ⟨rfl, h⟩
  · replace h := h.2 (of_decide_eq_false hc)
    exact ev_rt rfl rfl rfl ⟨rfl, h⟩
/-! NulledForestModel.nullable(I)Z -/
def m122 (x1 : Int) (M : ev_M) (Q : Int → ev_M → Prop) : Prop := ev 122 0 [(0, .inr (.inr (some 30))), (1, .inl x1)] [] M (fun v M1 => ∃ w : Int, v = some (.inl w) ∧ Q w M1)
def c122_24 (M : ev_M) (Q : Int → ev_M → Prop) : Prop := ev 122 24 [] [] M (fun v M1 => ∃ w : Int, v = some (.inl w) ∧ Q w M1)
def c122_25 (t0 : Int) (M : ev_M) (Q : Int → ev_M → Prop) : Prop := ev 122 25 [] [.inl t0] M (fun v M1 => ∃ w : Int, v = some (.inl w) ∧ Q w M1)
set_option maxRecDepth 10000 in
theorem b122 {x1 : Int} {M : ev_M} {Q : Int → ev_M → Prop}
    (h : m121 M (fun M1 => m95 x1 M1 (fun w2 M2 => (w2 = 0 → (c122_24 M2 Q)) ∧ (¬ (w2 = 0) → ((0 ≤ x1 ∧ x1 < 6) ∧ (((aM_empty M2 (x1).toNat) = 0 → (c122_24 M2 Q)) ∧ (¬ ((aM_empty M2 (x1).toNat) = 0) → (c122_25 1 M2 Q)))))))) : m122 x1 M Q := by
  unfold m122
  refine ev_lo (lo' := [(0, .inr (.inr (some 30))), (1, .inl x1)]) (st' := [.inr (.inr (some 30))]) (pc' := 1) rfl rfl rfl rfl ?_
  refine ev_call (as := [.inr (.inr (some 30))]) (r := []) (pc' := 4) rfl rfl (Nat.le_of_ble_eq_true rfl) (Nat.le_of_ble_eq_true rfl) ⟨rfl, rfl⟩ (Nat.le_of_ble_eq_true rfl) rfl rfl rfl rfl ?_
  refine ev.post h (fun v M1 h => ?_)
  obtain ⟨rfl, h⟩ := h
  show ev 122 4 [(0, .inr (.inr (some 30))), (1, .inl x1)] [] M1 _
  refine ev_lo (lo' := [(0, .inr (.inr (some 30))), (1, .inl x1)]) (st' := [.inl x1]) (pc' := 5) rfl rfl rfl rfl ?_
  refine ev_call (as := [.inl x1]) (r := []) (pc' := 8) rfl rfl (Nat.le_of_ble_eq_true rfl) (Nat.le_of_ble_eq_true rfl) ⟨rfl, rfl⟩ (Nat.le_of_ble_eq_true rfl) rfl rfl rfl rfl ?_
  refine ev.post h (fun v M2 h => ?_)
  obtain ⟨w2, rfl, h⟩ := h
  show ev 122 8 [(0, .inr (.inr (some 30))), (1, .inl x1)] [.inl w2] M2 _
  refine ev_ifT (pc' := 24) (pc2 := 11) rfl (by decide) rfl rfl (fun hc => ?_) (fun hc => ?_)
  · replace h := h.1 (of_decide_eq_true hc)
    exact ev_pick [] rfl rfl h
  · replace h := h.2 (of_decide_eq_false hc)
    refine ev_lo (lo' := [(0, .inr (.inr (some 30))), (1, .inl x1)]) (st' := [.inr (.inr (some 30))]) (pc' := 12) rfl rfl rfl rfl ?_
    refine ev_get (v := .inr (.inr (some 38))) (pc' := 15) rfl rfl rfl rfl ?_
    refine ev_lo (lo' := [(0, .inr (.inr (some 30))), (1, .inl x1)]) (st' := [.inl x1, .inr (.inr (some 38))]) (pc' := 16) rfl rfl rfl rfl ?_
    obtain ⟨hs0, h⟩ := h
    refine ev_ald (t := 2) (n := 6) (f := aM_empty M2) (w := fun x => .inl x) (pc' := 17) rfl rfl (fun _ _ => rfl) rfl hs0 rfl ?_
    refine ev_ifT (pc' := 24) (pc2 := 20) rfl (by decide) rfl rfl (fun hc => ?_) (fun hc => ?_)
    · replace h := h.1 (of_decide_eq_true hc)
      exact ev_pick [] rfl rfl h
    · replace h := h.2 (of_decide_eq_false hc)
      refine ev_pu (st' := [.inl 1]) (pc' := 21) rfl rfl rfl rfl ?_
      refine ev_br (pc' := 25) (st' := [.inl 1]) rfl rfl rfl ?_
      exact ev_pick [] rfl rfl h
set_option maxRecDepth 10000 in
theorem b122_24 {M : ev_M} {Q : Int → ev_M → Prop}
    (h : c122_25 0 M Q) : c122_24 M Q := by
  unfold c122_24
  refine ev_pu (st' := [.inl 0]) (pc' := 25) rfl rfl rfl rfl ?_
  exact ev_pick [] rfl rfl h
set_option maxRecDepth 10000 in
theorem b122_25 {t0 : Int} {M : ev_M} {Q : Int → ev_M → Prop}
    (h : (t0 = 0 ∨ t0 = 1) ∧ Q t0 M) : c122_25 t0 M Q := by
  unfold c122_25
  obtain ⟨hs, h⟩ := h
  exact ev_rtZ rfl rfl hs ⟨_, rfl, h⟩
/-! NulledForestModel.states()I -/
def m123 (M : ev_M) (Q : Int → ev_M → Prop) : Prop := ev 123 0 [(0, .inr (.inr (some 30)))] [] M (fun v M1 => ∃ w : Int, v = some (.inl w) ∧ Q w M1)
set_option maxRecDepth 10000 in
theorem b123 {M : ev_M} {Q : Int → ev_M → Prop}
    (h : Q (sM_states M) (ev_sS M 10 0)) : m123 M Q := by
  unfold m123
  refine ev_lo (lo' := [(0, .inr (.inr (some 30)))]) (st' := [.inr (.inr (some 30))]) (pc' := 1) rfl rfl rfl rfl ?_
  refine ev_pu (st' := [.inl 0, .inr (.inr (some 30))]) (pc' := 2) rfl rfl rfl rfl ?_
  refine ev_put (M' := ev_sS M 10 0) (pc' := 5) rfl rfl (Nat.le_of_ble_eq_true rfl) rfl (hp_s10 _ _) rfl ?_
  refine ev_lo (lo' := [(0, .inr (.inr (some 30)))]) (st' := [.inr (.inr (some 30))]) (pc' := 6) rfl rfl rfl rfl ?_
  refine ev_get (v := .inl (sM_states M)) (pc' := 9) rfl rfl rfl rfl ?_
  exact ev_rt rfl rfl rfl ⟨_, rfl, h⟩
/-! NulledForestModel.isState(I)Z -/
def m124 (x1 : Int) (M : ev_M) (Q : Int → ev_M → Prop) : Prop := ev 124 0 [(0, .inr (.inr (some 30))), (1, .inl x1)] [] M (fun v M1 => ∃ w : Int, v = some (.inl w) ∧ Q w M1)
def c124_16 (M : ev_M) (Q : Int → ev_M → Prop) : Prop := ev 124 16 [] [] M (fun v M1 => ∃ w : Int, v = some (.inl w) ∧ Q w M1)
def c124_17 (t0 : Int) (M : ev_M) (Q : Int → ev_M → Prop) : Prop := ev 124 17 [] [.inl t0] M (fun v M1 => ∃ w : Int, v = some (.inl w) ∧ Q w M1)
set_option maxRecDepth 10000 in
theorem b124 {x1 : Int} {M : ev_M} {Q : Int → ev_M → Prop}
    (h : (x1 < 0 → (c124_16 M Q)) ∧ (¬ (x1 < 0) → (((sM_states M) ≤ x1 → (c124_16 M Q)) ∧ (¬ ((sM_states M) ≤ x1) → (c124_17 1 M Q))))) : m124 x1 M Q := by
  unfold m124
  refine ev_lo (lo' := [(0, .inr (.inr (some 30))), (1, .inl x1)]) (st' := [.inl x1]) (pc' := 1) rfl rfl rfl rfl ?_
  refine ev_ifT (pc' := 16) (pc2 := 4) rfl (by decide) rfl rfl (fun hc => ?_) (fun hc => ?_)
  · replace h := h.1 (of_decide_eq_true hc)
    exact ev_pick [] rfl rfl h
  · replace h := h.2 (of_decide_eq_false hc)
    refine ev_lo (lo' := [(0, .inr (.inr (some 30))), (1, .inl x1)]) (st' := [.inl x1]) (pc' := 5) rfl rfl rfl rfl ?_
    refine ev_lo (lo' := [(0, .inr (.inr (some 30))), (1, .inl x1)]) (st' := [.inr (.inr (some 30)), .inl x1]) (pc' := 6) rfl rfl rfl rfl ?_
    refine ev_get (v := .inl (sM_states M)) (pc' := 9) rfl rfl rfl rfl ?_
    refine ev_icmp (pc' := 16) (pc2 := 12) rfl (by decide) rfl rfl (fun hc => ?_) (fun hc => ?_)
    · replace h := h.1 (of_decide_eq_true hc)
      exact ev_pick [] rfl rfl h
    · replace h := h.2 (of_decide_eq_false hc)
      refine ev_pu (st' := [.inl 1]) (pc' := 13) rfl rfl rfl rfl ?_
      refine ev_br (pc' := 17) (st' := [.inl 1]) rfl rfl rfl ?_
      exact ev_pick [] rfl rfl h
set_option maxRecDepth 10000 in
theorem b124_16 {M : ev_M} {Q : Int → ev_M → Prop}
    (h : c124_17 0 M Q) : c124_16 M Q := by
  unfold c124_16
  refine ev_pu (st' := [.inl 0]) (pc' := 17) rfl rfl rfl rfl ?_
  exact ev_pick [] rfl rfl h
set_option maxRecDepth 10000 in
theorem b124_17 {t0 : Int} {M : ev_M} {Q : Int → ev_M → Prop}
    (h : (t0 = 0 ∨ t0 = 1) ∧ Q t0 M) : c124_17 t0 M Q := by
  unfold c124_17
  obtain ⟨hs, h⟩ := h
  exact ev_rtZ rfl rfl hs ⟨_, rfl, h⟩
/-! NulledForestModel.leads(II)I -/
def m125 (x1 x2 : Int) (M : ev_M) (Q : Int → ev_M → Prop) : Prop := ev 125 0 [(0, .inr (.inr (some 30))), (1, .inl x1), (2, .inl x2)] [] M (fun v M1 => ∃ w : Int, v = some (.inl w) ∧ Q w M1)
def c125_34 (M : ev_M) (Q : Int → ev_M → Prop) : Prop := ev 125 34 [] [] M (fun v M1 => ∃ w : Int, v = some (.inl w) ∧ Q w M1)
def c125_35 (t0 : Int) (M : ev_M) (Q : Int → ev_M → Prop) : Prop := ev 125 35 [] [.inl t0] M (fun v M1 => ∃ w : Int, v = some (.inl w) ∧ Q w M1)
set_option maxRecDepth 10000 in
theorem b125 {x1 x2 : Int} {M : ev_M} {Q : Int → ev_M → Prop}
    (h : m124 x1 (ev_sS M 10 0) (fun w1 M1 => (w1 = 0 → (c125_34 M1 Q)) ∧ (¬ (w1 = 0) → (m94 x2 M1 (fun w2 M2 => (w2 = 0 → (c125_34 M2 Q)) ∧ (¬ (w2 = 0) → (tm_iI (10 * x1) ∧ (tm_iI ((10 * x1) + x2) ∧ ((0 ≤ ((10 * x1) + x2) ∧ ((10 * x1) + x2) < 610) ∧ (c125_35 (aM_ways M2 ((10 * x1) + x2).toNat) M2 Q)))))))))) : m125 x1 x2 M Q := by
  unfold m125
  refine ev_lo (lo' := [(0, .inr (.inr (some 30))), (1, .inl x1), (2, .inl x2)]) (st' := [.inr (.inr (some 30))]) (pc' := 1) rfl rfl rfl rfl ?_
  refine ev_pu (st' := [.inl 0, .inr (.inr (some 30))]) (pc' := 2) rfl rfl rfl rfl ?_
  refine ev_put (M' := ev_sS M 10 0) (pc' := 5) rfl rfl (Nat.le_of_ble_eq_true rfl) rfl (hp_s10 _ _) rfl ?_
  refine ev_lo (lo' := [(0, .inr (.inr (some 30))), (1, .inl x1), (2, .inl x2)]) (st' := [.inr (.inr (some 30))]) (pc' := 6) rfl rfl rfl rfl ?_
  refine ev_lo (lo' := [(0, .inr (.inr (some 30))), (1, .inl x1), (2, .inl x2)]) (st' := [.inl x1, .inr (.inr (some 30))]) (pc' := 7) rfl rfl rfl rfl ?_
  refine ev_call (as := [.inr (.inr (some 30)), .inl x1]) (r := []) (pc' := 10) rfl rfl (Nat.le_of_ble_eq_true rfl) (Nat.le_of_ble_eq_true rfl) ⟨rfl, rfl⟩ (Nat.le_of_ble_eq_true rfl) rfl rfl rfl rfl ?_
  refine ev.post h (fun v M1 h => ?_)
  obtain ⟨w1, rfl, h⟩ := h
  show ev 125 10 [(0, .inr (.inr (some 30))), (1, .inl x1), (2, .inl x2)] [.inl w1] M1 _
  refine ev_ifT (pc' := 34) (pc2 := 13) rfl (by decide) rfl rfl (fun hc => ?_) (fun hc => ?_)
  · replace h := h.1 (of_decide_eq_true hc)
    exact ev_pick [] rfl rfl h
  · replace h := h.2 (of_decide_eq_false hc)
    refine ev_lo (lo' := [(0, .inr (.inr (some 30))), (1, .inl x1), (2, .inl x2)]) (st' := [.inl x2]) (pc' := 14) rfl rfl rfl rfl ?_
    refine ev_call (as := [.inl x2]) (r := []) (pc' := 17) rfl rfl (Nat.le_of_ble_eq_true rfl) (Nat.le_of_ble_eq_true rfl) ⟨rfl, rfl⟩ (Nat.le_of_ble_eq_true rfl) rfl rfl rfl rfl ?_
    refine ev.post h (fun v M2 h => ?_)
    obtain ⟨w2, rfl, h⟩ := h
    show ev 125 17 [(0, .inr (.inr (some 30))), (1, .inl x1), (2, .inl x2)] [.inl w2] M2 _
    refine ev_ifT (pc' := 34) (pc2 := 20) rfl (by decide) rfl rfl (fun hc => ?_) (fun hc => ?_)
    · replace h := h.1 (of_decide_eq_true hc)
      exact ev_pick [] rfl rfl h
    · replace h := h.2 (of_decide_eq_false hc)
      refine ev_lo (lo' := [(0, .inr (.inr (some 30))), (1, .inl x1), (2, .inl x2)]) (st' := [.inr (.inr (some 30))]) (pc' := 21) rfl rfl rfl rfl ?_
      refine ev_get (v := .inr (.inr (some 37))) (pc' := 24) rfl rfl rfl rfl ?_
      refine ev_pu (st' := [.inl 10, .inr (.inr (some 37))]) (pc' := 26) rfl rfl rfl rfl ?_
      refine ev_lo (lo' := [(0, .inr (.inr (some 30))), (1, .inl x1), (2, .inl x2)]) (st' := [.inl x1, .inl 10, .inr (.inr (some 37))]) (pc' := 27) rfl rfl rfl rfl ?_
      obtain ⟨hs, h⟩ := h
      refine ev_ii (f := fun a b => a * b) (pc' := 28) rfl rfl (fun _ => rfl) (tm_mul hs) rfl ?_
      refine ev_lo (lo' := [(0, .inr (.inr (some 30))), (1, .inl x1), (2, .inl x2)]) (st' := [.inl x2, .inl (10 * x1), .inr (.inr (some 37))]) (pc' := 29) rfl rfl rfl rfl ?_
      obtain ⟨hs, h⟩ := h
      refine ev_ii (f := fun a b => a + b) (pc' := 30) rfl rfl (fun _ => rfl) (tm_add hs) rfl ?_
      obtain ⟨hs0, h⟩ := h
      refine ev_ald (t := 0) (n := 610) (f := aM_ways M2) (w := fun x => .inl x) (pc' := 31) rfl rfl (fun _ _ => rfl) rfl hs0 rfl ?_
      refine ev_br (pc' := 35) (st' := [.inl (aM_ways M2 ((10 * x1) + x2).toNat)]) rfl rfl rfl ?_
      exact ev_pick [] rfl rfl h
set_option maxRecDepth 10000 in
theorem b125_34 {M : ev_M} {Q : Int → ev_M → Prop}
    (h : c125_35 (-1) M Q) : c125_34 M Q := by
  unfold c125_34
  refine ev_pu (st' := [.inl (-1)]) (pc' := 35) rfl rfl rfl rfl ?_
  exact ev_pick [] rfl rfl h
set_option maxRecDepth 10000 in
theorem b125_35 {t0 : Int} {M : ev_M} {Q : Int → ev_M → Prop}
    (h : Q t0 M) : c125_35 t0 M Q := by
  unfold c125_35
  exact ev_rt rfl rfl rfl ⟨_, rfl, h⟩
/-! NulledForestModel.reduces(I)I -/
def m126 (x1 : Int) (M : ev_M) (Q : Int → ev_M → Prop) : Prop := ev 126 0 [(0, .inr (.inr (some 30))), (1, .inl x1)] [] M (fun v M1 => ∃ w : Int, v = some (.inl w) ∧ Q w M1)
def c126_18 (x1 x2 x3 : Int) (M : ev_M) (Q : Int → ev_M → Prop) : Prop := ev 126 18 [(0, .inr (.inr (some 30))), (1, .inl x1), (2, .inl x2), (3, .inl x3)] [] M (fun v M1 => ∃ w : Int, v = some (.inl w) ∧ Q w M1)
def c126_29 (x1 x2 x3 x4 : Int) (M : ev_M) (Q : Int → ev_M → Prop) : Prop := ev 126 29 [(0, .inr (.inr (some 30))), (1, .inl x1), (2, .inl x2), (3, .inl x3), (4, .inl x4)] [] M (fun v M1 => ∃ w : Int, v = some (.inl w) ∧ Q w M1)
def c126_67 (x1 x2 x3 x4 : Int) (M : ev_M) (Q : Int → ev_M → Prop) : Prop := ev 126 67 [(0, .inr (.inr (some 30))), (1, .inl x1), (2, .inl x2), (3, .inl x3), (4, .inl x4)] [] M (fun v M1 => ∃ w : Int, v = some (.inl w) ∧ Q w M1)
def c126_68 (x1 x3 x4 t0 : Int) (M : ev_M) (Q : Int → ev_M → Prop) : Prop := ev 126 68 [(0, .inr (.inr (some 30))), (1, .inl x1), (3, .inl x3), (4, .inl x4)] [.inl t0] M (fun v M1 => ∃ w : Int, v = some (.inl w) ∧ Q w M1)
set_option maxRecDepth 10000 in
theorem b126 {x1 : Int} {M : ev_M} {Q : Int → ev_M → Prop}
    (h : m121 M (fun M1 => m124 x1 M1 (fun w2 M2 => (¬ w2 = 0 → (c126_18 x1 0 0 M2 Q)) ∧ (¬ (¬ w2 = 0) → (Q (-1) M2))))) : m126 x1 M Q := by
  unfold m126
  refine ev_lo (lo' := [(0, .inr (.inr (some 30))), (1, .inl x1)]) (st' := [.inr (.inr (some 30))]) (pc' := 1) rfl rfl rfl rfl ?_
  refine ev_call (as := [.inr (.inr (some 30))]) (r := []) (pc' := 4) rfl rfl (Nat.le_of_ble_eq_true rfl) (Nat.le_of_ble_eq_true rfl) ⟨rfl, rfl⟩ (Nat.le_of_ble_eq_true rfl) rfl rfl rfl rfl ?_
  refine ev.post h (fun v M1 h => ?_)
  obtain ⟨rfl, h⟩ := h
  show ev 126 4 [(0, .inr (.inr (some 30))), (1, .inl x1)] [] M1 _
  refine ev_lo (lo' := [(0, .inr (.inr (some 30))), (1, .inl x1)]) (st' := [.inr (.inr (some 30))]) (pc' := 5) rfl rfl rfl rfl ?_
  refine ev_lo (lo' := [(0, .inr (.inr (some 30))), (1, .inl x1)]) (st' := [.inl x1, .inr (.inr (some 30))]) (pc' := 6) rfl rfl rfl rfl ?_
  refine ev_call (as := [.inr (.inr (some 30)), .inl x1]) (r := []) (pc' := 9) rfl rfl (Nat.le_of_ble_eq_true rfl) (Nat.le_of_ble_eq_true rfl) ⟨rfl, rfl⟩ (Nat.le_of_ble_eq_true rfl) rfl rfl rfl rfl ?_
  refine ev.post h (fun v M2 h => ?_)
  obtain ⟨w2, rfl, h⟩ := h
  show ev 126 9 [(0, .inr (.inr (some 30))), (1, .inl x1)] [.inl w2] M2 _
  refine ev_ifT (pc' := 14) (pc2 := 12) rfl (by decide) rfl rfl (fun hc => ?_) (fun hc => ?_)
  · replace h := h.1 (of_decide_eq_true hc)
    refine ev_pu (st' := [.inl 0]) (pc' := 15) rfl rfl rfl rfl ?_
    refine ev_lo (lo' := [(2, .inl 0), (0, .inr (.inr (some 30))), (1, .inl x1)]) (st' := []) (pc' := 16) rfl rfl rfl rfl ?_
    refine ev_pu (st' := [.inl 0]) (pc' := 17) rfl rfl rfl rfl ?_
    refine ev_lo (lo' := [(3, .inl 0), (2, .inl 0), (0, .inr (.inr (some 30))), (1, .inl x1)]) (st' := []) (pc' := 18) rfl rfl rfl rfl ?_
    exact ev_pick [0, 1, 2, 3] rfl rfl h
  · replace h := h.2 (of_decide_eq_false hc)
    refine ev_pu (st' := [.inl (-1)]) (pc' := 13) rfl rfl rfl rfl ?_
    exact ev_rt rfl rfl rfl ⟨_, rfl, h⟩
set_option maxRecDepth 10000 in
theorem b126_18 {x1 x2 x3 : Int} {M : ev_M} {Q : Int → ev_M → Prop}
    (h : ((sM_rules M) ≤ x3 → (Q x2 M)) ∧ (¬ ((sM_rules M) ≤ x3) → (c126_29 x1 x2 x3 0 M Q))) : c126_18 x1 x2 x3 M Q := by
  unfold c126_18
  refine ev_lo (lo' := [(0, .inr (.inr (some 30))), (1, .inl x1), (2, .inl x2), (3, .inl x3)]) (st' := [.inl x3]) (pc' := 19) rfl rfl rfl rfl ?_
  refine ev_lo (lo' := [(0, .inr (.inr (some 30))), (1, .inl x1), (2, .inl x2), (3, .inl x3)]) (st' := [.inr (.inr (some 30)), .inl x3]) (pc' := 20) rfl rfl rfl rfl ?_
  refine ev_get (v := .inl (sM_rules M)) (pc' := 23) rfl rfl rfl rfl ?_
  refine ev_icmp (pc' := 81) (pc2 := 26) rfl (by decide) rfl rfl (fun hc => ?_) (fun hc => ?_)
  · replace h := h.1 (of_decide_eq_true hc)
    refine ev_lo (lo' := [(0, .inr (.inr (some 30))), (1, .inl x1), (2, .inl x2), (3, .inl x3)]) (st' := [.inl x2]) (pc' := 82) rfl rfl rfl rfl ?_
    exact ev_rt rfl rfl rfl ⟨_, rfl, h⟩
  · replace h := h.2 (of_decide_eq_false hc)
    refine ev_pu (st' := [.inl 0]) (pc' := 27) rfl rfl rfl rfl ?_
    refine ev_lo (lo' := [(4, .inl 0), (0, .inr (.inr (some 30))), (1, .inl x1), (2, .inl x2), (3, .inl x3)]) (st' := []) (pc' := 29) rfl rfl rfl rfl ?_
    exact ev_pick [0, 1, 2, 3, 4] rfl rfl h
set_option maxRecDepth 10000 in
theorem b126_29 {x1 x2 x3 x4 : Int} {M : ev_M} {Q : Int → ev_M → Prop}
    (h : (0 ≤ x3 ∧ x3 < 14) ∧ (((aM_sizes M (x3).toNat) < x4 → (tm_iI (x3 + 1) ∧ (c126_18 x1 x2 (x3 + 1) M Q))) ∧ (¬ ((aM_sizes M (x3).toNat) < x4) → (m89 x1 x3 x4 M (fun w1 M1 => (w1 = 0 → (c126_67 x1 x2 x3 x4 M1 Q)) ∧ (¬ (w1 = 0) → (m104 x3 x4 M1 (fun w2 M2 => (w2 = 0 → (c126_67 x1 x2 x3 x4 M2 Q)) ∧ (¬ (w2 = 0) → (tm_iI (x2 + 1) ∧ (c126_68 x1 x3 x4 (x2 + 1) M2 Q))))))))))) : c126_29 x1 x2 x3 x4 M Q := by
  unfold c126_29
  refine ev_lo (lo' := [(0, .inr (.inr (some 30))), (1, .inl x1), (2, .inl x2), (3, .inl x3), (4, .inl x4)]) (st' := [.inl x4]) (pc' := 31) rfl rfl rfl rfl ?_
  refine ev_lo (lo' := [(0, .inr (.inr (some 30))), (1, .inl x1), (2, .inl x2), (3, .inl x3), (4, .inl x4)]) (st' := [.inr (.inr (some 30)), .inl x4]) (pc' := 32) rfl rfl rfl rfl ?_
  refine ev_get (v := .inr (.inr (some 32))) (pc' := 35) rfl rfl rfl rfl ?_
  refine ev_lo (lo' := [(0, .inr (.inr (some 30))), (1, .inl x1), (2, .inl x2), (3, .inl x3), (4, .inl x4)]) (st' := [.inl x3, .inr (.inr (some 32)), .inl x4]) (pc' := 36) rfl rfl rfl rfl ?_
  obtain ⟨hs0, h⟩ := h
  refine ev_ald (t := 0) (n := 14) (f := aM_sizes M) (w := fun x => .inl x) (pc' := 37) rfl rfl (fun _ _ => rfl) rfl hs0 rfl ?_
  refine ev_icmp (pc' := 75) (pc2 := 40) rfl (by decide) rfl rfl (fun hc => ?_) (fun hc => ?_)
  · replace h := h.1 (of_decide_eq_true hc)
    obtain ⟨hs, h⟩ := h
    refine ev_iinc (lo' := [(3, .inl (x3 + 1)), (0, .inr (.inr (some 30))), (1, .inl x1), (2, .inl x2), (4, .inl x4)]) (pc' := 78) rfl rfl (by decide) (tm_add hs) rfl rfl ?_
    refine ev_br (pc' := 18) (st' := []) rfl rfl rfl ?_
    exact ev_pick [0, 1, 2, 3] rfl rfl h
  · replace h := h.2 (of_decide_eq_false hc)
    refine ev_lo (lo' := [(0, .inr (.inr (some 30))), (1, .inl x1), (2, .inl x2), (3, .inl x3), (4, .inl x4)]) (st' := [.inr (.inr (some 30))]) (pc' := 41) rfl rfl rfl rfl ?_
    refine ev_lo (lo' := [(0, .inr (.inr (some 30))), (1, .inl x1), (2, .inl x2), (3, .inl x3), (4, .inl x4)]) (st' := [.inl x1, .inr (.inr (some 30))]) (pc' := 42) rfl rfl rfl rfl ?_
    refine ev_lo (lo' := [(0, .inr (.inr (some 30))), (1, .inl x1), (2, .inl x2), (3, .inl x3), (4, .inl x4)]) (st' := [.inl x3, .inl x1, .inr (.inr (some 30))]) (pc' := 43) rfl rfl rfl rfl ?_
    refine ev_lo (lo' := [(0, .inr (.inr (some 30))), (1, .inl x1), (2, .inl x2), (3, .inl x3), (4, .inl x4)]) (st' := [.inl x4, .inl x3, .inl x1, .inr (.inr (some 30))]) (pc' := 45) rfl rfl rfl rfl ?_
    refine ev_call (as := [.inr (.inr (some 30)), .inl x1, .inl x3, .inl x4]) (r := []) (pc' := 48) rfl rfl (Nat.le_of_ble_eq_true rfl) (Nat.le_of_ble_eq_true rfl) ⟨rfl, rfl⟩ (Nat.le_of_ble_eq_true rfl) rfl rfl rfl rfl ?_
    refine ev.post h (fun v M1 h => ?_)
    obtain ⟨w1, rfl, h⟩ := h
    show ev 126 48 [(0, .inr (.inr (some 30))), (1, .inl x1), (2, .inl x2), (3, .inl x3), (4, .inl x4)] [.inl w1] M1 _
    refine ev_ifT (pc' := 67) (pc2 := 51) rfl (by decide) rfl rfl (fun hc => ?_) (fun hc => ?_)
    · replace h := h.1 (of_decide_eq_true hc)
      exact ev_pick [0, 1, 2, 3, 4] rfl rfl h
    · replace h := h.2 (of_decide_eq_false hc)
      refine ev_lo (lo' := [(0, .inr (.inr (some 30))), (1, .inl x1), (2, .inl x2), (3, .inl x3), (4, .inl x4)]) (st' := [.inr (.inr (some 30))]) (pc' := 52) rfl rfl rfl rfl ?_
      refine ev_lo (lo' := [(0, .inr (.inr (some 30))), (1, .inl x1), (2, .inl x2), (3, .inl x3), (4, .inl x4)]) (st' := [.inl x3, .inr (.inr (some 30))]) (pc' := 53) rfl rfl rfl rfl ?_
      refine ev_lo (lo' := [(0, .inr (.inr (some 30))), (1, .inl x1), (2, .inl x2), (3, .inl x3), (4, .inl x4)]) (st' := [.inl x4, .inl x3, .inr (.inr (some 30))]) (pc' := 55) rfl rfl rfl rfl ?_
      refine ev_call (as := [.inr (.inr (some 30)), .inl x3, .inl x4]) (r := []) (pc' := 58) rfl rfl (Nat.le_of_ble_eq_true rfl) (Nat.le_of_ble_eq_true rfl) ⟨rfl, rfl⟩ (Nat.le_of_ble_eq_true rfl) rfl rfl rfl rfl ?_
      refine ev.post h (fun v M2 h => ?_)
      obtain ⟨w2, rfl, h⟩ := h
      show ev 126 58 [(0, .inr (.inr (some 30))), (1, .inl x1), (2, .inl x2), (3, .inl x3), (4, .inl x4)] [.inl w2] M2 _
      refine ev_ifT (pc' := 67) (pc2 := 61) rfl (by decide) rfl rfl (fun hc => ?_) (fun hc => ?_)
      · replace h := h.1 (of_decide_eq_true hc)
        exact ev_pick [0, 1, 2, 3, 4] rfl rfl h
      · replace h := h.2 (of_decide_eq_false hc)
        refine ev_lo (lo' := [(0, .inr (.inr (some 30))), (1, .inl x1), (2, .inl x2), (3, .inl x3), (4, .inl x4)]) (st' := [.inl x2]) (pc' := 62) rfl rfl rfl rfl ?_
        refine ev_pu (st' := [.inl 1, .inl x2]) (pc' := 63) rfl rfl rfl rfl ?_
        obtain ⟨hs, h⟩ := h
        refine ev_ii (f := fun a b => a + b) (pc' := 64) rfl rfl (fun _ => rfl) (tm_add hs) rfl ?_
        refine ev_br (pc' := 68) (st' := [.inl (x2 + 1)]) rfl rfl rfl ?_
        exact ev_pick [0, 1, 3, 4] rfl rfl h
set_option maxRecDepth 10000 in
theorem b126_67 {x1 x2 x3 x4 : Int} {M : ev_M} {Q : Int → ev_M → Prop}
    (h : c126_68 x1 x3 x4 x2 M Q) : c126_67 x1 x2 x3 x4 M Q := by
  unfold c126_67
  refine ev_lo (lo' := [(0, .inr (.inr (some 30))), (1, .inl x1), (2, .inl x2), (3, .inl x3), (4, .inl x4)]) (st' := [.inl x2]) (pc' := 68) rfl rfl rfl rfl ?_
  exact ev_pick [0, 1, 3, 4] rfl rfl h
set_option maxRecDepth 10000 in
theorem b126_68 {x1 x3 x4 t0 : Int} {M : ev_M} {Q : Int → ev_M → Prop}
    (h : tm_iI (x4 + 1) ∧ (c126_29 x1 t0 x3 (x4 + 1) M Q)) : c126_68 x1 x3 x4 t0 M Q := by
  unfold c126_68
  refine ev_lo (lo' := [(2, .inl t0), (0, .inr (.inr (some 30))), (1, .inl x1), (3, .inl x3), (4, .inl x4)]) (st' := []) (pc' := 69) rfl rfl rfl rfl ?_
  obtain ⟨hs, h⟩ := h
  refine ev_iinc (lo' := [(4, .inl (x4 + 1)), (2, .inl t0), (0, .inr (.inr (some 30))), (1, .inl x1), (3, .inl x3)]) (pc' := 72) rfl rfl (by decide) (tm_add hs) rfl rfl ?_
  refine ev_br (pc' := 29) (st' := []) rfl rfl rfl ?_
  exact ev_pick [0, 1, 2, 3, 4] rfl rfl h
/-! NulledForestModel.isPlace(I)Z -/
def m127 (x1 : Int) (M : ev_M) (Q : Int → ev_M → Prop) : Prop := ev 127 0 [(0, .inr (.inr (some 30))), (1, .inl x1)] [] M (fun v M1 => ∃ w : Int, v = some (.inl w) ∧ Q w M1)
def c127_16 (M : ev_M) (Q : Int → ev_M → Prop) : Prop := ev 127 16 [] [] M (fun v M1 => ∃ w : Int, v = some (.inl w) ∧ Q w M1)
def c127_17 (t0 : Int) (M : ev_M) (Q : Int → ev_M → Prop) : Prop := ev 127 17 [] [.inl t0] M (fun v M1 => ∃ w : Int, v = some (.inl w) ∧ Q w M1)
set_option maxRecDepth 10000 in
theorem b127 {x1 : Int} {M : ev_M} {Q : Int → ev_M → Prop}
    (h : (x1 < 0 → (c127_16 M Q)) ∧ (¬ (x1 < 0) → (((sM_length M) < x1 → (c127_16 M Q)) ∧ (¬ ((sM_length M) < x1) → (c127_17 1 M Q))))) : m127 x1 M Q := by
  unfold m127
  refine ev_lo (lo' := [(0, .inr (.inr (some 30))), (1, .inl x1)]) (st' := [.inl x1]) (pc' := 1) rfl rfl rfl rfl ?_
  refine ev_ifT (pc' := 16) (pc2 := 4) rfl (by decide) rfl rfl (fun hc => ?_) (fun hc => ?_)
  · replace h := h.1 (of_decide_eq_true hc)
    exact ev_pick [] rfl rfl h
  · replace h := h.2 (of_decide_eq_false hc)
    refine ev_lo (lo' := [(0, .inr (.inr (some 30))), (1, .inl x1)]) (st' := [.inl x1]) (pc' := 5) rfl rfl rfl rfl ?_
    refine ev_lo (lo' := [(0, .inr (.inr (some 30))), (1, .inl x1)]) (st' := [.inr (.inr (some 30)), .inl x1]) (pc' := 6) rfl rfl rfl rfl ?_
    refine ev_get (v := .inl (sM_length M)) (pc' := 9) rfl rfl rfl rfl ?_
    refine ev_icmp (pc' := 16) (pc2 := 12) rfl (by decide) rfl rfl (fun hc => ?_) (fun hc => ?_)
    · replace h := h.1 (of_decide_eq_true hc)
      exact ev_pick [] rfl rfl h
    · replace h := h.2 (of_decide_eq_false hc)
      refine ev_pu (st' := [.inl 1]) (pc' := 13) rfl rfl rfl rfl ?_
      refine ev_br (pc' := 17) (st' := [.inl 1]) rfl rfl rfl ?_
      exact ev_pick [] rfl rfl h
set_option maxRecDepth 10000 in
theorem b127_16 {M : ev_M} {Q : Int → ev_M → Prop}
    (h : c127_17 0 M Q) : c127_16 M Q := by
  unfold c127_16
  refine ev_pu (st' := [.inl 0]) (pc' := 17) rfl rfl rfl rfl ?_
  exact ev_pick [] rfl rfl h
set_option maxRecDepth 10000 in
theorem b127_17 {t0 : Int} {M : ev_M} {Q : Int → ev_M → Prop}
    (h : (t0 = 0 ∨ t0 = 1) ∧ Q t0 M) : c127_17 t0 M Q := by
  unfold c127_17
  obtain ⟨hs, h⟩ := h
  exact ev_rtZ rfl rfl hs ⟨_, rfl, h⟩
/-! NulledForestModel.stands(II)Z -/
def m128 (x1 x2 : Int) (M : ev_M) (Q : Int → ev_M → Prop) : Prop := ev 128 0 [(0, .inr (.inr (some 30))), (1, .inl x1), (2, .inl x2)] [] M (fun v M1 => ∃ w : Int, v = some (.inl w) ∧ Q w M1)
def c128_38 (M : ev_M) (Q : Int → ev_M → Prop) : Prop := ev 128 38 [] [] M (fun v M1 => ∃ w : Int, v = some (.inl w) ∧ Q w M1)
def c128_39 (t0 : Int) (M : ev_M) (Q : Int → ev_M → Prop) : Prop := ev 128 39 [] [.inl t0] M (fun v M1 => ∃ w : Int, v = some (.inl w) ∧ Q w M1)
set_option maxRecDepth 10000 in
theorem b128 {x1 x2 : Int} {M : ev_M} {Q : Int → ev_M → Prop}
    (h : m121 M (fun M1 => m127 x1 M1 (fun w2 M2 => (w2 = 0 → (c128_38 M2 Q)) ∧ (¬ (w2 = 0) → (m124 x2 M2 (fun w3 M3 => (w3 = 0 → (c128_38 M3 Q)) ∧ (¬ (w3 = 0) → (tm_iI (60 * x1) ∧ (tm_iI ((60 * x1) + x2) ∧ ((0 ≤ ((60 * x1) + x2) ∧ ((60 * x1) + x2) < 660) ∧ (((aM_front M3 ((60 * x1) + x2).toNat) = 0 → (c128_38 M3 Q)) ∧ (¬ ((aM_front M3 ((60 * x1) + x2).toNat) = 0) → (c128_39 1 M3 Q))))))))))))) : m128 x1 x2 M Q := by
  unfold m128
  refine ev_lo (lo' := [(0, .inr (.inr (some 30))), (1, .inl x1), (2, .inl x2)]) (st' := [.inr (.inr (some 30))]) (pc' := 1) rfl rfl rfl rfl ?_
  refine ev_call (as := [.inr (.inr (some 30))]) (r := []) (pc' := 4) rfl rfl (Nat.le_of_ble_eq_true rfl) (Nat.le_of_ble_eq_true rfl) ⟨rfl, rfl⟩ (Nat.le_of_ble_eq_true rfl) rfl rfl rfl rfl ?_
  refine ev.post h (fun v M1 h => ?_)
  obtain ⟨rfl, h⟩ := h
  show ev 128 4 [(0, .inr (.inr (some 30))), (1, .inl x1), (2, .inl x2)] [] M1 _
  refine ev_lo (lo' := [(0, .inr (.inr (some 30))), (1, .inl x1), (2, .inl x2)]) (st' := [.inr (.inr (some 30))]) (pc' := 5) rfl rfl rfl rfl ?_
  refine ev_lo (lo' := [(0, .inr (.inr (some 30))), (1, .inl x1), (2, .inl x2)]) (st' := [.inl x1, .inr (.inr (some 30))]) (pc' := 6) rfl rfl rfl rfl ?_
  refine ev_call (as := [.inr (.inr (some 30)), .inl x1]) (r := []) (pc' := 9) rfl rfl (Nat.le_of_ble_eq_true rfl) (Nat.le_of_ble_eq_true rfl) ⟨rfl, rfl⟩ (Nat.le_of_ble_eq_true rfl) rfl rfl rfl rfl ?_
  refine ev.post h (fun v M2 h => ?_)
  obtain ⟨w2, rfl, h⟩ := h
  show ev 128 9 [(0, .inr (.inr (some 30))), (1, .inl x1), (2, .inl x2)] [.inl w2] M2 _
  refine ev_ifT (pc' := 38) (pc2 := 12) rfl (by decide) rfl rfl (fun hc => ?_) (fun hc => ?_)
  · replace h := h.1 (of_decide_eq_true hc)
    exact ev_pick [] rfl rfl h
  · replace h := h.2 (of_decide_eq_false hc)
    refine ev_lo (lo' := [(0, .inr (.inr (some 30))), (1, .inl x1), (2, .inl x2)]) (st' := [.inr (.inr (some 30))]) (pc' := 13) rfl rfl rfl rfl ?_
    refine ev_lo (lo' := [(0, .inr (.inr (some 30))), (1, .inl x1), (2, .inl x2)]) (st' := [.inl x2, .inr (.inr (some 30))]) (pc' := 14) rfl rfl rfl rfl ?_
    refine ev_call (as := [.inr (.inr (some 30)), .inl x2]) (r := []) (pc' := 17) rfl rfl (Nat.le_of_ble_eq_true rfl) (Nat.le_of_ble_eq_true rfl) ⟨rfl, rfl⟩ (Nat.le_of_ble_eq_true rfl) rfl rfl rfl rfl ?_
    refine ev.post h (fun v M3 h => ?_)
    obtain ⟨w3, rfl, h⟩ := h
    show ev 128 17 [(0, .inr (.inr (some 30))), (1, .inl x1), (2, .inl x2)] [.inl w3] M3 _
    refine ev_ifT (pc' := 38) (pc2 := 20) rfl (by decide) rfl rfl (fun hc => ?_) (fun hc => ?_)
    · replace h := h.1 (of_decide_eq_true hc)
      exact ev_pick [] rfl rfl h
    · replace h := h.2 (of_decide_eq_false hc)
      refine ev_lo (lo' := [(0, .inr (.inr (some 30))), (1, .inl x1), (2, .inl x2)]) (st' := [.inr (.inr (some 30))]) (pc' := 21) rfl rfl rfl rfl ?_
      refine ev_get (v := .inr (.inr (some 43))) (pc' := 24) rfl rfl rfl rfl ?_
      refine ev_pu (st' := [.inl 60, .inr (.inr (some 43))]) (pc' := 26) rfl rfl rfl rfl ?_
      refine ev_lo (lo' := [(0, .inr (.inr (some 30))), (1, .inl x1), (2, .inl x2)]) (st' := [.inl x1, .inl 60, .inr (.inr (some 43))]) (pc' := 27) rfl rfl rfl rfl ?_
      obtain ⟨hs, h⟩ := h
      refine ev_ii (f := fun a b => a * b) (pc' := 28) rfl rfl (fun _ => rfl) (tm_mul hs) rfl ?_
      refine ev_lo (lo' := [(0, .inr (.inr (some 30))), (1, .inl x1), (2, .inl x2)]) (st' := [.inl x2, .inl (60 * x1), .inr (.inr (some 43))]) (pc' := 29) rfl rfl rfl rfl ?_
      obtain ⟨hs, h⟩ := h
      refine ev_ii (f := fun a b => a + b) (pc' := 30) rfl rfl (fun _ => rfl) (tm_add hs) rfl ?_
      obtain ⟨hs0, h⟩ := h
      refine ev_ald (t := 2) (n := 660) (f := aM_front M3) (w := fun x => .inl x) (pc' := 31) rfl rfl (fun _ _ => rfl) rfl hs0 rfl ?_
      refine ev_ifT (pc' := 38) (pc2 := 34) rfl (by decide) rfl rfl (fun hc => ?_) (fun hc => ?_)
      · replace h := h.1 (of_decide_eq_true hc)
        exact ev_pick [] rfl rfl h
      · replace h := h.2 (of_decide_eq_false hc)
        refine ev_pu (st' := [.inl 1]) (pc' := 35) rfl rfl rfl rfl ?_
        refine ev_br (pc' := 39) (st' := [.inl 1]) rfl rfl rfl ?_
        exact ev_pick [] rfl rfl h
set_option maxRecDepth 10000 in
theorem b128_38 {M : ev_M} {Q : Int → ev_M → Prop}
    (h : c128_39 0 M Q) : c128_38 M Q := by
  unfold c128_38
  refine ev_pu (st' := [.inl 0]) (pc' := 39) rfl rfl rfl rfl ?_
  exact ev_pick [] rfl rfl h
set_option maxRecDepth 10000 in
theorem b128_39 {t0 : Int} {M : ev_M} {Q : Int → ev_M → Prop}
    (h : (t0 = 0 ∨ t0 = 1) ∧ Q t0 M) : c128_39 t0 M Q := by
  unfold c128_39
  obtain ⟨hs, h⟩ := h
  exact ev_rtZ rfl rfl hs ⟨_, rfl, h⟩
/-! NulledForestModel.frontier(I)I -/
def m129 (x1 : Int) (M : ev_M) (Q : Int → ev_M → Prop) : Prop := ev 129 0 [(0, .inr (.inr (some 30))), (1, .inl x1)] [] M (fun v M1 => ∃ w : Int, v = some (.inl w) ∧ Q w M1)
def c129_18 (x1 x2 x3 : Int) (M : ev_M) (Q : Int → ev_M → Prop) : Prop := ev 129 18 [(0, .inr (.inr (some 30))), (1, .inl x1), (2, .inl x2), (3, .inl x3)] [] M (fun v M1 => ∃ w : Int, v = some (.inl w) ∧ Q w M1)
def c129_47 (x1 x3 t0 : Int) (M : ev_M) (Q : Int → ev_M → Prop) : Prop := ev 129 47 [(0, .inr (.inr (some 30))), (1, .inl x1), (3, .inl x3)] [.inl t0] M (fun v M1 => ∃ w : Int, v = some (.inl w) ∧ Q w M1)
set_option maxRecDepth 10000 in
theorem b129 {x1 : Int} {M : ev_M} {Q : Int → ev_M → Prop}
    (h : m121 M (fun M1 => m127 x1 M1 (fun w2 M2 => (¬ w2 = 0 → (c129_18 x1 0 0 M2 Q)) ∧ (¬ (¬ w2 = 0) → (Q (-1) M2))))) : m129 x1 M Q := by
  unfold m129
  refine ev_lo (lo' := [(0, .inr (.inr (some 30))), (1, .inl x1)]) (st' := [.inr (.inr (some 30))]) (pc' := 1) rfl rfl rfl rfl ?_
  refine ev_call (as := [.inr (.inr (some 30))]) (r := []) (pc' := 4) rfl rfl (Nat.le_of_ble_eq_true rfl) (Nat.le_of_ble_eq_true rfl) ⟨rfl, rfl⟩ (Nat.le_of_ble_eq_true rfl) rfl rfl rfl rfl ?_
  refine ev.post h (fun v M1 h => ?_)
  obtain ⟨rfl, h⟩ := h
  show ev 129 4 [(0, .inr (.inr (some 30))), (1, .inl x1)] [] M1 _
  refine ev_lo (lo' := [(0, .inr (.inr (some 30))), (1, .inl x1)]) (st' := [.inr (.inr (some 30))]) (pc' := 5) rfl rfl rfl rfl ?_
  refine ev_lo (lo' := [(0, .inr (.inr (some 30))), (1, .inl x1)]) (st' := [.inl x1, .inr (.inr (some 30))]) (pc' := 6) rfl rfl rfl rfl ?_
  refine ev_call (as := [.inr (.inr (some 30)), .inl x1]) (r := []) (pc' := 9) rfl rfl (Nat.le_of_ble_eq_true rfl) (Nat.le_of_ble_eq_true rfl) ⟨rfl, rfl⟩ (Nat.le_of_ble_eq_true rfl) rfl rfl rfl rfl ?_
  refine ev.post h (fun v M2 h => ?_)
  obtain ⟨w2, rfl, h⟩ := h
  show ev 129 9 [(0, .inr (.inr (some 30))), (1, .inl x1)] [.inl w2] M2 _
  refine ev_ifT (pc' := 14) (pc2 := 12) rfl (by decide) rfl rfl (fun hc => ?_) (fun hc => ?_)
  · replace h := h.1 (of_decide_eq_true hc)
    refine ev_pu (st' := [.inl 0]) (pc' := 15) rfl rfl rfl rfl ?_
    refine ev_lo (lo' := [(2, .inl 0), (0, .inr (.inr (some 30))), (1, .inl x1)]) (st' := []) (pc' := 16) rfl rfl rfl rfl ?_
    refine ev_pu (st' := [.inl 0]) (pc' := 17) rfl rfl rfl rfl ?_
    refine ev_lo (lo' := [(3, .inl 0), (2, .inl 0), (0, .inr (.inr (some 30))), (1, .inl x1)]) (st' := []) (pc' := 18) rfl rfl rfl rfl ?_
    exact ev_pick [0, 1, 2, 3] rfl rfl h
  · replace h := h.2 (of_decide_eq_false hc)
    refine ev_pu (st' := [.inl (-1)]) (pc' := 13) rfl rfl rfl rfl ?_
    exact ev_rt rfl rfl rfl ⟨_, rfl, h⟩
set_option maxRecDepth 10000 in
theorem b129_18 {x1 x2 x3 : Int} {M : ev_M} {Q : Int → ev_M → Prop}
    (h : ((sM_states M) ≤ x3 → (Q x2 M)) ∧ (¬ ((sM_states M) ≤ x3) → (tm_iI (60 * x1) ∧ (tm_iI ((60 * x1) + x3) ∧ ((0 ≤ ((60 * x1) + x3) ∧ ((60 * x1) + x3) < 660) ∧ (((aM_front M ((60 * x1) + x3).toNat) = 0 → (c129_47 x1 x3 x2 M Q)) ∧ (¬ ((aM_front M ((60 * x1) + x3).toNat) = 0) → (tm_iI (x2 + 1) ∧ (c129_47 x1 x3 (x2 + 1) M Q))))))))) : c129_18 x1 x2 x3 M Q := by
  unfold c129_18
  refine ev_lo (lo' := [(0, .inr (.inr (some 30))), (1, .inl x1), (2, .inl x2), (3, .inl x3)]) (st' := [.inl x3]) (pc' := 19) rfl rfl rfl rfl ?_
  refine ev_lo (lo' := [(0, .inr (.inr (some 30))), (1, .inl x1), (2, .inl x2), (3, .inl x3)]) (st' := [.inr (.inr (some 30)), .inl x3]) (pc' := 20) rfl rfl rfl rfl ?_
  refine ev_get (v := .inl (sM_states M)) (pc' := 23) rfl rfl rfl rfl ?_
  refine ev_icmp (pc' := 54) (pc2 := 26) rfl (by decide) rfl rfl (fun hc => ?_) (fun hc => ?_)
  · replace h := h.1 (of_decide_eq_true hc)
    refine ev_lo (lo' := [(0, .inr (.inr (some 30))), (1, .inl x1), (2, .inl x2), (3, .inl x3)]) (st' := [.inl x2]) (pc' := 55) rfl rfl rfl rfl ?_
    exact ev_rt rfl rfl rfl ⟨_, rfl, h⟩
  · replace h := h.2 (of_decide_eq_false hc)
    refine ev_lo (lo' := [(0, .inr (.inr (some 30))), (1, .inl x1), (2, .inl x2), (3, .inl x3)]) (st' := [.inr (.inr (some 30))]) (pc' := 27) rfl rfl rfl rfl ?_
    refine ev_get (v := .inr (.inr (some 43))) (pc' := 30) rfl rfl rfl rfl ?_
    refine ev_pu (st' := [.inl 60, .inr (.inr (some 43))]) (pc' := 32) rfl rfl rfl rfl ?_
    refine ev_lo (lo' := [(0, .inr (.inr (some 30))), (1, .inl x1), (2, .inl x2), (3, .inl x3)]) (st' := [.inl x1, .inl 60, .inr (.inr (some 43))]) (pc' := 33) rfl rfl rfl rfl ?_
    obtain ⟨hs, h⟩ := h
    refine ev_ii (f := fun a b => a * b) (pc' := 34) rfl rfl (fun _ => rfl) (tm_mul hs) rfl ?_
    refine ev_lo (lo' := [(0, .inr (.inr (some 30))), (1, .inl x1), (2, .inl x2), (3, .inl x3)]) (st' := [.inl x3, .inl (60 * x1), .inr (.inr (some 43))]) (pc' := 35) rfl rfl rfl rfl ?_
    obtain ⟨hs, h⟩ := h
    refine ev_ii (f := fun a b => a + b) (pc' := 36) rfl rfl (fun _ => rfl) (tm_add hs) rfl ?_
    obtain ⟨hs0, h⟩ := h
    refine ev_ald (t := 2) (n := 660) (f := aM_front M) (w := fun x => .inl x) (pc' := 37) rfl rfl (fun _ _ => rfl) rfl hs0 rfl ?_
    refine ev_ifT (pc' := 46) (pc2 := 40) rfl (by decide) rfl rfl (fun hc => ?_) (fun hc => ?_)
    · replace h := h.1 (of_decide_eq_true hc)
      refine ev_lo (lo' := [(0, .inr (.inr (some 30))), (1, .inl x1), (2, .inl x2), (3, .inl x3)]) (st' := [.inl x2]) (pc' := 47) rfl rfl rfl rfl ?_
      exact ev_pick [0, 1, 3] rfl rfl h
    · replace h := h.2 (of_decide_eq_false hc)
      refine ev_lo (lo' := [(0, .inr (.inr (some 30))), (1, .inl x1), (2, .inl x2), (3, .inl x3)]) (st' := [.inl x2]) (pc' := 41) rfl rfl rfl rfl ?_
      refine ev_pu (st' := [.inl 1, .inl x2]) (pc' := 42) rfl rfl rfl rfl ?_
      obtain ⟨hs, h⟩ := h
      refine ev_ii (f := fun a b => a + b) (pc' := 43) rfl rfl (fun _ => rfl) (tm_add hs) rfl ?_
      refine ev_br (pc' := 47) (st' := [.inl (x2 + 1)]) rfl rfl rfl ?_
      exact ev_pick [0, 1, 3] rfl rfl h
set_option maxRecDepth 10000 in
theorem b129_47 {x1 x3 t0 : Int} {M : ev_M} {Q : Int → ev_M → Prop}
    (h : tm_iI (x3 + 1) ∧ (c129_18 x1 t0 (x3 + 1) M Q)) : c129_47 x1 x3 t0 M Q := by
  unfold c129_47
  refine ev_lo (lo' := [(2, .inl t0), (0, .inr (.inr (some 30))), (1, .inl x1), (3, .inl x3)]) (st' := []) (pc' := 48) rfl rfl rfl rfl ?_
  obtain ⟨hs, h⟩ := h
  refine ev_iinc (lo' := [(3, .inl (x3 + 1)), (2, .inl t0), (0, .inr (.inr (some 30))), (1, .inl x1)]) (pc' := 51) rfl rfl (by decide) (tm_add hs) rfl rfl ?_
  refine ev_br (pc' := 18) (st' := []) rfl rfl rfl ?_
  exact ev_pick [0, 1, 2, 3] rfl rfl h
/-! NulledForestModel.accepted()Z -/
def m130 (M : ev_M) (Q : Int → ev_M → Prop) : Prop := ev 130 0 [(0, .inr (.inr (some 30)))] [] M (fun v M1 => ∃ w : Int, v = some (.inl w) ∧ Q w M1)
set_option maxRecDepth 10000 in
theorem b130 {M : ev_M} {Q : Int → ev_M → Prop}
    (h : m121 M (fun M1 => (0 ≤ (sM_length M1) ∧ (sM_length M1) < 726) ∧ (((aM_used M1 (sM_length M1).toNat) = 0 ∨ (aM_used M1 (sM_length M1).toNat) = 1) ∧ Q (aM_used M1 (sM_length M1).toNat) M1))) : m130 M Q := by
  unfold m130
  refine ev_lo (lo' := [(0, .inr (.inr (some 30)))]) (st' := [.inr (.inr (some 30))]) (pc' := 1) rfl rfl rfl rfl ?_
  refine ev_call (as := [.inr (.inr (some 30))]) (r := []) (pc' := 4) rfl rfl (Nat.le_of_ble_eq_true rfl) (Nat.le_of_ble_eq_true rfl) ⟨rfl, rfl⟩ (Nat.le_of_ble_eq_true rfl) rfl rfl rfl rfl ?_
  refine ev.post h (fun v M1 h => ?_)
  obtain ⟨rfl, h⟩ := h
  show ev 130 4 [(0, .inr (.inr (some 30)))] [] M1 _
  refine ev_lo (lo' := [(0, .inr (.inr (some 30)))]) (st' := [.inr (.inr (some 30))]) (pc' := 5) rfl rfl rfl rfl ?_
  refine ev_get (v := .inr (.inr (some 40))) (pc' := 8) rfl rfl rfl rfl ?_
  refine ev_lo (lo' := [(0, .inr (.inr (some 30)))]) (st' := [.inr (.inr (some 30)), .inr (.inr (some 40))]) (pc' := 9) rfl rfl rfl rfl ?_
  refine ev_get (v := .inl (sM_length M1)) (pc' := 12) rfl rfl rfl rfl ?_
  obtain ⟨hs0, h⟩ := h
  refine ev_ald (t := 2) (n := 726) (f := aM_used M1) (w := fun x => .inl x) (pc' := 13) rfl rfl (fun _ _ => rfl) rfl hs0 rfl ?_
  obtain ⟨hs, h⟩ := h
  exact ev_rtZ rfl rfl hs ⟨_, rfl, h⟩
/-! NulledForestModel.isPart(III)Z -/
def m131 (x1 x2 x3 : Int) (M : ev_M) (Q : Int → ev_M → Prop) : Prop := ev 131 0 [(0, .inr (.inr (some 30))), (1, .inl x1), (2, .inl x2), (3, .inl x3)] [] M (fun v M1 => ∃ w : Int, v = some (.inl w) ∧ Q w M1)
def c131_28 (M : ev_M) (Q : Int → ev_M → Prop) : Prop := ev 131 28 [] [] M (fun v M1 => ∃ w : Int, v = some (.inl w) ∧ Q w M1)
def c131_29 (t0 : Int) (M : ev_M) (Q : Int → ev_M → Prop) : Prop := ev 131 29 [] [.inl t0] M (fun v M1 => ∃ w : Int, v = some (.inl w) ∧ Q w M1)
set_option maxRecDepth 10000 in
theorem b131 {x1 x2 x3 : Int} {M : ev_M} {Q : Int → ev_M → Prop}
    (h : m95 x1 M (fun w1 M1 => (w1 = 0 → (c131_28 M1 Q)) ∧ (¬ (w1 = 0) → ((x2 < 0 → (c131_28 M1 Q)) ∧ (¬ (x2 < 0) → ((x3 < x2 → (c131_28 M1 Q)) ∧ (¬ (x3 < x2) → (((sM_length M1) < x3 → (c131_28 M1 Q)) ∧ (¬ ((sM_length M1) < x3) → (c131_29 1 M1 Q)))))))))) : m131 x1 x2 x3 M Q := by
  unfold m131
  refine ev_lo (lo' := [(0, .inr (.inr (some 30))), (1, .inl x1), (2, .inl x2), (3, .inl x3)]) (st' := [.inl x1]) (pc' := 1) rfl rfl rfl rfl ?_
  refine ev_call (as := [.inl x1]) (r := []) (pc' := 4) rfl rfl (Nat.le_of_ble_eq_true rfl) (Nat.le_of_ble_eq_true rfl) ⟨rfl, rfl⟩ (Nat.le_of_ble_eq_true rfl) rfl rfl rfl rfl ?_
  refine ev.post h (fun v M1 h => ?_)
  obtain ⟨w1, rfl, h⟩ := h
  show ev 131 4 [(0, .inr (.inr (some 30))), (1, .inl x1), (2, .inl x2), (3, .inl x3)] [.inl w1] M1 _
  refine ev_ifT (pc' := 28) (pc2 := 7) rfl (by decide) rfl rfl (fun hc => ?_) (fun hc => ?_)
  · replace h := h.1 (of_decide_eq_true hc)
    exact ev_pick [] rfl rfl h
  · replace h := h.2 (of_decide_eq_false hc)
    refine ev_lo (lo' := [(0, .inr (.inr (some 30))), (1, .inl x1), (2, .inl x2), (3, .inl x3)]) (st' := [.inl x2]) (pc' := 8) rfl rfl rfl rfl ?_
    refine ev_ifT (pc' := 28) (pc2 := 11) rfl (by decide) rfl rfl (fun hc => ?_) (fun hc => ?_)
    · replace h := h.1 (of_decide_eq_true hc)
      exact ev_pick [] rfl rfl h
    · replace h := h.2 (of_decide_eq_false hc)
      refine ev_lo (lo' := [(0, .inr (.inr (some 30))), (1, .inl x1), (2, .inl x2), (3, .inl x3)]) (st' := [.inl x2]) (pc' := 12) rfl rfl rfl rfl ?_
      refine ev_lo (lo' := [(0, .inr (.inr (some 30))), (1, .inl x1), (2, .inl x2), (3, .inl x3)]) (st' := [.inl x3, .inl x2]) (pc' := 13) rfl rfl rfl rfl ?_
      refine ev_icmp (pc' := 28) (pc2 := 16) rfl (by decide) rfl rfl (fun hc => ?_) (fun hc => ?_)
      · replace h := h.1 (of_decide_eq_true hc)
        exact ev_pick [] rfl rfl h
      · replace h := h.2 (of_decide_eq_false hc)
        refine ev_lo (lo' := [(0, .inr (.inr (some 30))), (1, .inl x1), (2, .inl x2), (3, .inl x3)]) (st' := [.inl x3]) (pc' := 17) rfl rfl rfl rfl ?_
        refine ev_lo (lo' := [(0, .inr (.inr (some 30))), (1, .inl x1), (2, .inl x2), (3, .inl x3)]) (st' := [.inr (.inr (some 30)), .inl x3]) (pc' := 18) rfl rfl rfl rfl ?_
        refine ev_get (v := .inl (sM_length M1)) (pc' := 21) rfl rfl rfl rfl ?_
        refine ev_icmp (pc' := 28) (pc2 := 24) rfl (by decide) rfl rfl (fun hc => ?_) (fun hc => ?_)
        · replace h := h.1 (of_decide_eq_true hc)
          exact ev_pick [] rfl rfl h
        · replace h := h.2 (of_decide_eq_false hc)
          refine ev_pu (st' := [.inl 1]) (pc' := 25) rfl rfl rfl rfl ?_
          refine ev_br (pc' := 29) (st' := [.inl 1]) rfl rfl rfl ?_
          exact ev_pick [] rfl rfl h
set_option maxRecDepth 10000 in
theorem b131_28 {M : ev_M} {Q : Int → ev_M → Prop}
    (h : c131_29 0 M Q) : c131_28 M Q := by
  unfold c131_28
  refine ev_pu (st' := [.inl 0]) (pc' := 29) rfl rfl rfl rfl ?_
  exact ev_pick [] rfl rfl h
set_option maxRecDepth 10000 in
theorem b131_29 {t0 : Int} {M : ev_M} {Q : Int → ev_M → Prop}
    (h : (t0 = 0 ∨ t0 = 1) ∧ Q t0 M) : c131_29 t0 M Q := by
  unfold c131_29
  obtain ⟨hs, h⟩ := h
  exact ev_rtZ rfl rfl hs ⟨_, rfl, h⟩
/-! NulledForestModel.used(III)Z -/
def m132 (x1 x2 x3 : Int) (M : ev_M) (Q : Int → ev_M → Prop) : Prop := ev 132 0 [(0, .inr (.inr (some 30))), (1, .inl x1), (2, .inl x2), (3, .inl x3)] [] M (fun v M1 => ∃ w : Int, v = some (.inl w) ∧ Q w M1)
def c132_37 (M : ev_M) (Q : Int → ev_M → Prop) : Prop := ev 132 37 [] [] M (fun v M1 => ∃ w : Int, v = some (.inl w) ∧ Q w M1)
def c132_38 (t0 : Int) (M : ev_M) (Q : Int → ev_M → Prop) : Prop := ev 132 38 [] [.inl t0] M (fun v M1 => ∃ w : Int, v = some (.inl w) ∧ Q w M1)
set_option maxRecDepth 10000 in
theorem b132 {x1 x2 x3 : Int} {M : ev_M} {Q : Int → ev_M → Prop}
    (h : m121 M (fun M1 => m131 x1 x2 x3 M1 (fun w2 M2 => (w2 = 0 → (c132_37 M2 Q)) ∧ (¬ (w2 = 0) → (tm_iI (121 * x1) ∧ (tm_iI (11 * x2) ∧ (tm_iI ((121 * x1) + (11 * x2)) ∧ (tm_iI (((121 * x1) + (11 * x2)) + x3) ∧ ((0 ≤ (((121 * x1) + (11 * x2)) + x3) ∧ (((121 * x1) + (11 * x2)) + x3) < 726) ∧ (((aM_used M2 (((121 * x1) + (11 * x2)) + x3).toNat) = 0 → (c132_37 M2 Q)) ∧ (¬ ((aM_used M2 (((121 * x1) + (11 * x2)) + x3).toNat) = 0) → (c132_38 1 M2 Q)))))))))))) : m132 x1 x2 x3 M Q := by
  unfold m132
  refine ev_lo (lo' := [(0, .inr (.inr (some 30))), (1, .inl x1), (2, .inl x2), (3, .inl x3)]) (st' := [.inr (.inr (some 30))]) (pc' := 1) rfl rfl rfl rfl ?_
  refine ev_call (as := [.inr (.inr (some 30))]) (r := []) (pc' := 4) rfl rfl (Nat.le_of_ble_eq_true rfl) (Nat.le_of_ble_eq_true rfl) ⟨rfl, rfl⟩ (Nat.le_of_ble_eq_true rfl) rfl rfl rfl rfl ?_
  refine ev.post h (fun v M1 h => ?_)
  obtain ⟨rfl, h⟩ := h
  show ev 132 4 [(0, .inr (.inr (some 30))), (1, .inl x1), (2, .inl x2), (3, .inl x3)] [] M1 _
  refine ev_lo (lo' := [(0, .inr (.inr (some 30))), (1, .inl x1), (2, .inl x2), (3, .inl x3)]) (st' := [.inr (.inr (some 30))]) (pc' := 5) rfl rfl rfl rfl ?_
  refine ev_lo (lo' := [(0, .inr (.inr (some 30))), (1, .inl x1), (2, .inl x2), (3, .inl x3)]) (st' := [.inl x1, .inr (.inr (some 30))]) (pc' := 6) rfl rfl rfl rfl ?_
  refine ev_lo (lo' := [(0, .inr (.inr (some 30))), (1, .inl x1), (2, .inl x2), (3, .inl x3)]) (st' := [.inl x2, .inl x1, .inr (.inr (some 30))]) (pc' := 7) rfl rfl rfl rfl ?_
  refine ev_lo (lo' := [(0, .inr (.inr (some 30))), (1, .inl x1), (2, .inl x2), (3, .inl x3)]) (st' := [.inl x3, .inl x2, .inl x1, .inr (.inr (some 30))]) (pc' := 8) rfl rfl rfl rfl ?_
  refine ev_call (as := [.inr (.inr (some 30)), .inl x1, .inl x2, .inl x3]) (r := []) (pc' := 11) rfl rfl (Nat.le_of_ble_eq_true rfl) (Nat.le_of_ble_eq_true rfl) ⟨rfl, rfl⟩ (Nat.le_of_ble_eq_true rfl) rfl rfl rfl rfl ?_
  refine ev.post h (fun v M2 h => ?_)
  obtain ⟨w2, rfl, h⟩ := h
  show ev 132 11 [(0, .inr (.inr (some 30))), (1, .inl x1), (2, .inl x2), (3, .inl x3)] [.inl w2] M2 _
  refine ev_ifT (pc' := 37) (pc2 := 14) rfl (by decide) rfl rfl (fun hc => ?_) (fun hc => ?_)
  · replace h := h.1 (of_decide_eq_true hc)
    exact ev_pick [] rfl rfl h
  · replace h := h.2 (of_decide_eq_false hc)
    refine ev_lo (lo' := [(0, .inr (.inr (some 30))), (1, .inl x1), (2, .inl x2), (3, .inl x3)]) (st' := [.inr (.inr (some 30))]) (pc' := 15) rfl rfl rfl rfl ?_
    refine ev_get (v := .inr (.inr (some 40))) (pc' := 18) rfl rfl rfl rfl ?_
    refine ev_pu (st' := [.inl 121, .inr (.inr (some 40))]) (pc' := 20) rfl rfl rfl rfl ?_
    refine ev_lo (lo' := [(0, .inr (.inr (some 30))), (1, .inl x1), (2, .inl x2), (3, .inl x3)]) (st' := [.inl x1, .inl 121, .inr (.inr (some 40))]) (pc' := 21) rfl rfl rfl rfl ?_
    obtain ⟨hs, h⟩ := h
    refine ev_ii (f := fun a b => a * b) (pc' := 22) rfl rfl (fun _ => rfl) (tm_mul hs) rfl ?_
    refine ev_pu (st' := [.inl 11, .inl (121 * x1), .inr (.inr (some 40))]) (pc' := 24) rfl rfl rfl rfl ?_
    refine ev_lo (lo' := [(0, .inr (.inr (some 30))), (1, .inl x1), (2, .inl x2), (3, .inl x3)]) (st' := [.inl x2, .inl 11, .inl (121 * x1), .inr (.inr (some 40))]) (pc' := 25) rfl rfl rfl rfl ?_
    obtain ⟨hs, h⟩ := h
    refine ev_ii (f := fun a b => a * b) (pc' := 26) rfl rfl (fun _ => rfl) (tm_mul hs) rfl ?_
    obtain ⟨hs, h⟩ := h
    refine ev_ii (f := fun a b => a + b) (pc' := 27) rfl rfl (fun _ => rfl) (tm_add hs) rfl ?_
    refine ev_lo (lo' := [(0, .inr (.inr (some 30))), (1, .inl x1), (2, .inl x2), (3, .inl x3)]) (st' := [.inl x3, .inl ((121 * x1) + (11 * x2)), .inr (.inr (some 40))]) (pc' := 28) rfl rfl rfl rfl ?_
    obtain ⟨hs, h⟩ := h
    refine ev_ii (f := fun a b => a + b) (pc' := 29) rfl rfl (fun _ => rfl) (tm_add hs) rfl ?_
    obtain ⟨hs0, h⟩ := h
    refine ev_ald (t := 2) (n := 726) (f := aM_used M2) (w := fun x => .inl x) (pc' := 30) rfl rfl (fun _ _ => rfl) rfl hs0 rfl ?_
    refine ev_ifT (pc' := 37) (pc2 := 33) rfl (by decide) rfl rfl (fun hc => ?_) (fun hc => ?_)
    · replace h := h.1 (of_decide_eq_true hc)
      exact ev_pick [] rfl rfl h
    · replace h := h.2 (of_decide_eq_false hc)
      refine ev_pu (st' := [.inl 1]) (pc' := 34) rfl rfl rfl rfl ?_
      refine ev_br (pc' := 38) (st' := [.inl 1]) rfl rfl rfl ?_
      exact ev_pick [] rfl rfl h
set_option maxRecDepth 10000 in
theorem b132_37 {M : ev_M} {Q : Int → ev_M → Prop}
    (h : c132_38 0 M Q) : c132_37 M Q := by
  unfold c132_37
  refine ev_pu (st' := [.inl 0]) (pc' := 38) rfl rfl rfl rfl ?_
  exact ev_pick [] rfl rfl h
set_option maxRecDepth 10000 in
theorem b132_38 {t0 : Int} {M : ev_M} {Q : Int → ev_M → Prop}
    (h : (t0 = 0 ∨ t0 = 1) ∧ Q t0 M) : c132_38 t0 M Q := by
  unfold c132_38
  obtain ⟨hs, h⟩ := h
  exact ev_rtZ rfl rfl hs ⟨_, rfl, h⟩
/-! NulledForestModel.families(III)I -/
def m133 (x1 x2 x3 : Int) (M : ev_M) (Q : Int → ev_M → Prop) : Prop := ev 133 0 [(0, .inr (.inr (some 30))), (1, .inl x1), (2, .inl x2), (3, .inl x3)] [] M (fun v M1 => ∃ w : Int, v = some (.inl w) ∧ Q w M1)
def c133_53 (x4 x5 : Int) (M : ev_M) (Q : Int → ev_M → Prop) : Prop := ev 133 53 [(0, .inr (.inr (some 30))), (4, .inl x4), (5, .inl x5)] [] M (fun v M1 => ∃ w : Int, v = some (.inl w) ∧ Q w M1)
def c133_73 (x4 : Int) (M : ev_M) (Q : Int → ev_M → Prop) : Prop := ev 133 73 [(4, .inl x4)] [] M (fun v M1 => ∃ w : Int, v = some (.inl w) ∧ Q w M1)
set_option maxRecDepth 10000 in
theorem b133 {x1 x2 x3 : Int} {M : ev_M} {Q : Int → ev_M → Prop}
    (h : m121 M (fun M1 => m131 x1 x2 x3 M1 (fun w2 M2 => (w2 = 0 → (c133_73 0 M2 Q)) ∧ (¬ (w2 = 0) → (tm_iI (121 * x1) ∧ (tm_iI (11 * x2) ∧ (tm_iI ((121 * x1) + (11 * x2)) ∧ (tm_iI (((121 * x1) + (11 * x2)) + x3) ∧ ((0 ≤ (((121 * x1) + (11 * x2)) + x3) ∧ (((121 * x1) + (11 * x2)) + x3) < 726) ∧ (((aM_used M2 (((121 * x1) + (11 * x2)) + x3).toNat) = 0 → (c133_73 0 M2 Q)) ∧ (¬ ((aM_used M2 (((121 * x1) + (11 * x2)) + x3).toNat) = 0) → (tm_iI (121 * x1) ∧ (tm_iI (11 * x2) ∧ (tm_iI ((121 * x1) + (11 * x2)) ∧ (tm_iI (((121 * x1) + (11 * x2)) + x3) ∧ (m112 (((121 * x1) + (11 * x2)) + x3) M2 (fun w3 M3 => c133_53 0 w3 M3 Q))))))))))))))))) : m133 x1 x2 x3 M Q := by
  unfold m133
  refine ev_lo (lo' := [(0, .inr (.inr (some 30))), (1, .inl x1), (2, .inl x2), (3, .inl x3)]) (st' := [.inr (.inr (some 30))]) (pc' := 1) rfl rfl rfl rfl ?_
  refine ev_call (as := [.inr (.inr (some 30))]) (r := []) (pc' := 4) rfl rfl (Nat.le_of_ble_eq_true rfl) (Nat.le_of_ble_eq_true rfl) ⟨rfl, rfl⟩ (Nat.le_of_ble_eq_true rfl) rfl rfl rfl rfl ?_
  refine ev.post h (fun v M1 h => ?_)
  obtain ⟨rfl, h⟩ := h
  show ev 133 4 [(0, .inr (.inr (some 30))), (1, .inl x1), (2, .inl x2), (3, .inl x3)] [] M1 _
  refine ev_pu (st' := [.inl 0]) (pc' := 5) rfl rfl rfl rfl ?_
  refine ev_lo (lo' := [(4, .inl 0), (0, .inr (.inr (some 30))), (1, .inl x1), (2, .inl x2), (3, .inl x3)]) (st' := []) (pc' := 7) rfl rfl rfl rfl ?_
  refine ev_lo (lo' := [(4, .inl 0), (0, .inr (.inr (some 30))), (1, .inl x1), (2, .inl x2), (3, .inl x3)]) (st' := [.inr (.inr (some 30))]) (pc' := 8) rfl rfl rfl rfl ?_
  refine ev_lo (lo' := [(4, .inl 0), (0, .inr (.inr (some 30))), (1, .inl x1), (2, .inl x2), (3, .inl x3)]) (st' := [.inl x1, .inr (.inr (some 30))]) (pc' := 9) rfl rfl rfl rfl ?_
  refine ev_lo (lo' := [(4, .inl 0), (0, .inr (.inr (some 30))), (1, .inl x1), (2, .inl x2), (3, .inl x3)]) (st' := [.inl x2, .inl x1, .inr (.inr (some 30))]) (pc' := 10) rfl rfl rfl rfl ?_
  refine ev_lo (lo' := [(4, .inl 0), (0, .inr (.inr (some 30))), (1, .inl x1), (2, .inl x2), (3, .inl x3)]) (st' := [.inl x3, .inl x2, .inl x1, .inr (.inr (some 30))]) (pc' := 11) rfl rfl rfl rfl ?_
  refine ev_call (as := [.inr (.inr (some 30)), .inl x1, .inl x2, .inl x3]) (r := []) (pc' := 14) rfl rfl (Nat.le_of_ble_eq_true rfl) (Nat.le_of_ble_eq_true rfl) ⟨rfl, rfl⟩ (Nat.le_of_ble_eq_true rfl) rfl rfl rfl rfl ?_
  refine ev.post h (fun v M2 h => ?_)
  obtain ⟨w2, rfl, h⟩ := h
  show ev 133 14 [(4, .inl 0), (0, .inr (.inr (some 30))), (1, .inl x1), (2, .inl x2), (3, .inl x3)] [.inl w2] M2 _
  refine ev_ifT (pc' := 73) (pc2 := 17) rfl (by decide) rfl rfl (fun hc => ?_) (fun hc => ?_)
  · replace h := h.1 (of_decide_eq_true hc)
    exact ev_pick [4] rfl rfl h
  · replace h := h.2 (of_decide_eq_false hc)
    refine ev_lo (lo' := [(4, .inl 0), (0, .inr (.inr (some 30))), (1, .inl x1), (2, .inl x2), (3, .inl x3)]) (st' := [.inr (.inr (some 30))]) (pc' := 18) rfl rfl rfl rfl ?_
    refine ev_get (v := .inr (.inr (some 40))) (pc' := 21) rfl rfl rfl rfl ?_
    refine ev_pu (st' := [.inl 121, .inr (.inr (some 40))]) (pc' := 23) rfl rfl rfl rfl ?_
    refine ev_lo (lo' := [(4, .inl 0), (0, .inr (.inr (some 30))), (1, .inl x1), (2, .inl x2), (3, .inl x3)]) (st' := [.inl x1, .inl 121, .inr (.inr (some 40))]) (pc' := 24) rfl rfl rfl rfl ?_
    obtain ⟨hs, h⟩ := h
    refine ev_ii (f := fun a b => a * b) (pc' := 25) rfl rfl (fun _ => rfl) (tm_mul hs) rfl ?_
    refine ev_pu (st' := [.inl 11, .inl (121 * x1), .inr (.inr (some 40))]) (pc' := 27) rfl rfl rfl rfl ?_
    refine ev_lo (lo' := [(4, .inl 0), (0, .inr (.inr (some 30))), (1, .inl x1), (2, .inl x2), (3, .inl x3)]) (st' := [.inl x2, .inl 11, .inl (121 * x1), .inr (.inr (some 40))]) (pc' := 28) rfl rfl rfl rfl ?_
    obtain ⟨hs, h⟩ := h
    refine ev_ii (f := fun a b => a * b) (pc' := 29) rfl rfl (fun _ => rfl) (tm_mul hs) rfl ?_
    obtain ⟨hs, h⟩ := h
    refine ev_ii (f := fun a b => a + b) (pc' := 30) rfl rfl (fun _ => rfl) (tm_add hs) rfl ?_
    refine ev_lo (lo' := [(4, .inl 0), (0, .inr (.inr (some 30))), (1, .inl x1), (2, .inl x2), (3, .inl x3)]) (st' := [.inl x3, .inl ((121 * x1) + (11 * x2)), .inr (.inr (some 40))]) (pc' := 31) rfl rfl rfl rfl ?_
    obtain ⟨hs, h⟩ := h
    refine ev_ii (f := fun a b => a + b) (pc' := 32) rfl rfl (fun _ => rfl) (tm_add hs) rfl ?_
    obtain ⟨hs0, h⟩ := h
    refine ev_ald (t := 2) (n := 726) (f := aM_used M2) (w := fun x => .inl x) (pc' := 33) rfl rfl (fun _ _ => rfl) rfl hs0 rfl ?_
    refine ev_ifT (pc' := 73) (pc2 := 36) rfl (by decide) rfl rfl (fun hc => ?_) (fun hc => ?_)
    · replace h := h.1 (of_decide_eq_true hc)
      exact ev_pick [4] rfl rfl h
    · replace h := h.2 (of_decide_eq_false hc)
      refine ev_lo (lo' := [(4, .inl 0), (0, .inr (.inr (some 30))), (1, .inl x1), (2, .inl x2), (3, .inl x3)]) (st' := [.inr (.inr (some 30))]) (pc' := 37) rfl rfl rfl rfl ?_
      refine ev_pu (st' := [.inl 121, .inr (.inr (some 30))]) (pc' := 39) rfl rfl rfl rfl ?_
      refine ev_lo (lo' := [(4, .inl 0), (0, .inr (.inr (some 30))), (1, .inl x1), (2, .inl x2), (3, .inl x3)]) (st' := [.inl x1, .inl 121, .inr (.inr (some 30))]) (pc' := 40) rfl rfl rfl rfl ?_
      obtain ⟨hs, h⟩ := h
      refine ev_ii (f := fun a b => a * b) (pc' := 41) rfl rfl (fun _ => rfl) (tm_mul hs) rfl ?_
      refine ev_pu (st' := [.inl 11, .inl (121 * x1), .inr (.inr (some 30))]) (pc' := 43) rfl rfl rfl rfl ?_
      refine ev_lo (lo' := [(4, .inl 0), (0, .inr (.inr (some 30))), (1, .inl x1), (2, .inl x2), (3, .inl x3)]) (st' := [.inl x2, .inl 11, .inl (121 * x1), .inr (.inr (some 30))]) (pc' := 44) rfl rfl rfl rfl ?_
      obtain ⟨hs, h⟩ := h
      refine ev_ii (f := fun a b => a * b) (pc' := 45) rfl rfl (fun _ => rfl) (tm_mul hs) rfl ?_
      obtain ⟨hs, h⟩ := h
      refine ev_ii (f := fun a b => a + b) (pc' := 46) rfl rfl (fun _ => rfl) (tm_add hs) rfl ?_
      refine ev_lo (lo' := [(4, .inl 0), (0, .inr (.inr (some 30))), (1, .inl x1), (2, .inl x2), (3, .inl x3)]) (st' := [.inl x3, .inl ((121 * x1) + (11 * x2)), .inr (.inr (some 30))]) (pc' := 47) rfl rfl rfl rfl ?_
      obtain ⟨hs, h⟩ := h
      refine ev_ii (f := fun a b => a + b) (pc' := 48) rfl rfl (fun _ => rfl) (tm_add hs) rfl ?_
      refine ev_call (as := [.inr (.inr (some 30)), .inl (((121 * x1) + (11 * x2)) + x3)]) (r := []) (pc' := 51) rfl rfl (Nat.le_of_ble_eq_true rfl) (Nat.le_of_ble_eq_true rfl) ⟨rfl, rfl⟩ (Nat.le_of_ble_eq_true rfl) rfl rfl rfl rfl ?_
      refine ev.post h (fun v M3 h => ?_)
      obtain ⟨w3, rfl, h⟩ := h
      show ev 133 51 [(4, .inl 0), (0, .inr (.inr (some 30))), (1, .inl x1), (2, .inl x2), (3, .inl x3)] [.inl w3] M3 _
      refine ev_lo (lo' := [(5, .inl w3), (4, .inl 0), (0, .inr (.inr (some 30))), (1, .inl x1), (2, .inl x2), (3, .inl x3)]) (st' := []) (pc' := 53) rfl rfl rfl rfl ?_
      exact ev_pick [0, 4, 5] rfl rfl h
set_option maxRecDepth 10000 in
theorem b133_53 {x4 x5 : Int} {M : ev_M} {Q : Int → ev_M → Prop}
    (h : (x5 = 0 → (c133_73 x4 M Q)) ∧ (¬ (x5 = 0) → (tm_iI (x4 + 1) ∧ (m111 M (fun w1 M1 => c133_53 (x4 + 1) w1 M1 Q))))) : c133_53 x4 x5 M Q := by
  unfold c133_53
  refine ev_lo (lo' := [(0, .inr (.inr (some 30))), (4, .inl x4), (5, .inl x5)]) (st' := [.inl x5]) (pc' := 55) rfl rfl rfl rfl ?_
  refine ev_ifT (pc' := 73) (pc2 := 58) rfl (by decide) rfl rfl (fun hc => ?_) (fun hc => ?_)
  · replace h := h.1 (of_decide_eq_true hc)
    exact ev_pick [4] rfl rfl h
  · replace h := h.2 (of_decide_eq_false hc)
    refine ev_lo (lo' := [(0, .inr (.inr (some 30))), (4, .inl x4), (5, .inl x5)]) (st' := [.inl x4]) (pc' := 60) rfl rfl rfl rfl ?_
    refine ev_pu (st' := [.inl 1, .inl x4]) (pc' := 61) rfl rfl rfl rfl ?_
    obtain ⟨hs, h⟩ := h
    refine ev_ii (f := fun a b => a + b) (pc' := 62) rfl rfl (fun _ => rfl) (tm_add hs) rfl ?_
    refine ev_lo (lo' := [(4, .inl (x4 + 1)), (0, .inr (.inr (some 30))), (5, .inl x5)]) (st' := []) (pc' := 64) rfl rfl rfl rfl ?_
    refine ev_lo (lo' := [(4, .inl (x4 + 1)), (0, .inr (.inr (some 30))), (5, .inl x5)]) (st' := [.inr (.inr (some 30))]) (pc' := 65) rfl rfl rfl rfl ?_
    refine ev_call (as := [.inr (.inr (some 30))]) (r := []) (pc' := 68) rfl rfl (Nat.le_of_ble_eq_true rfl) (Nat.le_of_ble_eq_true rfl) ⟨rfl, rfl⟩ (Nat.le_of_ble_eq_true rfl) rfl rfl rfl rfl ?_
    refine ev.post h (fun v M1 h => ?_)
    obtain ⟨w1, rfl, h⟩ := h
    show ev 133 68 [(4, .inl (x4 + 1)), (0, .inr (.inr (some 30))), (5, .inl x5)] [.inl w1] M1 _
    refine ev_lo (lo' := [(5, .inl w1), (4, .inl (x4 + 1)), (0, .inr (.inr (some 30)))]) (st' := []) (pc' := 70) rfl rfl rfl rfl ?_
    refine ev_br (pc' := 53) (st' := []) rfl rfl rfl ?_
    exact ev_pick [0, 4, 5] rfl rfl h
set_option maxRecDepth 10000 in
theorem b133_73 {x4 : Int} {M : ev_M} {Q : Int → ev_M → Prop}
    (h : Q x4 M) : c133_73 x4 M Q := by
  unfold c133_73
  refine ev_lo (lo' := [(4, .inl x4)]) (st' := [.inl x4]) (pc' := 75) rfl rfl rfl rfl ?_
  exact ev_rt rfl rfl rfl ⟨_, rfl, h⟩
/-! NulledForestModel.trees()I -/
def m134 (M : ev_M) (Q : Int → ev_M → Prop) : Prop := ev 134 0 [(0, .inr (.inr (some 30)))] [] M (fun v M1 => ∃ w : Int, v = some (.inl w) ∧ Q w M1)
def c134_25 (t0 : Int) (M : ev_M) (Q : Int → ev_M → Prop) : Prop := ev 134 25 [] [.inl t0] M (fun v M1 => ∃ w : Int, v = some (.inl w) ∧ Q w M1)
set_option maxRecDepth 10000 in
theorem b134 {M : ev_M} {Q : Int → ev_M → Prop}
    (h : m121 M (fun M1 => ((sM_endless M1) = 0 → ((0 ≤ (sM_length M1) ∧ (sM_length M1) < 726) ∧ (tm_iI (aM_counts M1 (sM_length M1).toNat) ∧ (c134_25 (aM_counts M1 (sM_length M1).toNat) M1 Q)))) ∧ (¬ ((sM_endless M1) = 0) → (c134_25 (-1) M1 Q)))) : m134 M Q := by
  unfold m134
  refine ev_lo (lo' := [(0, .inr (.inr (some 30)))]) (st' := [.inr (.inr (some 30))]) (pc' := 1) rfl rfl rfl rfl ?_
  refine ev_call (as := [.inr (.inr (some 30))]) (r := []) (pc' := 4) rfl rfl (Nat.le_of_ble_eq_true rfl) (Nat.le_of_ble_eq_true rfl) ⟨rfl, rfl⟩ (Nat.le_of_ble_eq_true rfl) rfl rfl rfl rfl ?_
  refine ev.post h (fun v M1 h => ?_)
  obtain ⟨rfl, h⟩ := h
  show ev 134 4 [(0, .inr (.inr (some 30)))] [] M1 _
  refine ev_lo (lo' := [(0, .inr (.inr (some 30)))]) (st' := [.inr (.inr (some 30))]) (pc' := 5) rfl rfl rfl rfl ?_
  refine ev_get (v := .inl (sM_endless M1)) (pc' := 8) rfl rfl rfl rfl ?_
  refine ev_ifT (pc' := 15) (pc2 := 11) rfl (by decide) rfl rfl (fun hc => ?_) (fun hc => ?_)
  · replace h := h.1 (of_decide_eq_true hc)
    refine ev_lo (lo' := [(0, .inr (.inr (some 30)))]) (st' := [.inr (.inr (some 30))]) (pc' := 16) rfl rfl rfl rfl ?_
    refine ev_get (v := .inr (.inr (some 42))) (pc' := 19) rfl rfl rfl rfl ?_
    refine ev_lo (lo' := [(0, .inr (.inr (some 30)))]) (st' := [.inr (.inr (some 30)), .inr (.inr (some 42))]) (pc' := 20) rfl rfl rfl rfl ?_
    refine ev_get (v := .inl (sM_length M1)) (pc' := 23) rfl rfl rfl rfl ?_
    obtain ⟨hs0, h⟩ := h
    refine ev_ald (t := 1) (n := 726) (f := aM_counts M1) (w := fun x => .inr (.inl x)) (pc' := 24) rfl rfl (fun _ _ => rfl) rfl hs0 rfl ?_
    obtain ⟨hs, h⟩ := h
    refine ev_l2i (pc' := 25) rfl hs rfl ?_
    exact ev_pick [] rfl rfl h
  · replace h := h.2 (of_decide_eq_false hc)
    refine ev_pu (st' := [.inl (-1)]) (pc' := 12) rfl rfl rfl rfl ?_
    refine ev_br (pc' := 25) (st' := [.inl (-1)]) rfl rfl rfl ?_
    exact ev_pick [] rfl rfl h
set_option maxRecDepth 10000 in
theorem b134_25 {t0 : Int} {M : ev_M} {Q : Int → ev_M → Prop}
    (h : Q t0 M) : c134_25 t0 M Q := by
  unfold c134_25
  exact ev_rt rfl rfl rfl ⟨_, rfl, h⟩
/-! NulledForestModel.pickFamily(IJ)J -/
def m135 (x1 x2 : Int) (M : ev_M) (Q : Int → ev_M → Prop) : Prop := ev 135 0 [(0, .inr (.inr (some 30))), (1, .inl x1), (2, .inr (.inl x2))] [] M (fun v M1 => ∃ w : Int, v = some (.inr (.inl w)) ∧ Q w M1)
def c135_15 (x4 x6 : Int) (M : ev_M) (Q : Int → ev_M → Prop) : Prop := ev 135 15 [(0, .inr (.inr (some 30))), (4, .inr (.inl x4)), (6, .inr (.inl x6))] [] M (fun v M1 => ∃ w : Int, v = some (.inr (.inl w)) ∧ Q w M1)
set_option maxRecDepth 10000 in
theorem b135 {x1 x2 : Int} {M : ev_M} {Q : Int → ev_M → Prop}
    (h : m112 x1 M (fun w1 M1 => m116 M1 (fun w2 M2 => c135_15 x2 w2 M2 Q))) : m135 x1 x2 M Q := by
  unfold m135
  refine ev_lo (lo' := [(0, .inr (.inr (some 30))), (1, .inl x1), (2, .inr (.inl x2))]) (st' := [.inr (.inl x2)]) (pc' := 1) rfl rfl rfl rfl ?_
  refine ev_lo (lo' := [(4, .inr (.inl x2)), (0, .inr (.inr (some 30))), (1, .inl x1), (2, .inr (.inl x2))]) (st' := []) (pc' := 3) rfl rfl rfl rfl ?_
  refine ev_lo (lo' := [(4, .inr (.inl x2)), (0, .inr (.inr (some 30))), (1, .inl x1), (2, .inr (.inl x2))]) (st' := [.inr (.inr (some 30))]) (pc' := 4) rfl rfl rfl rfl ?_
  refine ev_lo (lo' := [(4, .inr (.inl x2)), (0, .inr (.inr (some 30))), (1, .inl x1), (2, .inr (.inl x2))]) (st' := [.inl x1, .inr (.inr (some 30))]) (pc' := 5) rfl rfl rfl rfl ?_
  refine ev_call (as := [.inr (.inr (some 30)), .inl x1]) (r := []) (pc' := 8) rfl rfl (Nat.le_of_ble_eq_true rfl) (Nat.le_of_ble_eq_true rfl) ⟨rfl, rfl⟩ (Nat.le_of_ble_eq_true rfl) rfl rfl rfl rfl ?_
  refine ev.post h (fun v M1 h => ?_)
  obtain ⟨w1, rfl, h⟩ := h
  show ev 135 8 [(4, .inr (.inl x2)), (0, .inr (.inr (some 30))), (1, .inl x1), (2, .inr (.inl x2))] [.inl w1] M1 _
  refine ev_pu (st' := []) (pc' := 9) rfl rfl rfl rfl ?_
  refine ev_lo (lo' := [(4, .inr (.inl x2)), (0, .inr (.inr (some 30))), (1, .inl x1), (2, .inr (.inl x2))]) (st' := [.inr (.inr (some 30))]) (pc' := 10) rfl rfl rfl rfl ?_
  refine ev_call (as := [.inr (.inr (some 30))]) (r := []) (pc' := 13) rfl rfl (Nat.le_of_ble_eq_true rfl) (Nat.le_of_ble_eq_true rfl) ⟨rfl, rfl⟩ (Nat.le_of_ble_eq_true rfl) rfl rfl rfl rfl ?_
  refine ev.post h (fun v M2 h => ?_)
  obtain ⟨w2, rfl, h⟩ := h
  show ev 135 13 [(4, .inr (.inl x2)), (0, .inr (.inr (some 30))), (1, .inl x1), (2, .inr (.inl x2))] [.inr (.inl w2)] M2 _
  refine ev_lo (lo' := [(6, .inr (.inl w2)), (4, .inr (.inl x2)), (0, .inr (.inr (some 30))), (1, .inl x1), (2, .inr (.inl x2))]) (st' := []) (pc' := 15) rfl rfl rfl rfl ?_
  exact ev_pick [0, 4, 6] rfl rfl h
set_option maxRecDepth 10000 in
theorem b135_15 {x4 x6 : Int} {M : ev_M} {Q : Int → ev_M → Prop}
    (h : (x4 < x6 → (Q x4 M)) ∧ (¬ (x4 < x6) → (tm_iL (x4 - x6) ∧ (m111 M (fun w1 M1 => m116 M1 (fun w2 M2 => c135_15 (x4 - x6) w2 M2 Q)))))) : c135_15 x4 x6 M Q := by
  unfold c135_15
  refine ev_lo (lo' := [(0, .inr (.inr (some 30))), (4, .inr (.inl x4)), (6, .inr (.inl x6))]) (st' := [.inr (.inl x4)]) (pc' := 17) rfl rfl rfl rfl ?_
  refine ev_lo (lo' := [(0, .inr (.inr (some 30))), (4, .inr (.inl x4)), (6, .inr (.inl x6))]) (st' := [.inr (.inl x6), .inr (.inl x4)]) (pc' := 19) rfl rfl rfl rfl ?_
  refine ev_lcmp (pc1 := 20) (pc' := 44) (pc2 := 23) rfl rfl rfl (by decide) rfl rfl (fun hc => ?_) (fun hc => ?_)
  · replace h := h.1 (of_decide_eq_true hc)
    refine ev_lo (lo' := [(0, .inr (.inr (some 30))), (4, .inr (.inl x4)), (6, .inr (.inl x6))]) (st' := [.inr (.inl x4)]) (pc' := 46) rfl rfl rfl rfl ?_
    exact ev_rt rfl rfl rfl ⟨_, rfl, h⟩
  · replace h := h.2 (of_decide_eq_false hc)
    refine ev_lo (lo' := [(0, .inr (.inr (some 30))), (4, .inr (.inl x4)), (6, .inr (.inl x6))]) (st' := [.inr (.inl x4)]) (pc' := 25) rfl rfl rfl rfl ?_
    refine ev_lo (lo' := [(0, .inr (.inr (some 30))), (4, .inr (.inl x4)), (6, .inr (.inl x6))]) (st' := [.inr (.inl x6), .inr (.inl x4)]) (pc' := 27) rfl rfl rfl rfl ?_
    obtain ⟨hs, h⟩ := h
    refine ev_ll (f := fun a b => a - b) (pc' := 28) rfl rfl (fun _ => rfl) (tm_lsub hs) rfl ?_
    refine ev_lo (lo' := [(4, .inr (.inl (x4 - x6))), (0, .inr (.inr (some 30))), (6, .inr (.inl x6))]) (st' := []) (pc' := 30) rfl rfl rfl rfl ?_
    refine ev_lo (lo' := [(4, .inr (.inl (x4 - x6))), (0, .inr (.inr (some 30))), (6, .inr (.inl x6))]) (st' := [.inr (.inr (some 30))]) (pc' := 31) rfl rfl rfl rfl ?_
    refine ev_call (as := [.inr (.inr (some 30))]) (r := []) (pc' := 34) rfl rfl (Nat.le_of_ble_eq_true rfl) (Nat.le_of_ble_eq_true rfl) ⟨rfl, rfl⟩ (Nat.le_of_ble_eq_true rfl) rfl rfl rfl rfl ?_
    refine ev.post h (fun v M1 h => ?_)
    obtain ⟨w1, rfl, h⟩ := h
    show ev 135 34 [(4, .inr (.inl (x4 - x6))), (0, .inr (.inr (some 30))), (6, .inr (.inl x6))] [.inl w1] M1 _
    refine ev_pu (st' := []) (pc' := 35) rfl rfl rfl rfl ?_
    refine ev_lo (lo' := [(4, .inr (.inl (x4 - x6))), (0, .inr (.inr (some 30))), (6, .inr (.inl x6))]) (st' := [.inr (.inr (some 30))]) (pc' := 36) rfl rfl rfl rfl ?_
    refine ev_call (as := [.inr (.inr (some 30))]) (r := []) (pc' := 39) rfl rfl (Nat.le_of_ble_eq_true rfl) (Nat.le_of_ble_eq_true rfl) ⟨rfl, rfl⟩ (Nat.le_of_ble_eq_true rfl) rfl rfl rfl rfl ?_
    refine ev.post h (fun v M2 h => ?_)
    obtain ⟨w2, rfl, h⟩ := h
    show ev 135 39 [(4, .inr (.inl (x4 - x6))), (0, .inr (.inr (some 30))), (6, .inr (.inl x6))] [.inr (.inl w2)] M2 _
    refine ev_lo (lo' := [(6, .inr (.inl w2)), (4, .inr (.inl (x4 - x6))), (0, .inr (.inr (some 30)))]) (st' := []) (pc' := 41) rfl rfl rfl rfl ?_
    refine ev_br (pc' := 15) (st' := []) rfl rfl rfl ?_
    exact ev_pick [0, 4, 6] rfl rfl h
/-! NulledForestModel.push(J)V -/
def m136 (x1 : Int) (M : ev_M) (Q : ev_M → Prop) : Prop := ev 136 0 [(0, .inr (.inr (some 30))), (1, .inr (.inl x1))] [] M (fun v M1 => v = none ∧ Q M1)
def c136_15 (x3 x5 : Int) (M : ev_M) (Q : ev_M → Prop) : Prop := ev 136 15 [(0, .inr (.inr (some 30))), (3, .inr (.inl x3)), (5, .inl x5)] [] M (fun v M1 => v = none ∧ Q M1)
def c136_82 (x3 x5 : Int) (M : ev_M) (Q : ev_M → Prop) : Prop := ev 136 82 [(0, .inr (.inr (some 30))), (3, .inr (.inl x3)), (5, .inl x5)] [] M (fun v M1 => v = none ∧ Q M1)
set_option maxRecDepth 10000 in
theorem b136 {x1 : Int} {M : ev_M} {Q : ev_M → Prop}
    (h : (0 ≤ (sM_rule M) ∧ (sM_rule M) < 14) ∧ (tm_iI ((aM_sizes M (sM_rule M).toNat) - 1) ∧ (c136_15 x1 ((aM_sizes M (sM_rule M).toNat) - 1) M Q))) : m136 x1 M Q := by
  unfold m136
  refine ev_lo (lo' := [(0, .inr (.inr (some 30))), (1, .inr (.inl x1))]) (st' := [.inr (.inl x1)]) (pc' := 1) rfl rfl rfl rfl ?_
  refine ev_lo (lo' := [(3, .inr (.inl x1)), (0, .inr (.inr (some 30))), (1, .inr (.inl x1))]) (st' := []) (pc' := 2) rfl rfl rfl rfl ?_
  refine ev_lo (lo' := [(3, .inr (.inl x1)), (0, .inr (.inr (some 30))), (1, .inr (.inl x1))]) (st' := [.inr (.inr (some 30))]) (pc' := 3) rfl rfl rfl rfl ?_
  refine ev_get (v := .inr (.inr (some 32))) (pc' := 6) rfl rfl rfl rfl ?_
  refine ev_lo (lo' := [(3, .inr (.inl x1)), (0, .inr (.inr (some 30))), (1, .inr (.inl x1))]) (st' := [.inr (.inr (some 30)), .inr (.inr (some 32))]) (pc' := 7) rfl rfl rfl rfl ?_
  refine ev_get (v := .inl (sM_rule M)) (pc' := 10) rfl rfl rfl rfl ?_
  obtain ⟨hs0, h⟩ := h
  refine ev_ald (t := 0) (n := 14) (f := aM_sizes M) (w := fun x => .inl x) (pc' := 11) rfl rfl (fun _ _ => rfl) rfl hs0 rfl ?_
  refine ev_pu (st' := [.inl 1, .inl (aM_sizes M (sM_rule M).toNat)]) (pc' := 12) rfl rfl rfl rfl ?_
  obtain ⟨hs, h⟩ := h
  refine ev_ii (f := fun a b => a - b) (pc' := 13) rfl rfl (fun _ => rfl) (tm_sub' hs) rfl ?_
  refine ev_lo (lo' := [(5, .inl ((aM_sizes M (sM_rule M).toNat) - 1)), (3, .inr (.inl x1)), (0, .inr (.inr (some 30))), (1, .inr (.inl x1))]) (st' := []) (pc' := 15) rfl rfl rfl rfl ?_
  exact ev_pick [0, 3, 5] rfl rfl h
set_option maxRecDepth 10000 in
theorem b136_15 {x3 x5 : Int} {M : ev_M} {Q : ev_M → Prop}
    (h : (x5 < 0 → (Q M)) ∧ (¬ (x5 < 0) → (m113 x5 M (fun w1 M1 => (w1 < 0 → (c136_82 x3 x5 M1 Q)) ∧ (¬ (w1 < 0) → ((0 ≤ (sM_waiting M1) ∧ (sM_waiting M1) < 800) ∧ ((0 ≤ w1 ∧ w1 < 726) ∧ ((0 ≤ x3 ∧ x3 < 9223372036854775808) ∧ (0 < (aM_counts M1 (w1).toNat) ∧ (aM_counts M1 (w1).toNat) < 9223372036854775808) ∧ ((0 ≤ (sM_waiting M1) ∧ (sM_waiting M1) < 800) ∧ ((0 ≤ w1 ∧ w1 < 726) ∧ ((0 ≤ x3 ∧ x3 < 9223372036854775808) ∧ (0 < (aM_counts M1 (w1).toNat) ∧ (aM_counts M1 (w1).toNat) < 9223372036854775808) ∧ (tm_iI ((sM_waiting M1) + 1) ∧ (c136_82 (x3 / (aM_counts M1 (w1).toNat)) x5 (ev_sS (ev_sA (ev_sA M1 44 (sM_waiting M1).toNat w1) 45 (sM_waiting M1).toNat (x3 % (aM_counts M1 (w1).toNat))) 25 ((sM_waiting M1) + 1)) Q))))))))))))) : c136_15 x3 x5 M Q := by
  unfold c136_15
  refine ev_lo (lo' := [(0, .inr (.inr (some 30))), (3, .inr (.inl x3)), (5, .inl x5)]) (st' := [.inl x5]) (pc' := 17) rfl rfl rfl rfl ?_
  refine ev_ifT (pc' := 88) (pc2 := 20) rfl (by decide) rfl rfl (fun hc => ?_) (fun hc => ?_)
  · replace h := h.1 (of_decide_eq_true hc)
    exact ev_rt rfl rfl rfl ⟨rfl, h⟩
  · replace h := h.2 (of_decide_eq_false hc)
    refine ev_lo (lo' := [(0, .inr (.inr (some 30))), (3, .inr (.inl x3)), (5, .inl x5)]) (st' := [.inr (.inr (some 30))]) (pc' := 21) rfl rfl rfl rfl ?_
    refine ev_lo (lo' := [(0, .inr (.inr (some 30))), (3, .inr (.inl x3)), (5, .inl x5)]) (st' := [.inl x5, .inr (.inr (some 30))]) (pc' := 23) rfl rfl rfl rfl ?_
    refine ev_call (as := [.inr (.inr (some 30)), .inl x5]) (r := []) (pc' := 26) rfl rfl (Nat.le_of_ble_eq_true rfl) (Nat.le_of_ble_eq_true rfl) ⟨rfl, rfl⟩ (Nat.le_of_ble_eq_true rfl) rfl rfl rfl rfl ?_
    refine ev.post h (fun v M1 h => ?_)
    obtain ⟨w1, rfl, h⟩ := h
    show ev 136 26 [(0, .inr (.inr (some 30))), (3, .inr (.inl x3)), (5, .inl x5)] [.inl w1] M1 _
    refine ev_lo (lo' := [(6, .inl w1), (0, .inr (.inr (some 30))), (3, .inr (.inl x3)), (5, .inl x5)]) (st' := []) (pc' := 28) rfl rfl rfl rfl ?_
    refine ev_lo (lo' := [(6, .inl w1), (0, .inr (.inr (some 30))), (3, .inr (.inl x3)), (5, .inl x5)]) (st' := [.inl w1]) (pc' := 30) rfl rfl rfl rfl ?_
    refine ev_ifT (pc' := 82) (pc2 := 33) rfl (by decide) rfl rfl (fun hc => ?_) (fun hc => ?_)
    · replace h := h.1 (of_decide_eq_true hc)
      exact ev_pick [0, 3, 5] rfl rfl h
    · replace h := h.2 (of_decide_eq_false hc)
      refine ev_lo (lo' := [(6, .inl w1), (0, .inr (.inr (some 30))), (3, .inr (.inl x3)), (5, .inl x5)]) (st' := [.inr (.inr (some 30))]) (pc' := 34) rfl rfl rfl rfl ?_
      refine ev_get (v := .inr (.inr (some 44))) (pc' := 37) rfl rfl rfl rfl ?_
      refine ev_lo (lo' := [(6, .inl w1), (0, .inr (.inr (some 30))), (3, .inr (.inl x3)), (5, .inl x5)]) (st' := [.inr (.inr (some 30)), .inr (.inr (some 44))]) (pc' := 38) rfl rfl rfl rfl ?_
      refine ev_get (v := .inl (sM_waiting M1)) (pc' := 41) rfl rfl rfl rfl ?_
      refine ev_lo (lo' := [(6, .inl w1), (0, .inr (.inr (some 30))), (3, .inr (.inl x3)), (5, .inl x5)]) (st' := [.inl w1, .inl (sM_waiting M1), .inr (.inr (some 44))]) (pc' := 43) rfl rfl rfl rfl ?_
      obtain ⟨hs0, h⟩ := h
      refine ev_iast (n := 800) (f := aM_nodes M1) (M' := ev_sA M1 44 (sM_waiting M1).toNat w1) (pc' := 44) rfl rfl hs0 (hp_a44 _ _ _) rfl ?_
      refine ev_lo (lo' := [(6, .inl w1), (0, .inr (.inr (some 30))), (3, .inr (.inl x3)), (5, .inl x5)]) (st' := [.inr (.inr (some 30))]) (pc' := 45) rfl rfl rfl rfl ?_
      refine ev_get (v := .inr (.inr (some 45))) (pc' := 48) rfl rfl rfl rfl ?_
      refine ev_lo (lo' := [(6, .inl w1), (0, .inr (.inr (some 30))), (3, .inr (.inl x3)), (5, .inl x5)]) (st' := [.inr (.inr (some 30)), .inr (.inr (some 45))]) (pc' := 49) rfl rfl rfl rfl ?_
      refine ev_get (v := .inl (sM_waiting M1)) (pc' := 52) rfl rfl rfl rfl ?_
      refine ev_lo (lo' := [(6, .inl w1), (0, .inr (.inr (some 30))), (3, .inr (.inl x3)), (5, .inl x5)]) (st' := [.inr (.inl x3), .inl (sM_waiting M1), .inr (.inr (some 45))]) (pc' := 53) rfl rfl rfl rfl ?_
      refine ev_lo (lo' := [(6, .inl w1), (0, .inr (.inr (some 30))), (3, .inr (.inl x3)), (5, .inl x5)]) (st' := [.inr (.inr (some 30)), .inr (.inl x3), .inl (sM_waiting M1), .inr (.inr (some 45))]) (pc' := 54) rfl rfl rfl rfl ?_
      refine ev_get (v := .inr (.inr (some 42))) (pc' := 57) rfl rfl rfl rfl ?_
      refine ev_lo (lo' := [(6, .inl w1), (0, .inr (.inr (some 30))), (3, .inr (.inl x3)), (5, .inl x5)]) (st' := [.inl w1, .inr (.inr (some 42)), .inr (.inl x3), .inl (sM_waiting M1), .inr (.inr (some 45))]) (pc' := 59) rfl rfl rfl rfl ?_
      obtain ⟨hs0, h⟩ := h
      refine ev_ald (t := 1) (n := 726) (f := aM_counts M1) (w := fun x => .inr (.inl x)) (pc' := 60) rfl rfl (fun _ _ => rfl) rfl hs0 rfl ?_
      obtain ⟨hs0, hs1, h⟩ := h
      refine ev_lrem (pc' := 61) rfl hs1 (tm_lrem_eq hs0 hs1) rfl ?_
      obtain ⟨hs0, h⟩ := h
      refine ev_last (n := 800) (f := aM_picks M1) (M' := ev_sA (ev_sA M1 44 (sM_waiting M1).toNat w1) 45 (sM_waiting M1).toNat (x3 % (aM_counts M1 (w1).toNat))) (pc' := 62) rfl rfl hs0 (hp_a45 _ _ _) rfl ?_
      refine ev_lo (lo' := [(6, .inl w1), (0, .inr (.inr (some 30))), (3, .inr (.inl x3)), (5, .inl x5)]) (st' := [.inr (.inl x3)]) (pc' := 63) rfl rfl rfl rfl ?_
      refine ev_lo (lo' := [(6, .inl w1), (0, .inr (.inr (some 30))), (3, .inr (.inl x3)), (5, .inl x5)]) (st' := [.inr (.inr (some 30)), .inr (.inl x3)]) (pc' := 64) rfl rfl rfl rfl ?_
      refine ev_get (v := .inr (.inr (some 42))) (pc' := 67) rfl rfl rfl rfl ?_
      refine ev_lo (lo' := [(6, .inl w1), (0, .inr (.inr (some 30))), (3, .inr (.inl x3)), (5, .inl x5)]) (st' := [.inl w1, .inr (.inr (some 42)), .inr (.inl x3)]) (pc' := 69) rfl rfl rfl rfl ?_
      obtain ⟨hs0, h⟩ := h
      refine ev_ald (t := 1) (n := 726) (f := aM_counts M1) (w := fun x => .inr (.inl x)) (pc' := 70) rfl rfl (fun _ _ => rfl) rfl hs0 rfl ?_
      obtain ⟨hs0, hs1, h⟩ := h
      refine ev_ldiv (pc' := 71) rfl hs1 (tm_ldiv_eq hs0 hs1) rfl ?_
      refine ev_lo (lo' := [(3, .inr (.inl (x3 / (aM_counts M1 (w1).toNat)))), (6, .inl w1), (0, .inr (.inr (some 30))), (5, .inl x5)]) (st' := []) (pc' := 72) rfl rfl rfl rfl ?_
      refine ev_lo (lo' := [(3, .inr (.inl (x3 / (aM_counts M1 (w1).toNat)))), (6, .inl w1), (0, .inr (.inr (some 30))), (5, .inl x5)]) (st' := [.inr (.inr (some 30))]) (pc' := 73) rfl rfl rfl rfl ?_
      refine ev_lo (lo' := [(3, .inr (.inl (x3 / (aM_counts M1 (w1).toNat)))), (6, .inl w1), (0, .inr (.inr (some 30))), (5, .inl x5)]) (st' := [.inr (.inr (some 30)), .inr (.inr (some 30))]) (pc' := 74) rfl rfl rfl rfl ?_
      refine ev_get (v := .inl (sM_waiting M1)) (pc' := 77) rfl rfl rfl rfl ?_
      refine ev_pu (st' := [.inl 1, .inl (sM_waiting M1), .inr (.inr (some 30))]) (pc' := 78) rfl rfl rfl rfl ?_
      obtain ⟨hs, h⟩ := h
      refine ev_ii (f := fun a b => a + b) (pc' := 79) rfl rfl (fun _ => rfl) (tm_add hs) rfl ?_
      refine ev_put (M' := ev_sS (ev_sA (ev_sA M1 44 (sM_waiting M1).toNat w1) 45 (sM_waiting M1).toNat (x3 % (aM_counts M1 (w1).toNat))) 25 ((sM_waiting M1) + 1)) (pc' := 82) rfl rfl (Nat.le_of_ble_eq_true rfl) rfl (hp_s25 _ _) rfl ?_
      exact ev_pick [0, 3, 5] rfl rfl h
set_option maxRecDepth 10000 in
theorem b136_82 {x3 x5 : Int} {M : ev_M} {Q : ev_M → Prop}
    (h : tm_iI (x5 + (-1)) ∧ (c136_15 x3 (x5 + (-1)) M Q)) : c136_82 x3 x5 M Q := by
  unfold c136_82
  obtain ⟨hs, h⟩ := h
  refine ev_iinc (lo' := [(5, .inl (x5 + (-1))), (0, .inr (.inr (some 30))), (3, .inr (.inl x3))]) (pc' := 85) rfl rfl (by decide) (tm_add hs) rfl rfl ?_
  refine ev_br (pc' := 15) (st' := []) rfl rfl rfl ?_
  exact ev_pick [0, 3, 5] rfl rfl h
/-! NulledForestModel.tell(JI)I -/
def m137 (x1 x3 : Int) (M : ev_M) (Q : Int → ev_M → Prop) : Prop := ev 137 0 [(0, .inr (.inr (some 30))), (1, .inr (.inl x1)), (3, .inl x3)] [] M (fun v M1 => ∃ w : Int, v = some (.inl w) ∧ Q w M1)
def c137_25 (x3 x4 : Int) (M : ev_M) (Q : Int → ev_M → Prop) : Prop := ev 137 25 [(0, .inr (.inr (some 30))), (3, .inl x3), (4, .inl x4)] [] M (fun v M1 => ∃ w : Int, v = some (.inl w) ∧ Q w M1)
def c137_102 (t0 : Int) (M : ev_M) (Q : Int → ev_M → Prop) : Prop := ev 137 102 [] [.inl t0] M (fun v M1 => ∃ w : Int, v = some (.inl w) ∧ Q w M1)
set_option maxRecDepth 10000 in
theorem b137 {x1 x3 : Int} {M : ev_M} {Q : Int → ev_M → Prop}
    (h : c137_25 x3 0 (ev_sA (ev_sA (ev_sS M 25 1) 44 0 (sM_length M)) 45 0 x1) Q) : m137 x1 x3 M Q := by
  unfold m137
  refine ev_lo (lo' := [(0, .inr (.inr (some 30))), (1, .inr (.inl x1)), (3, .inl x3)]) (st' := [.inr (.inr (some 30))]) (pc' := 1) rfl rfl rfl rfl ?_
  refine ev_pu (st' := [.inl 1, .inr (.inr (some 30))]) (pc' := 2) rfl rfl rfl rfl ?_
  refine ev_put (M' := ev_sS M 25 1) (pc' := 5) rfl rfl (Nat.le_of_ble_eq_true rfl) rfl (hp_s25 _ _) rfl ?_
  refine ev_lo (lo' := [(0, .inr (.inr (some 30))), (1, .inr (.inl x1)), (3, .inl x3)]) (st' := [.inr (.inr (some 30))]) (pc' := 6) rfl rfl rfl rfl ?_
  refine ev_get (v := .inr (.inr (some 44))) (pc' := 9) rfl rfl rfl rfl ?_
  refine ev_pu (st' := [.inl 0, .inr (.inr (some 44))]) (pc' := 10) rfl rfl rfl rfl ?_
  refine ev_lo (lo' := [(0, .inr (.inr (some 30))), (1, .inr (.inl x1)), (3, .inl x3)]) (st' := [.inr (.inr (some 30)), .inl 0, .inr (.inr (some 44))]) (pc' := 11) rfl rfl rfl rfl ?_
  refine ev_get (v := .inl (sM_length M)) (pc' := 14) rfl rfl rfl rfl ?_
  refine ev_iast (n := 800) (f := aM_nodes M) (M' := ev_sA (ev_sS M 25 1) 44 0 (sM_length M)) (pc' := 15) rfl rfl (by decide) (hp_a44 _ _ _) rfl ?_
  refine ev_lo (lo' := [(0, .inr (.inr (some 30))), (1, .inr (.inl x1)), (3, .inl x3)]) (st' := [.inr (.inr (some 30))]) (pc' := 16) rfl rfl rfl rfl ?_
  refine ev_get (v := .inr (.inr (some 45))) (pc' := 19) rfl rfl rfl rfl ?_
  refine ev_pu (st' := [.inl 0, .inr (.inr (some 45))]) (pc' := 20) rfl rfl rfl rfl ?_
  refine ev_lo (lo' := [(0, .inr (.inr (some 30))), (1, .inr (.inl x1)), (3, .inl x3)]) (st' := [.inr (.inl x1), .inl 0, .inr (.inr (some 45))]) (pc' := 21) rfl rfl rfl rfl ?_
  refine ev_last (n := 800) (f := aM_picks M) (M' := ev_sA (ev_sA (ev_sS M 25 1) 44 0 (sM_length M)) 45 0 x1) (pc' := 22) rfl rfl (by decide) (hp_a45 _ _ _) rfl ?_
  refine ev_pu (st' := [.inl 0]) (pc' := 23) rfl rfl rfl rfl ?_
  refine ev_lo (lo' := [(4, .inl 0), (0, .inr (.inr (some 30))), (1, .inr (.inl x1)), (3, .inl x3)]) (st' := []) (pc' := 25) rfl rfl rfl rfl ?_
  exact ev_pick [0, 3, 4] rfl rfl h
set_option maxRecDepth 10000 in
theorem b137_25 {x3 x4 : Int} {M : ev_M} {Q : Int → ev_M → Prop}
    (h : ((sM_waiting M) ≤ 0 → ((0 ≤ x3 → (c137_102 (-1) M Q)) ∧ (¬ (0 ≤ x3) → (c137_102 x4 M Q)))) ∧ (¬ ((sM_waiting M) ≤ 0) → (tm_iI ((sM_waiting M) - 1) ∧ ((0 ≤ ((sM_waiting M) - 1) ∧ ((sM_waiting M) - 1) < 800) ∧ ((0 ≤ ((sM_waiting M) - 1) ∧ ((sM_waiting M) - 1) < 800) ∧ (m135 (aM_nodes M ((sM_waiting M) - 1).toNat) (aM_picks M ((sM_waiting M) - 1).toNat) (ev_sS M 25 ((sM_waiting M) - 1)) (fun w1 M1 => (¬ x4 = x3 → (tm_iI (x4 + 1) ∧ (m136 w1 M1 (fun M2 => c137_25 x3 (x4 + 1) M2 Q)))) ∧ (¬ (¬ x4 = x3) → (Q (sM_rule M1) M1))))))))) : c137_25 x3 x4 M Q := by
  unfold c137_25
  refine ev_lo (lo' := [(0, .inr (.inr (some 30))), (3, .inl x3), (4, .inl x4)]) (st' := [.inr (.inr (some 30))]) (pc' := 26) rfl rfl rfl rfl ?_
  refine ev_get (v := .inl (sM_waiting M)) (pc' := 29) rfl rfl rfl rfl ?_
  refine ev_ifT (pc' := 92) (pc2 := 32) rfl (by decide) rfl rfl (fun hc => ?_) (fun hc => ?_)
  · replace h := h.1 (of_decide_eq_true hc)
    refine ev_lo (lo' := [(0, .inr (.inr (some 30))), (3, .inl x3), (4, .inl x4)]) (st' := [.inl x3]) (pc' := 93) rfl rfl rfl rfl ?_
    refine ev_ifT (pc' := 101) (pc2 := 96) rfl (by decide) rfl rfl (fun hc => ?_) (fun hc => ?_)
    · replace h := h.1 (of_decide_eq_true hc)
      refine ev_pu (st' := [.inl (-1)]) (pc' := 102) rfl rfl rfl rfl ?_
      exact ev_pick [] rfl rfl h
    · replace h := h.2 (of_decide_eq_false hc)
      refine ev_lo (lo' := [(0, .inr (.inr (some 30))), (3, .inl x3), (4, .inl x4)]) (st' := [.inl x4]) (pc' := 98) rfl rfl rfl rfl ?_
      refine ev_br (pc' := 102) (st' := [.inl x4]) rfl rfl rfl ?_
      exact ev_pick [] rfl rfl h
  · replace h := h.2 (of_decide_eq_false hc)
    refine ev_lo (lo' := [(0, .inr (.inr (some 30))), (3, .inl x3), (4, .inl x4)]) (st' := [.inr (.inr (some 30))]) (pc' := 33) rfl rfl rfl rfl ?_
    refine ev_lo (lo' := [(0, .inr (.inr (some 30))), (3, .inl x3), (4, .inl x4)]) (st' := [.inr (.inr (some 30)), .inr (.inr (some 30))]) (pc' := 34) rfl rfl rfl rfl ?_
    refine ev_get (v := .inl (sM_waiting M)) (pc' := 37) rfl rfl rfl rfl ?_
    refine ev_pu (st' := [.inl 1, .inl (sM_waiting M), .inr (.inr (some 30))]) (pc' := 38) rfl rfl rfl rfl ?_
    obtain ⟨hs, h⟩ := h
    refine ev_ii (f := fun a b => a - b) (pc' := 39) rfl rfl (fun _ => rfl) (tm_sub' hs) rfl ?_
    refine ev_put (M' := ev_sS M 25 ((sM_waiting M) - 1)) (pc' := 42) rfl rfl (Nat.le_of_ble_eq_true rfl) rfl (hp_s25 _ _) rfl ?_
    refine ev_lo (lo' := [(0, .inr (.inr (some 30))), (3, .inl x3), (4, .inl x4)]) (st' := [.inr (.inr (some 30))]) (pc' := 43) rfl rfl rfl rfl ?_
    refine ev_lo (lo' := [(0, .inr (.inr (some 30))), (3, .inl x3), (4, .inl x4)]) (st' := [.inr (.inr (some 30)), .inr (.inr (some 30))]) (pc' := 44) rfl rfl rfl rfl ?_
    refine ev_get (v := .inr (.inr (some 44))) (pc' := 47) rfl rfl rfl rfl ?_
    refine ev_lo (lo' := [(0, .inr (.inr (some 30))), (3, .inl x3), (4, .inl x4)]) (st' := [.inr (.inr (some 30)), .inr (.inr (some 44)), .inr (.inr (some 30))]) (pc' := 48) rfl rfl rfl rfl ?_
    refine ev_get (v := .inl ((sM_waiting M) - 1)) (pc' := 51) rfl rfl rfl rfl ?_
    obtain ⟨hs0, h⟩ := h
    refine ev_ald (t := 0) (n := 800) (f := aM_nodes M) (w := fun x => .inl x) (pc' := 52) rfl rfl (fun _ _ => rfl) rfl hs0 rfl ?_
    refine ev_lo (lo' := [(0, .inr (.inr (some 30))), (3, .inl x3), (4, .inl x4)]) (st' := [.inr (.inr (some 30)), .inl (aM_nodes M ((sM_waiting M) - 1).toNat), .inr (.inr (some 30))]) (pc' := 53) rfl rfl rfl rfl ?_
    refine ev_get (v := .inr (.inr (some 45))) (pc' := 56) rfl rfl rfl rfl ?_
    refine ev_lo (lo' := [(0, .inr (.inr (some 30))), (3, .inl x3), (4, .inl x4)]) (st' := [.inr (.inr (some 30)), .inr (.inr (some 45)), .inl (aM_nodes M ((sM_waiting M) - 1).toNat), .inr (.inr (some 30))]) (pc' := 57) rfl rfl rfl rfl ?_
    refine ev_get (v := .inl ((sM_waiting M) - 1)) (pc' := 60) rfl rfl rfl rfl ?_
    obtain ⟨hs0, h⟩ := h
    refine ev_ald (t := 1) (n := 800) (f := aM_picks M) (w := fun x => .inr (.inl x)) (pc' := 61) rfl rfl (fun _ _ => rfl) rfl hs0 rfl ?_
    refine ev_call (as := [.inr (.inr (some 30)), .inl (aM_nodes M ((sM_waiting M) - 1).toNat), .inr (.inl (aM_picks M ((sM_waiting M) - 1).toNat))]) (r := []) (pc' := 64) rfl rfl (Nat.le_of_ble_eq_true rfl) (Nat.le_of_ble_eq_true rfl) ⟨rfl, rfl⟩ (Nat.le_of_ble_eq_true rfl) rfl rfl rfl rfl ?_
    refine ev.post h (fun v M1 h => ?_)
    obtain ⟨w1, rfl, h⟩ := h
    show ev 137 64 [(0, .inr (.inr (some 30))), (3, .inl x3), (4, .inl x4)] [.inr (.inl w1)] M1 _
    refine ev_lo (lo' := [(5, .inr (.inl w1)), (0, .inr (.inr (some 30))), (3, .inl x3), (4, .inl x4)]) (st' := []) (pc' := 66) rfl rfl rfl rfl ?_
    refine ev_lo (lo' := [(5, .inr (.inl w1)), (0, .inr (.inr (some 30))), (3, .inl x3), (4, .inl x4)]) (st' := [.inl x4]) (pc' := 68) rfl rfl rfl rfl ?_
    refine ev_lo (lo' := [(5, .inr (.inl w1)), (0, .inr (.inr (some 30))), (3, .inl x3), (4, .inl x4)]) (st' := [.inl x3, .inl x4]) (pc' := 69) rfl rfl rfl rfl ?_
    refine ev_icmp (pc' := 77) (pc2 := 72) rfl (by decide) rfl rfl (fun hc => ?_) (fun hc => ?_)
    · replace h := h.1 (of_decide_eq_true hc)
      refine ev_lo (lo' := [(5, .inr (.inl w1)), (0, .inr (.inr (some 30))), (3, .inl x3), (4, .inl x4)]) (st' := [.inl x4]) (pc' := 79) rfl rfl rfl rfl ?_
      refine ev_pu (st' := [.inl 1, .inl x4]) (pc' := 80) rfl rfl rfl rfl ?_
      obtain ⟨hs, h⟩ := h
      refine ev_ii (f := fun a b => a + b) (pc' := 81) rfl rfl (fun _ => rfl) (tm_add hs) rfl ?_
      refine ev_lo (lo' := [(4, .inl (x4 + 1)), (5, .inr (.inl w1)), (0, .inr (.inr (some 30))), (3, .inl x3)]) (st' := []) (pc' := 83) rfl rfl rfl rfl ?_
      refine ev_lo (lo' := [(4, .inl (x4 + 1)), (5, .inr (.inl w1)), (0, .inr (.inr (some 30))), (3, .inl x3)]) (st' := [.inr (.inr (some 30))]) (pc' := 84) rfl rfl rfl rfl ?_
      refine ev_lo (lo' := [(4, .inl (x4 + 1)), (5, .inr (.inl w1)), (0, .inr (.inr (some 30))), (3, .inl x3)]) (st' := [.inr (.inl w1), .inr (.inr (some 30))]) (pc' := 86) rfl rfl rfl rfl ?_
      refine ev_call (as := [.inr (.inr (some 30)), .inr (.inl w1)]) (r := []) (pc' := 89) rfl rfl (Nat.le_of_ble_eq_true rfl) (Nat.le_of_ble_eq_true rfl) ⟨rfl, rfl⟩ (Nat.le_of_ble_eq_true rfl) rfl rfl rfl rfl ?_
      refine ev.post h (fun v M2 h => ?_)
      obtain ⟨rfl, h⟩ := h
      show ev 137 89 [(4, .inl (x4 + 1)), (5, .inr (.inl w1)), (0, .inr (.inr (some 30))), (3, .inl x3)] [] M2 _
      refine ev_br (pc' := 25) (st' := []) rfl rfl rfl ?_
      exact ev_pick [0, 3, 4] rfl rfl h
    · replace h := h.2 (of_decide_eq_false hc)
      refine ev_lo (lo' := [(5, .inr (.inl w1)), (0, .inr (.inr (some 30))), (3, .inl x3), (4, .inl x4)]) (st' := [.inr (.inr (some 30))]) (pc' := 73) rfl rfl rfl rfl ?_
      refine ev_get (v := .inl (sM_rule M1)) (pc' := 76) rfl rfl rfl rfl ?_
      exact ev_rt rfl rfl rfl ⟨_, rfl, h⟩
set_option maxRecDepth 10000 in
theorem b137_102 {t0 : Int} {M : ev_M} {Q : Int → ev_M → Prop}
    (h : Q t0 M) : c137_102 t0 M Q := by
  unfold c137_102
  exact ev_rt rfl rfl rfl ⟨_, rfl, h⟩
/-! NulledForestModel.missing(I)I -/
def m138 (x1 : Int) (M : ev_M) (Q : Int → ev_M → Prop) : Prop := ev 138 0 [(0, .inr (.inr (some 30))), (1, .inl x1)] [] M (fun v M1 => ∃ w : Int, v = some (.inl w) ∧ Q w M1)
def c138_34 (M : ev_M) (Q : Int → ev_M → Prop) : Prop := ev 138 34 [] [] M (fun v M1 => ∃ w : Int, v = some (.inl w) ∧ Q w M1)
def c138_39 (t0 : Int) (M : ev_M) (Q : Int → ev_M → Prop) : Prop := ev 138 39 [] [.inl t0] M (fun v M1 => ∃ w : Int, v = some (.inl w) ∧ Q w M1)
set_option maxRecDepth 10000 in
theorem b138 {x1 : Int} {M : ev_M} {Q : Int → ev_M → Prop}
    (h : m121 M (fun M1 => ((sM_endless M1) = 0 → ((x1 < 0 → (c138_34 M1 Q)) ∧ (¬ (x1 < 0) → ((0 ≤ (sM_length M1) ∧ (sM_length M1) < 726) ∧ ((x1 < (aM_counts M1 (sM_length M1).toNat) → (c138_39 0 M1 Q)) ∧ (¬ (x1 < (aM_counts M1 (sM_length M1).toNat)) → (c138_34 M1 Q))))))) ∧ (¬ ((sM_endless M1) = 0) → (c138_39 1 M1 Q)))) : m138 x1 M Q := by
  unfold m138
  refine ev_lo (lo' := [(0, .inr (.inr (some 30))), (1, .inl x1)]) (st' := [.inr (.inr (some 30))]) (pc' := 1) rfl rfl rfl rfl ?_
  refine ev_call (as := [.inr (.inr (some 30))]) (r := []) (pc' := 4) rfl rfl (Nat.le_of_ble_eq_true rfl) (Nat.le_of_ble_eq_true rfl) ⟨rfl, rfl⟩ (Nat.le_of_ble_eq_true rfl) rfl rfl rfl rfl ?_
  refine ev.post h (fun v M1 h => ?_)
  obtain ⟨rfl, h⟩ := h
  show ev 138 4 [(0, .inr (.inr (some 30))), (1, .inl x1)] [] M1 _
  refine ev_lo (lo' := [(0, .inr (.inr (some 30))), (1, .inl x1)]) (st' := [.inr (.inr (some 30))]) (pc' := 5) rfl rfl rfl rfl ?_
  refine ev_get (v := .inl (sM_endless M1)) (pc' := 8) rfl rfl rfl rfl ?_
  refine ev_ifT (pc' := 15) (pc2 := 11) rfl (by decide) rfl rfl (fun hc => ?_) (fun hc => ?_)
  · replace h := h.1 (of_decide_eq_true hc)
    refine ev_lo (lo' := [(0, .inr (.inr (some 30))), (1, .inl x1)]) (st' := [.inl x1]) (pc' := 16) rfl rfl rfl rfl ?_
    refine ev_ifT (pc' := 34) (pc2 := 19) rfl (by decide) rfl rfl (fun hc => ?_) (fun hc => ?_)
    · replace h := h.1 (of_decide_eq_true hc)
      exact ev_pick [] rfl rfl h
    · replace h := h.2 (of_decide_eq_false hc)
      refine ev_lo (lo' := [(0, .inr (.inr (some 30))), (1, .inl x1)]) (st' := [.inl x1]) (pc' := 20) rfl rfl rfl rfl ?_
      refine ev_pu (st' := [.inr (.inl x1)]) (pc' := 21) rfl rfl rfl rfl ?_
      refine ev_lo (lo' := [(0, .inr (.inr (some 30))), (1, .inl x1)]) (st' := [.inr (.inr (some 30)), .inr (.inl x1)]) (pc' := 22) rfl rfl rfl rfl ?_
      refine ev_get (v := .inr (.inr (some 42))) (pc' := 25) rfl rfl rfl rfl ?_
      refine ev_lo (lo' := [(0, .inr (.inr (some 30))), (1, .inl x1)]) (st' := [.inr (.inr (some 30)), .inr (.inr (some 42)), .inr (.inl x1)]) (pc' := 26) rfl rfl rfl rfl ?_
      refine ev_get (v := .inl (sM_length M1)) (pc' := 29) rfl rfl rfl rfl ?_
      obtain ⟨hs0, h⟩ := h
      refine ev_ald (t := 1) (n := 726) (f := aM_counts M1) (w := fun x => .inr (.inl x)) (pc' := 30) rfl rfl (fun _ _ => rfl) rfl hs0 rfl ?_
      refine ev_lcmp (pc1 := 31) (pc' := 38) (pc2 := 34) rfl rfl rfl (by decide) rfl rfl (fun hc => ?_) (fun hc => ?_)
      · replace h := h.1 (of_decide_eq_true hc)
        refine ev_pu (st' := [.inl 0]) (pc' := 39) rfl rfl rfl rfl ?_
        exact ev_pick [] rfl rfl h
      · replace h := h.2 (of_decide_eq_false hc)
        exact ev_pick [] rfl rfl h
  · replace h := h.2 (of_decide_eq_false hc)
    refine ev_pu (st' := [.inl 1]) (pc' := 12) rfl rfl rfl rfl ?_
    refine ev_br (pc' := 39) (st' := [.inl 1]) rfl rfl rfl ?_
    exact ev_pick [] rfl rfl h
set_option maxRecDepth 10000 in
theorem b138_34 {M : ev_M} {Q : Int → ev_M → Prop}
    (h : c138_39 2 M Q) : c138_34 M Q := by
  unfold c138_34
  refine ev_pu (st' := [.inl 2]) (pc' := 35) rfl rfl rfl rfl ?_
  refine ev_br (pc' := 39) (st' := [.inl 2]) rfl rfl rfl ?_
  exact ev_pick [] rfl rfl h
set_option maxRecDepth 10000 in
theorem b138_39 {t0 : Int} {M : ev_M} {Q : Int → ev_M → Prop}
    (h : Q t0 M) : c138_39 t0 M Q := by
  unfold c138_39
  exact ev_rt rfl rfl rfl ⟨_, rfl, h⟩
/-! NulledForestModel.length(I)I -/
def m139 (x1 : Int) (M : ev_M) (Q : Int → ev_M → Prop) : Prop := ev 139 0 [(0, .inr (.inr (some 30))), (1, .inl x1)] [] M (fun v M1 => ∃ w : Int, v = some (.inl w) ∧ Q w M1)
def c139_27 (t0 : Int) (M : ev_M) (Q : Int → ev_M → Prop) : Prop := ev 139 27 [] [.inl t0] M (fun v M1 => ∃ w : Int, v = some (.inl w) ∧ Q w M1)
set_option maxRecDepth 10000 in
theorem b139 {x1 : Int} {M : ev_M} {Q : Int → ev_M → Prop}
    (h : m138 x1 M (fun w1 M1 => (w1 ≤ 0 → (m137 x1 (-1) (ev_sS M1 10 w1) (fun w2 M2 => c139_27 w2 M2 Q))) ∧ (¬ (w1 ≤ 0) → (c139_27 0 (ev_sS M1 10 w1) Q)))) : m139 x1 M Q := by
  unfold m139
  refine ev_lo (lo' := [(0, .inr (.inr (some 30))), (1, .inl x1)]) (st' := [.inr (.inr (some 30))]) (pc' := 1) rfl rfl rfl rfl ?_
  refine ev_lo (lo' := [(0, .inr (.inr (some 30))), (1, .inl x1)]) (st' := [.inr (.inr (some 30)), .inr (.inr (some 30))]) (pc' := 2) rfl rfl rfl rfl ?_
  refine ev_lo (lo' := [(0, .inr (.inr (some 30))), (1, .inl x1)]) (st' := [.inl x1, .inr (.inr (some 30)), .inr (.inr (some 30))]) (pc' := 3) rfl rfl rfl rfl ?_
  refine ev_call (as := [.inr (.inr (some 30)), .inl x1]) (r := [.inr (.inr (some 30))]) (pc' := 6) rfl rfl (Nat.le_of_ble_eq_true rfl) (Nat.le_of_ble_eq_true rfl) ⟨rfl, rfl⟩ (Nat.le_of_ble_eq_true rfl) rfl rfl rfl rfl ?_
  refine ev.post h (fun v M1 h => ?_)
  obtain ⟨w1, rfl, h⟩ := h
  show ev 139 6 [(0, .inr (.inr (some 30))), (1, .inl x1)] [.inl w1, .inr (.inr (some 30))] M1 _
  refine ev_put (M' := ev_sS M1 10 w1) (pc' := 9) rfl rfl (Nat.le_of_ble_eq_true rfl) rfl (hp_s10 _ _) rfl ?_
  refine ev_lo (lo' := [(0, .inr (.inr (some 30))), (1, .inl x1)]) (st' := [.inr (.inr (some 30))]) (pc' := 10) rfl rfl rfl rfl ?_
  refine ev_get (v := .inl w1) (pc' := 13) rfl rfl rfl rfl ?_
  refine ev_ifT (pc' := 20) (pc2 := 16) rfl (by decide) rfl rfl (fun hc => ?_) (fun hc => ?_)
  · replace h := h.1 (of_decide_eq_true hc)
    refine ev_lo (lo' := [(0, .inr (.inr (some 30))), (1, .inl x1)]) (st' := [.inr (.inr (some 30))]) (pc' := 21) rfl rfl rfl rfl ?_
    refine ev_lo (lo' := [(0, .inr (.inr (some 30))), (1, .inl x1)]) (st' := [.inl x1, .inr (.inr (some 30))]) (pc' := 22) rfl rfl rfl rfl ?_
    refine ev_pu (st' := [.inr (.inl x1), .inr (.inr (some 30))]) (pc' := 23) rfl rfl rfl rfl ?_
    refine ev_pu (st' := [.inl (-1), .inr (.inl x1), .inr (.inr (some 30))]) (pc' := 24) rfl rfl rfl rfl ?_
    refine ev_call (as := [.inr (.inr (some 30)), .inr (.inl x1), .inl (-1)]) (r := []) (pc' := 27) rfl rfl (Nat.le_of_ble_eq_true rfl) (Nat.le_of_ble_eq_true rfl) ⟨rfl, rfl⟩ (Nat.le_of_ble_eq_true rfl) rfl rfl rfl rfl ?_
    refine ev.post h (fun v M2 h => ?_)
    obtain ⟨w2, rfl, h⟩ := h
    show ev 139 27 [(0, .inr (.inr (some 30))), (1, .inl x1)] [.inl w2] M2 _
    exact ev_pick [] rfl rfl h
  · replace h := h.2 (of_decide_eq_false hc)
    refine ev_pu (st' := [.inl 0]) (pc' := 17) rfl rfl rfl rfl ?_
    refine ev_br (pc' := 27) (st' := [.inl 0]) rfl rfl rfl ?_
    exact ev_pick [] rfl rfl h
set_option maxRecDepth 10000 in
theorem b139_27 {t0 : Int} {M : ev_M} {Q : Int → ev_M → Prop}
    (h : Q t0 M) : c139_27 t0 M Q := by
  unfold c139_27
  exact ev_rt rfl rfl rfl ⟨_, rfl, h⟩
/-! NulledForestModel.made(II)I -/
def m140 (x1 x2 : Int) (M : ev_M) (Q : Int → ev_M → Prop) : Prop := ev 140 0 [(0, .inr (.inr (some 30))), (1, .inl x1), (2, .inl x2)] [] M (fun v M1 => ∃ w : Int, v = some (.inl w) ∧ Q w M1)
def c140_33 (t0 : Int) (M : ev_M) (Q : Int → ev_M → Prop) : Prop := ev 140 33 [(0, .inr (.inr (some 30)))] [.inl t0] M (fun v M1 => ∃ w : Int, v = some (.inl w) ∧ Q w M1)
def c140_44 (x3 t1 : Int) (M : ev_M) (Q : Int → ev_M → Prop) : Prop := ev 140 44 [(0, .inr (.inr (some 30))), (3, .inl x3)] [.inl t1, .inr (.inr (some 30))] M (fun v M1 => ∃ w : Int, v = some (.inl w) ∧ Q w M1)
def c140_59 (t0 : Int) (M : ev_M) (Q : Int → ev_M → Prop) : Prop := ev 140 59 [] [.inl t0] M (fun v M1 => ∃ w : Int, v = some (.inl w) ∧ Q w M1)
set_option maxRecDepth 10000 in
theorem b140 {x1 x2 : Int} {M : ev_M} {Q : Int → ev_M → Prop}
    (h : m138 x1 M (fun w1 M1 => (w1 ≤ 0 → ((0 ≤ x2 → (m137 x1 x2 (ev_sS M1 10 w1) (fun w2 M2 => c140_33 w2 M2 Q))) ∧ (¬ (0 ≤ x2) → (c140_33 (-1) (ev_sS M1 10 w1) Q)))) ∧ (¬ (w1 ≤ 0) → (Q 0 (ev_sS M1 10 w1))))) : m140 x1 x2 M Q := by
  unfold m140
  refine ev_lo (lo' := [(0, .inr (.inr (some 30))), (1, .inl x1), (2, .inl x2)]) (st' := [.inr (.inr (some 30))]) (pc' := 1) rfl rfl rfl rfl ?_
  refine ev_lo (lo' := [(0, .inr (.inr (some 30))), (1, .inl x1), (2, .inl x2)]) (st' := [.inr (.inr (some 30)), .inr (.inr (some 30))]) (pc' := 2) rfl rfl rfl rfl ?_
  refine ev_lo (lo' := [(0, .inr (.inr (some 30))), (1, .inl x1), (2, .inl x2)]) (st' := [.inl x1, .inr (.inr (some 30)), .inr (.inr (some 30))]) (pc' := 3) rfl rfl rfl rfl ?_
  refine ev_call (as := [.inr (.inr (some 30)), .inl x1]) (r := [.inr (.inr (some 30))]) (pc' := 6) rfl rfl (Nat.le_of_ble_eq_true rfl) (Nat.le_of_ble_eq_true rfl) ⟨rfl, rfl⟩ (Nat.le_of_ble_eq_true rfl) rfl rfl rfl rfl ?_
  refine ev.post h (fun v M1 h => ?_)
  obtain ⟨w1, rfl, h⟩ := h
  show ev 140 6 [(0, .inr (.inr (some 30))), (1, .inl x1), (2, .inl x2)] [.inl w1, .inr (.inr (some 30))] M1 _
  refine ev_put (M' := ev_sS M1 10 w1) (pc' := 9) rfl rfl (Nat.le_of_ble_eq_true rfl) rfl (hp_s10 _ _) rfl ?_
  refine ev_lo (lo' := [(0, .inr (.inr (some 30))), (1, .inl x1), (2, .inl x2)]) (st' := [.inr (.inr (some 30))]) (pc' := 10) rfl rfl rfl rfl ?_
  refine ev_get (v := .inl w1) (pc' := 13) rfl rfl rfl rfl ?_
  refine ev_ifT (pc' := 18) (pc2 := 16) rfl (by decide) rfl rfl (fun hc => ?_) (fun hc => ?_)
  · replace h := h.1 (of_decide_eq_true hc)
    refine ev_lo (lo' := [(0, .inr (.inr (some 30))), (1, .inl x1), (2, .inl x2)]) (st' := [.inl x2]) (pc' := 19) rfl rfl rfl rfl ?_
    refine ev_ifT (pc' := 26) (pc2 := 22) rfl (by decide) rfl rfl (fun hc => ?_) (fun hc => ?_)
    · replace h := h.1 (of_decide_eq_true hc)
      refine ev_lo (lo' := [(0, .inr (.inr (some 30))), (1, .inl x1), (2, .inl x2)]) (st' := [.inr (.inr (some 30))]) (pc' := 27) rfl rfl rfl rfl ?_
      refine ev_lo (lo' := [(0, .inr (.inr (some 30))), (1, .inl x1), (2, .inl x2)]) (st' := [.inl x1, .inr (.inr (some 30))]) (pc' := 28) rfl rfl rfl rfl ?_
      refine ev_pu (st' := [.inr (.inl x1), .inr (.inr (some 30))]) (pc' := 29) rfl rfl rfl rfl ?_
      refine ev_lo (lo' := [(0, .inr (.inr (some 30))), (1, .inl x1), (2, .inl x2)]) (st' := [.inl x2, .inr (.inl x1), .inr (.inr (some 30))]) (pc' := 30) rfl rfl rfl rfl ?_
      refine ev_call (as := [.inr (.inr (some 30)), .inr (.inl x1), .inl x2]) (r := []) (pc' := 33) rfl rfl (Nat.le_of_ble_eq_true rfl) (Nat.le_of_ble_eq_true rfl) ⟨rfl, rfl⟩ (Nat.le_of_ble_eq_true rfl) rfl rfl rfl rfl ?_
      refine ev.post h (fun v M2 h => ?_)
      obtain ⟨w2, rfl, h⟩ := h
      show ev 140 33 [(0, .inr (.inr (some 30))), (1, .inl x1), (2, .inl x2)] [.inl w2] M2 _
      exact ev_pick [0] rfl rfl h
    · replace h := h.2 (of_decide_eq_false hc)
      refine ev_pu (st' := [.inl (-1)]) (pc' := 23) rfl rfl rfl rfl ?_
      refine ev_br (pc' := 33) (st' := [.inl (-1)]) rfl rfl rfl ?_
      exact ev_pick [0] rfl rfl h
  · replace h := h.2 (of_decide_eq_false hc)
    refine ev_pu (st' := [.inl 0]) (pc' := 17) rfl rfl rfl rfl ?_
    exact ev_rt rfl rfl rfl ⟨_, rfl, h⟩
set_option maxRecDepth 10000 in
theorem b140_33 {t0 : Int} {M : ev_M} {Q : Int → ev_M → Prop}
    (h : (0 ≤ t0 → (c140_44 t0 0 M Q)) ∧ (¬ (0 ≤ t0) → (c140_44 t0 3 M Q))) : c140_33 t0 M Q := by
  unfold c140_33
  refine ev_lo (lo' := [(3, .inl t0), (0, .inr (.inr (some 30)))]) (st' := []) (pc' := 34) rfl rfl rfl rfl ?_
  refine ev_lo (lo' := [(3, .inl t0), (0, .inr (.inr (some 30)))]) (st' := [.inr (.inr (some 30))]) (pc' := 35) rfl rfl rfl rfl ?_
  refine ev_lo (lo' := [(3, .inl t0), (0, .inr (.inr (some 30)))]) (st' := [.inl t0, .inr (.inr (some 30))]) (pc' := 36) rfl rfl rfl rfl ?_
  refine ev_ifT (pc' := 43) (pc2 := 39) rfl (by decide) rfl rfl (fun hc => ?_) (fun hc => ?_)
  · replace h := h.1 (of_decide_eq_true hc)
    refine ev_pu (st' := [.inl 0, .inr (.inr (some 30))]) (pc' := 44) rfl rfl rfl rfl ?_
    exact ev_pick [0, 3] rfl rfl h
  · replace h := h.2 (of_decide_eq_false hc)
    refine ev_pu (st' := [.inl 3, .inr (.inr (some 30))]) (pc' := 40) rfl rfl rfl rfl ?_
    refine ev_br (pc' := 44) (st' := [.inl 3, .inr (.inr (some 30))]) rfl rfl rfl ?_
    exact ev_pick [0, 3] rfl rfl h
set_option maxRecDepth 10000 in
theorem b140_44 {x3 t1 : Int} {M : ev_M} {Q : Int → ev_M → Prop}
    (h : (t1 ≤ 0 → (c140_59 x3 (ev_sS M 10 t1) Q)) ∧ (¬ (t1 ≤ 0) → (c140_59 0 (ev_sS M 10 t1) Q))) : c140_44 x3 t1 M Q := by
  unfold c140_44
  refine ev_put (M' := ev_sS M 10 t1) (pc' := 47) rfl rfl (Nat.le_of_ble_eq_true rfl) rfl (hp_s10 _ _) rfl ?_
  refine ev_lo (lo' := [(0, .inr (.inr (some 30))), (3, .inl x3)]) (st' := [.inr (.inr (some 30))]) (pc' := 48) rfl rfl rfl rfl ?_
  refine ev_get (v := .inl t1) (pc' := 51) rfl rfl rfl rfl ?_
  refine ev_ifT (pc' := 58) (pc2 := 54) rfl (by decide) rfl rfl (fun hc => ?_) (fun hc => ?_)
  · replace h := h.1 (of_decide_eq_true hc)
    refine ev_lo (lo' := [(0, .inr (.inr (some 30))), (3, .inl x3)]) (st' := [.inl x3]) (pc' := 59) rfl rfl rfl rfl ?_
    exact ev_pick [] rfl rfl h
  · replace h := h.2 (of_decide_eq_false hc)
    refine ev_pu (st' := [.inl 0]) (pc' := 55) rfl rfl rfl rfl ?_
    refine ev_br (pc' := 59) (st' := [.inl 0]) rfl rfl rfl ?_
    exact ev_pick [] rfl rfl h
set_option maxRecDepth 10000 in
theorem b140_59 {t0 : Int} {M : ev_M} {Q : Int → ev_M → Prop}
    (h : Q t0 M) : c140_59 t0 M Q := by
  unfold c140_59
  exact ev_rt rfl rfl rfl ⟨_, rfl, h⟩
