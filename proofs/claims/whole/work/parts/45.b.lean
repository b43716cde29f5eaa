/-! Block rules, written by wip/whole/gen3.py -/
/-! NulledForest$Walk.push(II)V -/
def m55 (x1 x2 : Int) (M : ev_M) (Q : ev_M → Prop) : Prop := ev 55 0 [(0, .inr (.inr (some 25))), (1, .inl x1), (2, .inl x2)] [] M (fun v M1 => v = none ∧ Q M1)
def c55_40 (M : ev_M) (Q : ev_M → Prop) : Prop := ev 55 40 [] [] M (fun v M1 => v = none ∧ Q M1)
set_option maxRecDepth 10000 in
theorem b55 {x1 x2 : Int} {M : ev_M} {Q : ev_M → Prop}
    (h : (256 ≤ (sW_waiting M) → (c55_40 M Q)) ∧ (¬ (256 ≤ (sW_waiting M)) → ((0 ≤ (sW_waiting M) ∧ (sW_waiting M) < 256) ∧ ((0 ≤ (sW_waiting M) ∧ (sW_waiting M) < 256) ∧ (tm_iI ((sW_waiting M) + 1) ∧ (c55_40 (ev_sS (ev_sA (ev_sA M 28 (sW_waiting M).toNat x1) 29 (sW_waiting M).toNat x2) 8 ((sW_waiting M) + 1)) Q)))))) : m55 x1 x2 M Q := by
  unfold m55
  refine ev_lo (lo' := [(0, .inr (.inr (some 25))), (1, .inl x1), (2, .inl x2)]) (st' := [.inr (.inr (some 25))]) (pc' := 1) rfl rfl rfl rfl ?_
  refine ev_get (v := .inl (sW_waiting M)) (pc' := 4) rfl rfl rfl rfl ?_
  refine ev_pu (st' := [.inl 256, .inl (sW_waiting M)]) (pc' := 7) rfl rfl rfl rfl ?_
  refine ev_icmp (pc' := 40) (pc2 := 10) rfl (by decide) rfl rfl (fun hc => ?_) (fun hc => ?_)
  · replace h := h.1 (of_decide_eq_true hc)
    exact ev_pick [] rfl rfl h
  · replace h := h.2 (of_decide_eq_false hc)
    refine ev_lo (lo' := [(0, .inr (.inr (some 25))), (1, .inl x1), (2, .inl x2)]) (st' := [.inr (.inr (some 25))]) (pc' := 11) rfl rfl rfl rfl ?_
    refine ev_get (v := .inr (.inr (some 28))) (pc' := 14) rfl rfl rfl rfl ?_
    refine ev_lo (lo' := [(0, .inr (.inr (some 25))), (1, .inl x1), (2, .inl x2)]) (st' := [.inr (.inr (some 25)), .inr (.inr (some 28))]) (pc' := 15) rfl rfl rfl rfl ?_
    refine ev_get (v := .inl (sW_waiting M)) (pc' := 18) rfl rfl rfl rfl ?_
    refine ev_lo (lo' := [(0, .inr (.inr (some 25))), (1, .inl x1), (2, .inl x2)]) (st' := [.inl x1, .inl (sW_waiting M), .inr (.inr (some 28))]) (pc' := 19) rfl rfl rfl rfl ?_
    obtain ⟨hs0, h⟩ := h
    refine ev_iast (n := 256) (f := aW_waitingNode M) (M' := ev_sA M 28 (sW_waiting M).toNat x1) (pc' := 20) rfl rfl hs0 (hp_a28 _ _ _) rfl ?_
    refine ev_lo (lo' := [(0, .inr (.inr (some 25))), (1, .inl x1), (2, .inl x2)]) (st' := [.inr (.inr (some 25))]) (pc' := 21) rfl rfl rfl rfl ?_
    refine ev_get (v := .inr (.inr (some 29))) (pc' := 24) rfl rfl rfl rfl ?_
    refine ev_lo (lo' := [(0, .inr (.inr (some 25))), (1, .inl x1), (2, .inl x2)]) (st' := [.inr (.inr (some 25)), .inr (.inr (some 29))]) (pc' := 25) rfl rfl rfl rfl ?_
    refine ev_get (v := .inl (sW_waiting M)) (pc' := 28) rfl rfl rfl rfl ?_
    refine ev_lo (lo' := [(0, .inr (.inr (some 25))), (1, .inl x1), (2, .inl x2)]) (st' := [.inl x2, .inl (sW_waiting M), .inr (.inr (some 29))]) (pc' := 29) rfl rfl rfl rfl ?_
    obtain ⟨hs0, h⟩ := h
    refine ev_iast (n := 256) (f := aW_waitingTree M) (M' := ev_sA (ev_sA M 28 (sW_waiting M).toNat x1) 29 (sW_waiting M).toNat x2) (pc' := 30) rfl rfl hs0 (hp_a29 _ _ _) rfl ?_
    refine ev_lo (lo' := [(0, .inr (.inr (some 25))), (1, .inl x1), (2, .inl x2)]) (st' := [.inr (.inr (some 25))]) (pc' := 31) rfl rfl rfl rfl ?_
    refine ev_pu (st' := [.inr (.inr (some 25)), .inr (.inr (some 25))]) (pc' := 32) rfl rfl rfl rfl ?_
    refine ev_get (v := .inl (sW_waiting M)) (pc' := 35) rfl rfl rfl rfl ?_
    refine ev_pu (st' := [.inl 1, .inl (sW_waiting M), .inr (.inr (some 25))]) (pc' := 36) rfl rfl rfl rfl ?_
    obtain ⟨hs, h⟩ := h
    refine ev_ii (f := fun a b => a + b) (pc' := 37) rfl rfl (fun _ => rfl) (tm_add hs) rfl ?_
    refine ev_put (M' := ev_sS (ev_sA (ev_sA M 28 (sW_waiting M).toNat x1) 29 (sW_waiting M).toNat x2) 8 ((sW_waiting M) + 1)) (pc' := 40) rfl rfl (Nat.le_of_ble_eq_true rfl) rfl (hp_s8 _ _) rfl ?_
    exact ev_pick [] rfl rfl h
set_option maxRecDepth 10000 in
theorem b55_40 {M : ev_M} {Q : ev_M → Prop}
    (h : Q M) : c55_40 M Q := by
  unfold c55_40
  exact ev_rt rfl rfl rfl ⟨rfl, h⟩
/-! NulledForest$Walk.chooseCuts(IIJ)J -/
def m56 (x1 x2 x3 : Int) (M : ev_M) (Q : Int → ev_M → Prop) : Prop := ev 56 0 [(0, .inr (.inr (some 25))), (1, .inl x1), (2, .inl x2), (3, .inr (.inl x3))] [] M (fun v M1 => ∃ w : Int, v = some (.inr (.inl w)) ∧ Q w M1)
def c56_19 (x1 x2 x5 x7 x9 : Int) (M : ev_M) (Q : Int → ev_M → Prop) : Prop := ev 56 19 [(0, .inr (.inr (some 25))), (1, .inl x1), (2, .inl x2), (5, .inr (.inl x5)), (7, .inr (.inl x7)), (9, .inl x9)] [] M (fun v M1 => ∃ w : Int, v = some (.inr (.inl w)) ∧ Q w M1)
def c56_42 (x1 x2 x5 x7 x9 x10 : Int) (M : ev_M) (Q : Int → ev_M → Prop) : Prop := ev 56 42 [(0, .inr (.inr (some 25))), (1, .inl x1), (2, .inl x2), (5, .inr (.inl x5)), (7, .inr (.inl x7)), (9, .inl x9), (10, .inl x10)] [] M (fun v M1 => ∃ w : Int, v = some (.inr (.inl w)) ∧ Q w M1)
def c56_155 (x1 x2 x5 x7 x9 : Int) (M : ev_M) (Q : Int → ev_M → Prop) : Prop := ev 56 155 [(0, .inr (.inr (some 25))), (1, .inl x1), (2, .inl x2), (5, .inr (.inl x5)), (7, .inr (.inl x7)), (9, .inl x9)] [] M (fun v M1 => ∃ w : Int, v = some (.inr (.inl w)) ∧ Q w M1)
set_option maxRecDepth 10000 in
theorem b56 {x1 x2 x3 : Int} {M : ev_M} {Q : Int → ev_M → Prop}
    (h : m37 x2 M (fun w1 M1 => c56_19 x1 x2 x3 1 0 (ev_sA M1 26 0 w1) Q)) : m56 x1 x2 x3 M Q := by
  unfold m56
  refine ev_lo (lo' := [(0, .inr (.inr (some 25))), (1, .inl x1), (2, .inl x2), (3, .inr (.inl x3))]) (st' := [.inr (.inl x3)]) (pc' := 1) rfl rfl rfl rfl ?_
  refine ev_lo (lo' := [(5, .inr (.inl x3)), (0, .inr (.inr (some 25))), (1, .inl x1), (2, .inl x2), (3, .inr (.inl x3))]) (st' := []) (pc' := 3) rfl rfl rfl rfl ?_
  refine ev_pu (st' := [.inr (.inl 1)]) (pc' := 4) rfl rfl rfl rfl ?_
  refine ev_lo (lo' := [(7, .inr (.inl 1)), (5, .inr (.inl x3)), (0, .inr (.inr (some 25))), (1, .inl x1), (2, .inl x2), (3, .inr (.inl x3))]) (st' := []) (pc' := 6) rfl rfl rfl rfl ?_
  refine ev_lo (lo' := [(7, .inr (.inl 1)), (5, .inr (.inl x3)), (0, .inr (.inr (some 25))), (1, .inl x1), (2, .inl x2), (3, .inr (.inl x3))]) (st' := [.inr (.inr (some 25))]) (pc' := 7) rfl rfl rfl rfl ?_
  refine ev_get (v := .inr (.inr (some 26))) (pc' := 10) rfl rfl rfl rfl ?_
  refine ev_pu (st' := [.inl 0, .inr (.inr (some 26))]) (pc' := 11) rfl rfl rfl rfl ?_
  refine ev_lo (lo' := [(7, .inr (.inl 1)), (5, .inr (.inl x3)), (0, .inr (.inr (some 25))), (1, .inl x1), (2, .inl x2), (3, .inr (.inl x3))]) (st' := [.inl x2, .inl 0, .inr (.inr (some 26))]) (pc' := 12) rfl rfl rfl rfl ?_
  refine ev_call (as := [.inl x2]) (r := [.inl 0, .inr (.inr (some 26))]) (pc' := 15) rfl rfl (Nat.le_of_ble_eq_true rfl) (Nat.le_of_ble_eq_true rfl) ⟨rfl, rfl⟩ (Nat.le_of_ble_eq_true rfl) rfl rfl rfl rfl ?_
  refine ev.post h (fun v M1 h => ?_)
  obtain ⟨w1, rfl, h⟩ := h
  show ev 56 15 [(7, .inr (.inl 1)), (5, .inr (.inl x3)), (0, .inr (.inr (some 25))), (1, .inl x1), (2, .inl x2), (3, .inr (.inl x3))] [.inl w1, .inl 0, .inr (.inr (some 26))] M1 _
  refine ev_iast (n := 5) (f := aW_cut M1) (M' := ev_sA M1 26 0 w1) (pc' := 16) rfl rfl (by decide) (hp_a26 _ _ _) rfl ?_
  refine ev_pu (st' := [.inl 0]) (pc' := 17) rfl rfl rfl rfl ?_
  refine ev_lo (lo' := [(9, .inl 0), (7, .inr (.inl 1)), (5, .inr (.inl x3)), (0, .inr (.inr (some 25))), (1, .inl x1), (2, .inl x2), (3, .inr (.inl x3))]) (st' := []) (pc' := 19) rfl rfl rfl rfl ?_
  exact ev_pick [0, 1, 2, 5, 7, 9] rfl rfl h
set_option maxRecDepth 10000 in
theorem b56_19 {x1 x2 x5 x7 x9 : Int} {M : ev_M} {Q : Int → ev_M → Prop}
    (h : (0 ≤ x1 ∧ x1 < 14) ∧ (((aG_size M (x1).toNat) ≤ x9 → (Q x5 M)) ∧ (¬ ((aG_size M (x1).toNat) ≤ x9) → ((0 ≤ x9 ∧ x9 < 5) ∧ (c56_42 x1 x2 x5 x7 x9 (aW_cut M (x9).toNat) M Q))))) : c56_19 x1 x2 x5 x7 x9 M Q := by
  unfold c56_19
  refine ev_lo (lo' := [(0, .inr (.inr (some 25))), (1, .inl x1), (2, .inl x2), (5, .inr (.inl x5)), (7, .inr (.inl x7)), (9, .inl x9)]) (st' := [.inl x9]) (pc' := 21) rfl rfl rfl rfl ?_
  refine ev_lo (lo' := [(0, .inr (.inr (some 25))), (1, .inl x1), (2, .inl x2), (5, .inr (.inl x5)), (7, .inr (.inl x7)), (9, .inl x9)]) (st' := [.inr (.inr (some 25)), .inl x9]) (pc' := 22) rfl rfl rfl rfl ?_
  refine ev_get (v := .inr (.inr (some 1))) (pc' := 25) rfl rfl rfl rfl ?_
  refine ev_get (v := .inr (.inr (some 3))) (pc' := 28) rfl rfl rfl rfl ?_
  refine ev_lo (lo' := [(0, .inr (.inr (some 25))), (1, .inl x1), (2, .inl x2), (5, .inr (.inl x5)), (7, .inr (.inl x7)), (9, .inl x9)]) (st' := [.inl x1, .inr (.inr (some 3)), .inl x9]) (pc' := 29) rfl rfl rfl rfl ?_
  obtain ⟨hs0, h⟩ := h
  refine ev_ald (t := 0) (n := 14) (f := aG_size M) (w := fun x => .inl x) (pc' := 30) rfl rfl (fun _ _ => rfl) rfl hs0 rfl ?_
  refine ev_icmp (pc' := 161) (pc2 := 33) rfl (by decide) rfl rfl (fun hc => ?_) (fun hc => ?_)
  · replace h := h.1 (of_decide_eq_true hc)
    refine ev_lo (lo' := [(0, .inr (.inr (some 25))), (1, .inl x1), (2, .inl x2), (5, .inr (.inl x5)), (7, .inr (.inl x7)), (9, .inl x9)]) (st' := [.inr (.inl x5)]) (pc' := 163) rfl rfl rfl rfl ?_
    exact ev_rt rfl rfl rfl ⟨_, rfl, h⟩
  · replace h := h.2 (of_decide_eq_false hc)
    refine ev_lo (lo' := [(0, .inr (.inr (some 25))), (1, .inl x1), (2, .inl x2), (5, .inr (.inl x5)), (7, .inr (.inl x7)), (9, .inl x9)]) (st' := [.inr (.inr (some 25))]) (pc' := 34) rfl rfl rfl rfl ?_
    refine ev_get (v := .inr (.inr (some 26))) (pc' := 37) rfl rfl rfl rfl ?_
    refine ev_lo (lo' := [(0, .inr (.inr (some 25))), (1, .inl x1), (2, .inl x2), (5, .inr (.inl x5)), (7, .inr (.inl x7)), (9, .inl x9)]) (st' := [.inl x9, .inr (.inr (some 26))]) (pc' := 39) rfl rfl rfl rfl ?_
    obtain ⟨hs0, h⟩ := h
    refine ev_ald (t := 0) (n := 5) (f := aW_cut M) (w := fun x => .inl x) (pc' := 40) rfl rfl (fun _ _ => rfl) rfl hs0 rfl ?_
    refine ev_lo (lo' := [(10, .inl (aW_cut M (x9).toNat)), (0, .inr (.inr (some 25))), (1, .inl x1), (2, .inl x2), (5, .inr (.inl x5)), (7, .inr (.inl x7)), (9, .inl x9)]) (st' := []) (pc' := 42) rfl rfl rfl rfl ?_
    exact ev_pick [0, 1, 2, 5, 7, 9, 10] rfl rfl h
set_option maxRecDepth 10000 in
theorem b56_42 {x1 x2 x5 x7 x9 x10 : Int} {M : ev_M} {Q : Int → ev_M → Prop}
    (h : m38 x2 M (fun w1 M1 => (w1 < x10 → (c56_155 x1 x2 x5 x7 x9 M1 Q)) ∧ (¬ (w1 < x10) → (m4 x1 x9 M1 (fun w2 M2 => (0 ≤ x9 ∧ x9 < 5) ∧ (m46 w2 (aW_cut M2 (x9).toNat) x10 M2 (fun w3 M3 => (0 ≤ w3 ∧ w3 < 1210) ∧ (tm_iL (x7 * (aT_count M3 (w3).toNat)) ∧ (m49 (x7 * (aT_count M3 (w3).toNat)) M3 (fun w4 M4 => tm_iI (x9 + 1) ∧ (tm_iI ((x9 + 1) * 11) ∧ (tm_iI (((x9 + 1) * 11) + x10) ∧ ((0 ≤ (((x9 + 1) * 11) + x10) ∧ (((x9 + 1) * 11) + x10) < 55) ∧ (tm_iL (w4 * (aT_rest M4 (((x9 + 1) * 11) + x10).toNat)) ∧ (m49 (w4 * (aT_rest M4 (((x9 + 1) * 11) + x10).toNat)) M4 (fun w5 M5 => (w5 ≤ x5 → (tm_iL (x5 - w5) ∧ (tm_iI (x10 + 1) ∧ (c56_42 x1 x2 (x5 - w5) x7 x9 (x10 + 1) M5 Q)))) ∧ (¬ (w5 ≤ x5) → (tm_iI (x9 + 1) ∧ ((0 ≤ (x9 + 1) ∧ (x9 + 1) < 5) ∧ (c56_155 x1 x2 x5 w4 x9 (ev_sA M5 26 (x9 + 1).toNat x10) Q)))))))))))))))))))) : c56_42 x1 x2 x5 x7 x9 x10 M Q := by
  unfold c56_42
  refine ev_lo (lo' := [(0, .inr (.inr (some 25))), (1, .inl x1), (2, .inl x2), (5, .inr (.inl x5)), (7, .inr (.inl x7)), (9, .inl x9), (10, .inl x10)]) (st' := [.inl x10]) (pc' := 44) rfl rfl rfl rfl ?_
  refine ev_lo (lo' := [(0, .inr (.inr (some 25))), (1, .inl x1), (2, .inl x2), (5, .inr (.inl x5)), (7, .inr (.inl x7)), (9, .inl x9), (10, .inl x10)]) (st' := [.inl x2, .inl x10]) (pc' := 45) rfl rfl rfl rfl ?_
  refine ev_call (as := [.inl x2]) (r := [.inl x10]) (pc' := 48) rfl rfl (Nat.le_of_ble_eq_true rfl) (Nat.le_of_ble_eq_true rfl) ⟨rfl, rfl⟩ (Nat.le_of_ble_eq_true rfl) rfl rfl rfl rfl ?_
  refine ev.post h (fun v M1 h => ?_)
  obtain ⟨w1, rfl, h⟩ := h
  show ev 56 48 [(0, .inr (.inr (some 25))), (1, .inl x1), (2, .inl x2), (5, .inr (.inl x5)), (7, .inr (.inl x7)), (9, .inl x9), (10, .inl x10)] [.inl w1, .inl x10] M1 _
  refine ev_icmp (pc' := 155) (pc2 := 51) rfl (by decide) rfl rfl (fun hc => ?_) (fun hc => ?_)
  · replace h := h.1 (of_decide_eq_true hc)
    exact ev_pick [0, 1, 2, 5, 7, 9] rfl rfl h
  · replace h := h.2 (of_decide_eq_false hc)
    refine ev_lo (lo' := [(0, .inr (.inr (some 25))), (1, .inl x1), (2, .inl x2), (5, .inr (.inl x5)), (7, .inr (.inl x7)), (9, .inl x9), (10, .inl x10)]) (st' := [.inr (.inl x7)]) (pc' := 53) rfl rfl rfl rfl ?_
    refine ev_lo (lo' := [(0, .inr (.inr (some 25))), (1, .inl x1), (2, .inl x2), (5, .inr (.inl x5)), (7, .inr (.inl x7)), (9, .inl x9), (10, .inl x10)]) (st' := [.inr (.inr (some 25)), .inr (.inl x7)]) (pc' := 54) rfl rfl rfl rfl ?_
    refine ev_get (v := .inr (.inr (some 20))) (pc' := 57) rfl rfl rfl rfl ?_
    refine ev_get (v := .inr (.inr (some 21))) (pc' := 60) rfl rfl rfl rfl ?_
    refine ev_lo (lo' := [(0, .inr (.inr (some 25))), (1, .inl x1), (2, .inl x2), (5, .inr (.inl x5)), (7, .inr (.inl x7)), (9, .inl x9), (10, .inl x10)]) (st' := [.inr (.inr (some 25)), .inr (.inr (some 21)), .inr (.inl x7)]) (pc' := 61) rfl rfl rfl rfl ?_
    refine ev_get (v := .inr (.inr (some 1))) (pc' := 64) rfl rfl rfl rfl ?_
    refine ev_lo (lo' := [(0, .inr (.inr (some 25))), (1, .inl x1), (2, .inl x2), (5, .inr (.inl x5)), (7, .inr (.inl x7)), (9, .inl x9), (10, .inl x10)]) (st' := [.inl x1, .inr (.inr (some 1)), .inr (.inr (some 21)), .inr (.inl x7)]) (pc' := 65) rfl rfl rfl rfl ?_
    refine ev_lo (lo' := [(0, .inr (.inr (some 25))), (1, .inl x1), (2, .inl x2), (5, .inr (.inl x5)), (7, .inr (.inl x7)), (9, .inl x9), (10, .inl x10)]) (st' := [.inl x9, .inl x1, .inr (.inr (some 1)), .inr (.inr (some 21)), .inr (.inl x7)]) (pc' := 67) rfl rfl rfl rfl ?_
    refine ev_call (as := [.inr (.inr (some 1)), .inl x1, .inl x9]) (r := [.inr (.inr (some 21)), .inr (.inl x7)]) (pc' := 70) rfl rfl (Nat.le_of_ble_eq_true rfl) (Nat.le_of_ble_eq_true rfl) ⟨rfl, rfl⟩ (Nat.le_of_ble_eq_true rfl) rfl rfl rfl rfl ?_
    refine ev.post h (fun v M2 h => ?_)
    obtain ⟨w2, rfl, h⟩ := h
    show ev 56 70 [(0, .inr (.inr (some 25))), (1, .inl x1), (2, .inl x2), (5, .inr (.inl x5)), (7, .inr (.inl x7)), (9, .inl x9), (10, .inl x10)] [.inl w2, .inr (.inr (some 21)), .inr (.inl x7)] M2 _
    refine ev_lo (lo' := [(0, .inr (.inr (some 25))), (1, .inl x1), (2, .inl x2), (5, .inr (.inl x5)), (7, .inr (.inl x7)), (9, .inl x9), (10, .inl x10)]) (st' := [.inr (.inr (some 25)), .inl w2, .inr (.inr (some 21)), .inr (.inl x7)]) (pc' := 71) rfl rfl rfl rfl ?_
    refine ev_get (v := .inr (.inr (some 26))) (pc' := 74) rfl rfl rfl rfl ?_
    refine ev_lo (lo' := [(0, .inr (.inr (some 25))), (1, .inl x1), (2, .inl x2), (5, .inr (.inl x5)), (7, .inr (.inl x7)), (9, .inl x9), (10, .inl x10)]) (st' := [.inl x9, .inr (.inr (some 26)), .inl w2, .inr (.inr (some 21)), .inr (.inl x7)]) (pc' := 76) rfl rfl rfl rfl ?_
    obtain ⟨hs0, h⟩ := h
    refine ev_ald (t := 0) (n := 5) (f := aW_cut M2) (w := fun x => .inl x) (pc' := 77) rfl rfl (fun _ _ => rfl) rfl hs0 rfl ?_
    refine ev_lo (lo' := [(0, .inr (.inr (some 25))), (1, .inl x1), (2, .inl x2), (5, .inr (.inl x5)), (7, .inr (.inl x7)), (9, .inl x9), (10, .inl x10)]) (st' := [.inl x10, .inl (aW_cut M2 (x9).toNat), .inl w2, .inr (.inr (some 21)), .inr (.inl x7)]) (pc' := 79) rfl rfl rfl rfl ?_
    refine ev_call (as := [.inl w2, .inl (aW_cut M2 (x9).toNat), .inl x10]) (r := [.inr (.inr (some 21)), .inr (.inl x7)]) (pc' := 82) rfl rfl (Nat.le_of_ble_eq_true rfl) (Nat.le_of_ble_eq_true rfl) ⟨rfl, rfl⟩ (Nat.le_of_ble_eq_true rfl) rfl rfl rfl rfl ?_
    refine ev.post h (fun v M3 h => ?_)
    obtain ⟨w3, rfl, h⟩ := h
    show ev 56 82 [(0, .inr (.inr (some 25))), (1, .inl x1), (2, .inl x2), (5, .inr (.inl x5)), (7, .inr (.inl x7)), (9, .inl x9), (10, .inl x10)] [.inl w3, .inr (.inr (some 21)), .inr (.inl x7)] M3 _
    obtain ⟨hs0, h⟩ := h
    refine ev_ald (t := 0) (n := 1210) (f := aT_count M3) (w := fun x => .inl x) (pc' := 83) rfl rfl (fun _ _ => rfl) rfl hs0 rfl ?_
    refine ev_pu (st' := [.inr (.inl (aT_count M3 (w3).toNat)), .inr (.inl x7)]) (pc' := 84) rfl rfl rfl rfl ?_
    obtain ⟨hs, h⟩ := h
    refine ev_ll (f := fun a b => a * b) (pc' := 85) rfl rfl (fun _ => rfl) (tm_lmul hs) rfl ?_
    refine ev_call (as := [.inr (.inl (x7 * (aT_count M3 (w3).toNat)))]) (r := []) (pc' := 88) rfl rfl (Nat.le_of_ble_eq_true rfl) (Nat.le_of_ble_eq_true rfl) ⟨rfl, rfl⟩ (Nat.le_of_ble_eq_true rfl) rfl rfl rfl rfl ?_
    refine ev.post h (fun v M4 h => ?_)
    obtain ⟨w4, rfl, h⟩ := h
    show ev 56 88 [(0, .inr (.inr (some 25))), (1, .inl x1), (2, .inl x2), (5, .inr (.inl x5)), (7, .inr (.inl x7)), (9, .inl x9), (10, .inl x10)] [.inr (.inl w4)] M4 _
    refine ev_lo (lo' := [(11, .inr (.inl w4)), (0, .inr (.inr (some 25))), (1, .inl x1), (2, .inl x2), (5, .inr (.inl x5)), (7, .inr (.inl x7)), (9, .inl x9), (10, .inl x10)]) (st' := []) (pc' := 90) rfl rfl rfl rfl ?_
    refine ev_lo (lo' := [(11, .inr (.inl w4)), (0, .inr (.inr (some 25))), (1, .inl x1), (2, .inl x2), (5, .inr (.inl x5)), (7, .inr (.inl x7)), (9, .inl x9), (10, .inl x10)]) (st' := [.inr (.inl w4)]) (pc' := 92) rfl rfl rfl rfl ?_
    refine ev_lo (lo' := [(11, .inr (.inl w4)), (0, .inr (.inr (some 25))), (1, .inl x1), (2, .inl x2), (5, .inr (.inl x5)), (7, .inr (.inl x7)), (9, .inl x9), (10, .inl x10)]) (st' := [.inr (.inr (some 25)), .inr (.inl w4)]) (pc' := 93) rfl rfl rfl rfl ?_
    refine ev_get (v := .inr (.inr (some 20))) (pc' := 96) rfl rfl rfl rfl ?_
    refine ev_get (v := .inr (.inr (some 23))) (pc' := 99) rfl rfl rfl rfl ?_
    refine ev_lo (lo' := [(11, .inr (.inl w4)), (0, .inr (.inr (some 25))), (1, .inl x1), (2, .inl x2), (5, .inr (.inl x5)), (7, .inr (.inl x7)), (9, .inl x9), (10, .inl x10)]) (st' := [.inl x9, .inr (.inr (some 23)), .inr (.inl w4)]) (pc' := 101) rfl rfl rfl rfl ?_
    refine ev_pu (st' := [.inl 1, .inl x9, .inr (.inr (some 23)), .inr (.inl w4)]) (pc' := 102) rfl rfl rfl rfl ?_
    obtain ⟨hs, h⟩ := h
    refine ev_ii (f := fun a b => a + b) (pc' := 103) rfl rfl (fun _ => rfl) (tm_add hs) rfl ?_
    refine ev_pu (st' := [.inl 11, .inl (x9 + 1), .inr (.inr (some 23)), .inr (.inl w4)]) (pc' := 105) rfl rfl rfl rfl ?_
    obtain ⟨hs, h⟩ := h
    refine ev_ii (f := fun a b => a * b) (pc' := 106) rfl rfl (fun _ => rfl) (tm_mul hs) rfl ?_
    refine ev_lo (lo' := [(11, .inr (.inl w4)), (0, .inr (.inr (some 25))), (1, .inl x1), (2, .inl x2), (5, .inr (.inl x5)), (7, .inr (.inl x7)), (9, .inl x9), (10, .inl x10)]) (st' := [.inl x10, .inl ((x9 + 1) * 11), .inr (.inr (some 23)), .inr (.inl w4)]) (pc' := 108) rfl rfl rfl rfl ?_
    obtain ⟨hs, h⟩ := h
    refine ev_ii (f := fun a b => a + b) (pc' := 109) rfl rfl (fun _ => rfl) (tm_add hs) rfl ?_
    obtain ⟨hs0, h⟩ := h
    refine ev_ald (t := 1) (n := 55) (f := aT_rest M4) (w := fun x => .inr (.inl x)) (pc' := 110) rfl rfl (fun _ _ => rfl) rfl hs0 rfl ?_
    obtain ⟨hs, h⟩ := h
    refine ev_ll (f := fun a b => a * b) (pc' := 111) rfl rfl (fun _ => rfl) (tm_lmul hs) rfl ?_
    refine ev_call (as := [.inr (.inl (w4 * (aT_rest M4 (((x9 + 1) * 11) + x10).toNat)))]) (r := []) (pc' := 114) rfl rfl (Nat.le_of_ble_eq_true rfl) (Nat.le_of_ble_eq_true rfl) ⟨rfl, rfl⟩ (Nat.le_of_ble_eq_true rfl) rfl rfl rfl rfl ?_
    refine ev.post h (fun v M5 h => ?_)
    obtain ⟨w5, rfl, h⟩ := h
    show ev 56 114 [(11, .inr (.inl w4)), (0, .inr (.inr (some 25))), (1, .inl x1), (2, .inl x2), (5, .inr (.inl x5)), (7, .inr (.inl x7)), (9, .inl x9), (10, .inl x10)] [.inr (.inl w5)] M5 _
    refine ev_lo (lo' := [(13, .inr (.inl w5)), (11, .inr (.inl w4)), (0, .inr (.inr (some 25))), (1, .inl x1), (2, .inl x2), (5, .inr (.inl x5)), (7, .inr (.inl x7)), (9, .inl x9), (10, .inl x10)]) (st' := []) (pc' := 116) rfl rfl rfl rfl ?_
    refine ev_lo (lo' := [(13, .inr (.inl w5)), (11, .inr (.inl w4)), (0, .inr (.inr (some 25))), (1, .inl x1), (2, .inl x2), (5, .inr (.inl x5)), (7, .inr (.inl x7)), (9, .inl x9), (10, .inl x10)]) (st' := [.inr (.inl x5)]) (pc' := 118) rfl rfl rfl rfl ?_
    refine ev_lo (lo' := [(13, .inr (.inl w5)), (11, .inr (.inl w4)), (0, .inr (.inr (some 25))), (1, .inl x1), (2, .inl x2), (5, .inr (.inl x5)), (7, .inr (.inl x7)), (9, .inl x9), (10, .inl x10)]) (st' := [.inr (.inl w5), .inr (.inl x5)]) (pc' := 120) rfl rfl rfl rfl ?_
    refine ev_lcmp (pc1 := 121) (pc' := 142) (pc2 := 124) rfl rfl rfl (by decide) rfl rfl (fun hc => ?_) (fun hc => ?_)
    · replace h := h.1 (of_decide_eq_true hc)
      refine ev_lo (lo' := [(13, .inr (.inl w5)), (11, .inr (.inl w4)), (0, .inr (.inr (some 25))), (1, .inl x1), (2, .inl x2), (5, .inr (.inl x5)), (7, .inr (.inl x7)), (9, .inl x9), (10, .inl x10)]) (st' := [.inr (.inl x5)]) (pc' := 144) rfl rfl rfl rfl ?_
      refine ev_lo (lo' := [(13, .inr (.inl w5)), (11, .inr (.inl w4)), (0, .inr (.inr (some 25))), (1, .inl x1), (2, .inl x2), (5, .inr (.inl x5)), (7, .inr (.inl x7)), (9, .inl x9), (10, .inl x10)]) (st' := [.inr (.inl w5), .inr (.inl x5)]) (pc' := 146) rfl rfl rfl rfl ?_
      obtain ⟨hs, h⟩ := h
      refine ev_ll (f := fun a b => a - b) (pc' := 147) rfl rfl (fun _ => rfl) (tm_lsub hs) rfl ?_
      refine ev_lo (lo' := [(5, .inr (.inl (x5 - w5))), (13, .inr (.inl w5)), (11, .inr (.inl w4)), (0, .inr (.inr (some 25))), (1, .inl x1), (2, .inl x2), (7, .inr (.inl x7)), (9, .inl x9), (10, .inl x10)]) (st' := []) (pc' := 149) rfl rfl rfl rfl ?_
      obtain ⟨hs, h⟩ := h
      refine ev_iinc (lo' := [(10, .inl (x10 + 1)), (5, .inr (.inl (x5 - w5))), (13, .inr (.inl w5)), (11, .inr (.inl w4)), (0, .inr (.inr (some 25))), (1, .inl x1), (2, .inl x2), (7, .inr (.inl x7)), (9, .inl x9)]) (pc' := 152) rfl rfl (by decide) (tm_add hs) rfl rfl ?_
      refine ev_br (pc' := 42) (st' := []) rfl rfl rfl ?_
      exact ev_pick [0, 1, 2, 5, 7, 9, 10] rfl rfl h
    · replace h := h.2 (of_decide_eq_false hc)
      refine ev_lo (lo' := [(13, .inr (.inl w5)), (11, .inr (.inl w4)), (0, .inr (.inr (some 25))), (1, .inl x1), (2, .inl x2), (5, .inr (.inl x5)), (7, .inr (.inl x7)), (9, .inl x9), (10, .inl x10)]) (st' := [.inr (.inl w4)]) (pc' := 126) rfl rfl rfl rfl ?_
      refine ev_lo (lo' := [(7, .inr (.inl w4)), (13, .inr (.inl w5)), (11, .inr (.inl w4)), (0, .inr (.inr (some 25))), (1, .inl x1), (2, .inl x2), (5, .inr (.inl x5)), (9, .inl x9), (10, .inl x10)]) (st' := []) (pc' := 128) rfl rfl rfl rfl ?_
      refine ev_lo (lo' := [(7, .inr (.inl w4)), (13, .inr (.inl w5)), (11, .inr (.inl w4)), (0, .inr (.inr (some 25))), (1, .inl x1), (2, .inl x2), (5, .inr (.inl x5)), (9, .inl x9), (10, .inl x10)]) (st' := [.inr (.inr (some 25))]) (pc' := 129) rfl rfl rfl rfl ?_
      refine ev_get (v := .inr (.inr (some 26))) (pc' := 132) rfl rfl rfl rfl ?_
      refine ev_lo (lo' := [(7, .inr (.inl w4)), (13, .inr (.inl w5)), (11, .inr (.inl w4)), (0, .inr (.inr (some 25))), (1, .inl x1), (2, .inl x2), (5, .inr (.inl x5)), (9, .inl x9), (10, .inl x10)]) (st' := [.inl x9, .inr (.inr (some 26))]) (pc' := 134) rfl rfl rfl rfl ?_
      refine ev_pu (st' := [.inl 1, .inl x9, .inr (.inr (some 26))]) (pc' := 135) rfl rfl rfl rfl ?_
      obtain ⟨hs, h⟩ := h
      refine ev_ii (f := fun a b => a + b) (pc' := 136) rfl rfl (fun _ => rfl) (tm_add hs) rfl ?_
      refine ev_lo (lo' := [(7, .inr (.inl w4)), (13, .inr (.inl w5)), (11, .inr (.inl w4)), (0, .inr (.inr (some 25))), (1, .inl x1), (2, .inl x2), (5, .inr (.inl x5)), (9, .inl x9), (10, .inl x10)]) (st' := [.inl x10, .inl (x9 + 1), .inr (.inr (some 26))]) (pc' := 138) rfl rfl rfl rfl ?_
      obtain ⟨hs0, h⟩ := h
      refine ev_iast (n := 5) (f := aW_cut M5) (M' := ev_sA M5 26 (x9 + 1).toNat x10) (pc' := 139) rfl rfl hs0 (hp_a26 _ _ _) rfl ?_
      refine ev_br (pc' := 155) (st' := []) rfl rfl rfl ?_
      exact ev_pick [0, 1, 2, 5, 7, 9] rfl rfl h
set_option maxRecDepth 10000 in
theorem b56_155 {x1 x2 x5 x7 x9 : Int} {M : ev_M} {Q : Int → ev_M → Prop}
    (h : tm_iI (x9 + 1) ∧ (c56_19 x1 x2 x5 x7 (x9 + 1) M Q)) : c56_155 x1 x2 x5 x7 x9 M Q := by
  unfold c56_155
  obtain ⟨hs, h⟩ := h
  refine ev_iinc (lo' := [(9, .inl (x9 + 1)), (0, .inr (.inr (some 25))), (1, .inl x1), (2, .inl x2), (5, .inr (.inl x5)), (7, .inr (.inl x7))]) (pc' := 158) rfl rfl (by decide) (tm_add hs) rfl rfl ?_
  refine ev_br (pc' := 19) (st' := []) rfl rfl rfl ?_
  exact ev_pick [0, 1, 2, 5, 7, 9] rfl rfl h
/-! NulledForest$Walk.shareOut(IJ)V -/
def m57 (x1 x2 : Int) (M : ev_M) (Q : ev_M → Prop) : Prop := ev 57 0 [(0, .inr (.inr (some 25))), (1, .inl x1), (2, .inr (.inl x2))] [] M (fun v M1 => v = none ∧ Q M1)
def c57_16 (x1 x4 x6 : Int) (M : ev_M) (Q : ev_M → Prop) : Prop := ev 57 16 [(0, .inr (.inr (some 25))), (1, .inl x1), (4, .inr (.inl x4)), (6, .inl x6)] [] M (fun v M1 => v = none ∧ Q M1)
def c57_83 (x1 x4 x6 x7 t1 t2 : Int) (M : ev_M) (Q : ev_M → Prop) : Prop := ev 57 83 [(0, .inr (.inr (some 25))), (1, .inl x1), (4, .inr (.inl x4)), (6, .inl x6), (7, .inl x7)] [.inl t2, .inl t1, .inr (.inr (some 27))] M (fun v M1 => v = none ∧ Q M1)
def c57_101 (x1 x6 t0 : Int) (M : ev_M) (Q : ev_M → Prop) : Prop := ev 57 101 [(0, .inr (.inr (some 25))), (1, .inl x1), (6, .inl x6)] [.inr (.inl t0)] M (fun v M1 => v = none ∧ Q M1)
set_option maxRecDepth 10000 in
theorem b57 {x1 x2 : Int} {M : ev_M} {Q : ev_M → Prop}
    (h : (0 ≤ x1 ∧ x1 < 14) ∧ (tm_iI ((aG_size M (x1).toNat) - 1) ∧ (c57_16 x1 x2 ((aG_size M (x1).toNat) - 1) M Q))) : m57 x1 x2 M Q := by
  unfold m57
  refine ev_lo (lo' := [(0, .inr (.inr (some 25))), (1, .inl x1), (2, .inr (.inl x2))]) (st' := [.inr (.inl x2)]) (pc' := 1) rfl rfl rfl rfl ?_
  refine ev_lo (lo' := [(4, .inr (.inl x2)), (0, .inr (.inr (some 25))), (1, .inl x1), (2, .inr (.inl x2))]) (st' := []) (pc' := 3) rfl rfl rfl rfl ?_
  refine ev_lo (lo' := [(4, .inr (.inl x2)), (0, .inr (.inr (some 25))), (1, .inl x1), (2, .inr (.inl x2))]) (st' := [.inr (.inr (some 25))]) (pc' := 4) rfl rfl rfl rfl ?_
  refine ev_get (v := .inr (.inr (some 1))) (pc' := 7) rfl rfl rfl rfl ?_
  refine ev_get (v := .inr (.inr (some 3))) (pc' := 10) rfl rfl rfl rfl ?_
  refine ev_lo (lo' := [(4, .inr (.inl x2)), (0, .inr (.inr (some 25))), (1, .inl x1), (2, .inr (.inl x2))]) (st' := [.inl x1, .inr (.inr (some 3))]) (pc' := 11) rfl rfl rfl rfl ?_
  obtain ⟨hs0, h⟩ := h
  refine ev_ald (t := 0) (n := 14) (f := aG_size M) (w := fun x => .inl x) (pc' := 12) rfl rfl (fun _ _ => rfl) rfl hs0 rfl ?_
  refine ev_pu (st' := [.inl 1, .inl (aG_size M (x1).toNat)]) (pc' := 13) rfl rfl rfl rfl ?_
  obtain ⟨hs, h⟩ := h
  refine ev_ii (f := fun a b => a - b) (pc' := 14) rfl rfl (fun _ => rfl) (tm_sub' hs) rfl ?_
  refine ev_lo (lo' := [(6, .inl ((aG_size M (x1).toNat) - 1)), (4, .inr (.inl x2)), (0, .inr (.inr (some 25))), (1, .inl x1), (2, .inr (.inl x2))]) (st' := []) (pc' := 16) rfl rfl rfl rfl ?_
  exact ev_pick [0, 1, 4, 6] rfl rfl h
set_option maxRecDepth 10000 in
theorem b57_16 {x1 x4 x6 : Int} {M : ev_M} {Q : ev_M → Prop}
    (h : (x6 < 0 → (Q M)) ∧ (¬ (x6 < 0) → (m4 x1 x6 M (fun w1 M1 => (0 ≤ x6 ∧ x6 < 5) ∧ (tm_iI (x6 + 1) ∧ ((0 ≤ (x6 + 1) ∧ (x6 + 1) < 5) ∧ (m46 w1 (aW_cut M1 (x6).toNat) (aW_cut M1 (x6 + 1).toNat) M1 (fun w2 M2 => (0 ≤ w2 ∧ w2 < 1210) ∧ (((aT_count M2 (w2).toNat) ≤ 1 → (c57_83 x1 x4 x6 (aT_count M2 (w2).toNat) x6 0 M2 Q)) ∧ (¬ ((aT_count M2 (w2).toNat) ≤ 1) → ((0 ≤ x4 ∧ x4 < 9223372036854775808) ∧ (0 < (aT_count M2 (w2).toNat) ∧ (aT_count M2 (w2).toNat) < 9223372036854775808) ∧ (tm_iI (x4 % (aT_count M2 (w2).toNat)) ∧ (c57_83 x1 x4 x6 (aT_count M2 (w2).toNat) x6 (x4 % (aT_count M2 (w2).toNat)) M2 Q))))))))))))) : c57_16 x1 x4 x6 M Q := by
  unfold c57_16
  refine ev_lo (lo' := [(0, .inr (.inr (some 25))), (1, .inl x1), (4, .inr (.inl x4)), (6, .inl x6)]) (st' := [.inl x6]) (pc' := 18) rfl rfl rfl rfl ?_
  refine ev_ifT (pc' := 109) (pc2 := 21) rfl (by decide) rfl rfl (fun hc => ?_) (fun hc => ?_)
  · replace h := h.1 (of_decide_eq_true hc)
    exact ev_rt rfl rfl rfl ⟨rfl, h⟩
  · replace h := h.2 (of_decide_eq_false hc)
    refine ev_lo (lo' := [(0, .inr (.inr (some 25))), (1, .inl x1), (4, .inr (.inl x4)), (6, .inl x6)]) (st' := [.inr (.inr (some 25))]) (pc' := 22) rfl rfl rfl rfl ?_
    refine ev_get (v := .inr (.inr (some 20))) (pc' := 25) rfl rfl rfl rfl ?_
    refine ev_get (v := .inr (.inr (some 21))) (pc' := 28) rfl rfl rfl rfl ?_
    refine ev_lo (lo' := [(0, .inr (.inr (some 25))), (1, .inl x1), (4, .inr (.inl x4)), (6, .inl x6)]) (st' := [.inr (.inr (some 25)), .inr (.inr (some 21))]) (pc' := 29) rfl rfl rfl rfl ?_
    refine ev_get (v := .inr (.inr (some 1))) (pc' := 32) rfl rfl rfl rfl ?_
    refine ev_lo (lo' := [(0, .inr (.inr (some 25))), (1, .inl x1), (4, .inr (.inl x4)), (6, .inl x6)]) (st' := [.inl x1, .inr (.inr (some 1)), .inr (.inr (some 21))]) (pc' := 33) rfl rfl rfl rfl ?_
    refine ev_lo (lo' := [(0, .inr (.inr (some 25))), (1, .inl x1), (4, .inr (.inl x4)), (6, .inl x6)]) (st' := [.inl x6, .inl x1, .inr (.inr (some 1)), .inr (.inr (some 21))]) (pc' := 35) rfl rfl rfl rfl ?_
    refine ev_call (as := [.inr (.inr (some 1)), .inl x1, .inl x6]) (r := [.inr (.inr (some 21))]) (pc' := 38) rfl rfl (Nat.le_of_ble_eq_true rfl) (Nat.le_of_ble_eq_true rfl) ⟨rfl, rfl⟩ (Nat.le_of_ble_eq_true rfl) rfl rfl rfl rfl ?_
    refine ev.post h (fun v M1 h => ?_)
    obtain ⟨w1, rfl, h⟩ := h
    show ev 57 38 [(0, .inr (.inr (some 25))), (1, .inl x1), (4, .inr (.inl x4)), (6, .inl x6)] [.inl w1, .inr (.inr (some 21))] M1 _
    refine ev_lo (lo' := [(0, .inr (.inr (some 25))), (1, .inl x1), (4, .inr (.inl x4)), (6, .inl x6)]) (st' := [.inr (.inr (some 25)), .inl w1, .inr (.inr (some 21))]) (pc' := 39) rfl rfl rfl rfl ?_
    refine ev_get (v := .inr (.inr (some 26))) (pc' := 42) rfl rfl rfl rfl ?_
    refine ev_lo (lo' := [(0, .inr (.inr (some 25))), (1, .inl x1), (4, .inr (.inl x4)), (6, .inl x6)]) (st' := [.inl x6, .inr (.inr (some 26)), .inl w1, .inr (.inr (some 21))]) (pc' := 44) rfl rfl rfl rfl ?_
    obtain ⟨hs0, h⟩ := h
    refine ev_ald (t := 0) (n := 5) (f := aW_cut M1) (w := fun x => .inl x) (pc' := 45) rfl rfl (fun _ _ => rfl) rfl hs0 rfl ?_
    refine ev_lo (lo' := [(0, .inr (.inr (some 25))), (1, .inl x1), (4, .inr (.inl x4)), (6, .inl x6)]) (st' := [.inr (.inr (some 25)), .inl (aW_cut M1 (x6).toNat), .inl w1, .inr (.inr (some 21))]) (pc' := 46) rfl rfl rfl rfl ?_
    refine ev_get (v := .inr (.inr (some 26))) (pc' := 49) rfl rfl rfl rfl ?_
    refine ev_lo (lo' := [(0, .inr (.inr (some 25))), (1, .inl x1), (4, .inr (.inl x4)), (6, .inl x6)]) (st' := [.inl x6, .inr (.inr (some 26)), .inl (aW_cut M1 (x6).toNat), .inl w1, .inr (.inr (some 21))]) (pc' := 51) rfl rfl rfl rfl ?_
    refine ev_pu (st' := [.inl 1, .inl x6, .inr (.inr (some 26)), .inl (aW_cut M1 (x6).toNat), .inl w1, .inr (.inr (some 21))]) (pc' := 52) rfl rfl rfl rfl ?_
    obtain ⟨hs, h⟩ := h
    refine ev_ii (f := fun a b => a + b) (pc' := 53) rfl rfl (fun _ => rfl) (tm_add hs) rfl ?_
    obtain ⟨hs0, h⟩ := h
    refine ev_ald (t := 0) (n := 5) (f := aW_cut M1) (w := fun x => .inl x) (pc' := 54) rfl rfl (fun _ _ => rfl) rfl hs0 rfl ?_
    refine ev_call (as := [.inl w1, .inl (aW_cut M1 (x6).toNat), .inl (aW_cut M1 (x6 + 1).toNat)]) (r := [.inr (.inr (some 21))]) (pc' := 57) rfl rfl (Nat.le_of_ble_eq_true rfl) (Nat.le_of_ble_eq_true rfl) ⟨rfl, rfl⟩ (Nat.le_of_ble_eq_true rfl) rfl rfl rfl rfl ?_
    refine ev.post h (fun v M2 h => ?_)
    obtain ⟨w2, rfl, h⟩ := h
    show ev 57 57 [(0, .inr (.inr (some 25))), (1, .inl x1), (4, .inr (.inl x4)), (6, .inl x6)] [.inl w2, .inr (.inr (some 21))] M2 _
    obtain ⟨hs0, h⟩ := h
    refine ev_ald (t := 0) (n := 1210) (f := aT_count M2) (w := fun x => .inl x) (pc' := 58) rfl rfl (fun _ _ => rfl) rfl hs0 rfl ?_
    refine ev_lo (lo' := [(7, .inl (aT_count M2 (w2).toNat)), (0, .inr (.inr (some 25))), (1, .inl x1), (4, .inr (.inl x4)), (6, .inl x6)]) (st' := []) (pc' := 60) rfl rfl rfl rfl ?_
    refine ev_lo (lo' := [(7, .inl (aT_count M2 (w2).toNat)), (0, .inr (.inr (some 25))), (1, .inl x1), (4, .inr (.inl x4)), (6, .inl x6)]) (st' := [.inr (.inr (some 25))]) (pc' := 61) rfl rfl rfl rfl ?_
    refine ev_get (v := .inr (.inr (some 27))) (pc' := 64) rfl rfl rfl rfl ?_
    refine ev_lo (lo' := [(7, .inl (aT_count M2 (w2).toNat)), (0, .inr (.inr (some 25))), (1, .inl x1), (4, .inr (.inl x4)), (6, .inl x6)]) (st' := [.inl x6, .inr (.inr (some 27))]) (pc' := 66) rfl rfl rfl rfl ?_
    refine ev_lo (lo' := [(7, .inl (aT_count M2 (w2).toNat)), (0, .inr (.inr (some 25))), (1, .inl x1), (4, .inr (.inl x4)), (6, .inl x6)]) (st' := [.inl (aT_count M2 (w2).toNat), .inl x6, .inr (.inr (some 27))]) (pc' := 68) rfl rfl rfl rfl ?_
    refine ev_pu (st' := [.inl 1, .inl (aT_count M2 (w2).toNat), .inl x6, .inr (.inr (some 27))]) (pc' := 69) rfl rfl rfl rfl ?_
    refine ev_icmp (pc' := 82) (pc2 := 72) rfl (by decide) rfl rfl (fun hc => ?_) (fun hc => ?_)
    · replace h := h.1 (of_decide_eq_true hc)
      refine ev_pu (st' := [.inl 0, .inl x6, .inr (.inr (some 27))]) (pc' := 83) rfl rfl rfl rfl ?_
      exact ev_pick [0, 1, 4, 6, 7] rfl rfl h
    · replace h := h.2 (of_decide_eq_false hc)
      refine ev_lo (lo' := [(7, .inl (aT_count M2 (w2).toNat)), (0, .inr (.inr (some 25))), (1, .inl x1), (4, .inr (.inl x4)), (6, .inl x6)]) (st' := [.inr (.inl x4), .inl x6, .inr (.inr (some 27))]) (pc' := 74) rfl rfl rfl rfl ?_
      refine ev_lo (lo' := [(7, .inl (aT_count M2 (w2).toNat)), (0, .inr (.inr (some 25))), (1, .inl x1), (4, .inr (.inl x4)), (6, .inl x6)]) (st' := [.inl (aT_count M2 (w2).toNat), .inr (.inl x4), .inl x6, .inr (.inr (some 27))]) (pc' := 76) rfl rfl rfl rfl ?_
      refine ev_pu (st' := [.inr (.inl (aT_count M2 (w2).toNat)), .inr (.inl x4), .inl x6, .inr (.inr (some 27))]) (pc' := 77) rfl rfl rfl rfl ?_
      obtain ⟨hs0, hs1, h⟩ := h
      refine ev_lrem (pc' := 78) rfl hs1 (tm_lrem_eq hs0 hs1) rfl ?_
      obtain ⟨hs, h⟩ := h
      refine ev_l2i (pc' := 79) rfl hs rfl ?_
      refine ev_br (pc' := 83) (st' := [.inl (x4 % (aT_count M2 (w2).toNat)), .inl x6, .inr (.inr (some 27))]) rfl rfl rfl ?_
      exact ev_pick [0, 1, 4, 6, 7] rfl rfl h
set_option maxRecDepth 10000 in
theorem b57_83 {x1 x4 x6 x7 t1 t2 : Int} {M : ev_M} {Q : ev_M → Prop}
    (h : (0 ≤ t1 ∧ t1 < 4) ∧ ((x7 ≤ 1 → (c57_101 x1 x6 x4 (ev_sA M 27 (t1).toNat t2) Q)) ∧ (¬ (x7 ≤ 1) → ((0 ≤ x4 ∧ x4 < 9223372036854775808) ∧ (0 < x7 ∧ x7 < 9223372036854775808) ∧ (c57_101 x1 x6 (x4 / x7) (ev_sA M 27 (t1).toNat t2) Q))))) : c57_83 x1 x4 x6 x7 t1 t2 M Q := by
  unfold c57_83
  obtain ⟨hs0, h⟩ := h
  refine ev_iast (n := 4) (f := aW_share M) (M' := ev_sA M 27 (t1).toNat t2) (pc' := 84) rfl rfl hs0 (hp_a27 _ _ _) rfl ?_
  refine ev_lo (lo' := [(0, .inr (.inr (some 25))), (1, .inl x1), (4, .inr (.inl x4)), (6, .inl x6), (7, .inl x7)]) (st' := [.inl x7]) (pc' := 86) rfl rfl rfl rfl ?_
  refine ev_pu (st' := [.inl 1, .inl x7]) (pc' := 87) rfl rfl rfl rfl ?_
  refine ev_icmp (pc' := 99) (pc2 := 90) rfl (by decide) rfl rfl (fun hc => ?_) (fun hc => ?_)
  · replace h := h.1 (of_decide_eq_true hc)
    refine ev_lo (lo' := [(0, .inr (.inr (some 25))), (1, .inl x1), (4, .inr (.inl x4)), (6, .inl x6), (7, .inl x7)]) (st' := [.inr (.inl x4)]) (pc' := 101) rfl rfl rfl rfl ?_
    exact ev_pick [0, 1, 6] rfl rfl h
  · replace h := h.2 (of_decide_eq_false hc)
    refine ev_lo (lo' := [(0, .inr (.inr (some 25))), (1, .inl x1), (4, .inr (.inl x4)), (6, .inl x6), (7, .inl x7)]) (st' := [.inr (.inl x4)]) (pc' := 92) rfl rfl rfl rfl ?_
    refine ev_lo (lo' := [(0, .inr (.inr (some 25))), (1, .inl x1), (4, .inr (.inl x4)), (6, .inl x6), (7, .inl x7)]) (st' := [.inl x7, .inr (.inl x4)]) (pc' := 94) rfl rfl rfl rfl ?_
    refine ev_pu (st' := [.inr (.inl x7), .inr (.inl x4)]) (pc' := 95) rfl rfl rfl rfl ?_
    obtain ⟨hs0, hs1, h⟩ := h
    refine ev_ldiv (pc' := 96) rfl hs1 (tm_ldiv_eq hs0 hs1) rfl ?_
    refine ev_br (pc' := 101) (st' := [.inr (.inl (x4 / x7))]) rfl rfl rfl ?_
    exact ev_pick [0, 1, 6] rfl rfl h
set_option maxRecDepth 10000 in
theorem b57_101 {x1 x6 t0 : Int} {M : ev_M} {Q : ev_M → Prop}
    (h : tm_iI (x6 + (-1)) ∧ (c57_16 x1 t0 (x6 + (-1)) M Q)) : c57_101 x1 x6 t0 M Q := by
  unfold c57_101
  refine ev_lo (lo' := [(4, .inr (.inl t0)), (0, .inr (.inr (some 25))), (1, .inl x1), (6, .inl x6)]) (st' := []) (pc' := 103) rfl rfl rfl rfl ?_
  obtain ⟨hs, h⟩ := h
  refine ev_iinc (lo' := [(6, .inl (x6 + (-1))), (4, .inr (.inl t0)), (0, .inr (.inr (some 25))), (1, .inl x1)]) (pc' := 106) rfl rfl (by decide) (tm_add hs) rfl rfl ?_
  refine ev_br (pc' := 16) (st' := []) rfl rfl rfl ?_
  exact ev_pick [0, 1, 4, 6] rfl rfl h
/-! NulledForest$Walk.choose(II)I -/
def m58 (x1 x2 : Int) (M : ev_M) (Q : Int → ev_M → Prop) : Prop := ev 58 0 [(0, .inr (.inr (some 25))), (1, .inl x1), (2, .inl x2)] [] M (fun v M1 => ∃ w : Int, v = some (.inl w) ∧ Q w M1)
def c58_6 (x1 x3 x5 : Int) (M : ev_M) (Q : Int → ev_M → Prop) : Prop := ev 58 6 [(0, .inr (.inr (some 25))), (1, .inl x1), (3, .inr (.inl x3)), (5, .inl x5)] [] M (fun v M1 => ∃ w : Int, v = some (.inl w) ∧ Q w M1)
def c58_83 (x1 x3 x5 : Int) (M : ev_M) (Q : Int → ev_M → Prop) : Prop := ev 58 83 [(0, .inr (.inr (some 25))), (1, .inl x1), (3, .inr (.inl x3)), (5, .inl x5)] [] M (fun v M1 => ∃ w : Int, v = some (.inl w) ∧ Q w M1)
set_option maxRecDepth 10000 in
theorem b58 {x1 x2 : Int} {M : ev_M} {Q : Int → ev_M → Prop}
    (h : c58_6 x1 x2 0 M Q) : m58 x1 x2 M Q := by
  unfold m58
  refine ev_lo (lo' := [(0, .inr (.inr (some 25))), (1, .inl x1), (2, .inl x2)]) (st' := [.inl x2]) (pc' := 1) rfl rfl rfl rfl ?_
  refine ev_pu (st' := [.inr (.inl x2)]) (pc' := 2) rfl rfl rfl rfl ?_
  refine ev_lo (lo' := [(3, .inr (.inl x2)), (0, .inr (.inr (some 25))), (1, .inl x1), (2, .inl x2)]) (st' := []) (pc' := 3) rfl rfl rfl rfl ?_
  refine ev_pu (st' := [.inl 0]) (pc' := 4) rfl rfl rfl rfl ?_
  refine ev_lo (lo' := [(5, .inl 0), (3, .inr (.inl x2)), (0, .inr (.inr (some 25))), (1, .inl x1), (2, .inl x2)]) (st' := []) (pc' := 6) rfl rfl rfl rfl ?_
  exact ev_pick [0, 1, 3, 5] rfl rfl h
set_option maxRecDepth 10000 in
theorem b58_6 {x1 x3 x5 : Int} {M : ev_M} {Q : Int → ev_M → Prop}
    (h : ((sG_count M) ≤ x5 → (Q (-1) M)) ∧ (¬ ((sG_count M) ≤ x5) → ((0 ≤ x5 ∧ x5 < 14) ∧ (m36 x1 M (fun w1 M1 => (¬ (aG_left M (x5).toNat) = w1 → (c58_83 x1 x3 x5 M1 Q)) ∧ (¬ (¬ (aG_left M (x5).toNat) = w1) → (m37 x1 M1 (fun w2 M2 => m38 x1 M2 (fun w3 M3 => m50 x5 w2 w3 M3 (fun w4 M4 => (w4 ≤ x3 → (tm_iL (x3 - w4) ∧ (c58_83 x1 (x3 - w4) x5 M4 Q))) ∧ (¬ (w4 ≤ x3) → (m56 x5 x1 x3 M4 (fun w5 M5 => m57 x5 w5 M5 (fun M6 => Q x5 M6)))))))))))))) : c58_6 x1 x3 x5 M Q := by
  unfold c58_6
  refine ev_lo (lo' := [(0, .inr (.inr (some 25))), (1, .inl x1), (3, .inr (.inl x3)), (5, .inl x5)]) (st' := [.inl x5]) (pc' := 8) rfl rfl rfl rfl ?_
  refine ev_lo (lo' := [(0, .inr (.inr (some 25))), (1, .inl x1), (3, .inr (.inl x3)), (5, .inl x5)]) (st' := [.inr (.inr (some 25)), .inl x5]) (pc' := 9) rfl rfl rfl rfl ?_
  refine ev_get (v := .inr (.inr (some 1))) (pc' := 12) rfl rfl rfl rfl ?_
  refine ev_get (v := .inl (sG_count M)) (pc' := 15) rfl rfl rfl rfl ?_
  refine ev_icmp (pc' := 89) (pc2 := 18) rfl (by decide) rfl rfl (fun hc => ?_) (fun hc => ?_)
  · replace h := h.1 (of_decide_eq_true hc)
    refine ev_pu (st' := [.inl (-1)]) (pc' := 90) rfl rfl rfl rfl ?_
    exact ev_rt rfl rfl rfl ⟨_, rfl, h⟩
  · replace h := h.2 (of_decide_eq_false hc)
    refine ev_lo (lo' := [(0, .inr (.inr (some 25))), (1, .inl x1), (3, .inr (.inl x3)), (5, .inl x5)]) (st' := [.inr (.inr (some 25))]) (pc' := 19) rfl rfl rfl rfl ?_
    refine ev_get (v := .inr (.inr (some 1))) (pc' := 22) rfl rfl rfl rfl ?_
    refine ev_get (v := .inr (.inr (some 2))) (pc' := 25) rfl rfl rfl rfl ?_
    refine ev_lo (lo' := [(0, .inr (.inr (some 25))), (1, .inl x1), (3, .inr (.inl x3)), (5, .inl x5)]) (st' := [.inl x5, .inr (.inr (some 2))]) (pc' := 27) rfl rfl rfl rfl ?_
    obtain ⟨hs0, h⟩ := h
    refine ev_ald (t := 0) (n := 14) (f := aG_left M) (w := fun x => .inl x) (pc' := 28) rfl rfl (fun _ _ => rfl) rfl hs0 rfl ?_
    refine ev_lo (lo' := [(0, .inr (.inr (some 25))), (1, .inl x1), (3, .inr (.inl x3)), (5, .inl x5)]) (st' := [.inl x1, .inl (aG_left M (x5).toNat)]) (pc' := 29) rfl rfl rfl rfl ?_
    refine ev_call (as := [.inl x1]) (r := [.inl (aG_left M (x5).toNat)]) (pc' := 32) rfl rfl (Nat.le_of_ble_eq_true rfl) (Nat.le_of_ble_eq_true rfl) ⟨rfl, rfl⟩ (Nat.le_of_ble_eq_true rfl) rfl rfl rfl rfl ?_
    refine ev.post h (fun v M1 h => ?_)
    obtain ⟨w1, rfl, h⟩ := h
    show ev 58 32 [(0, .inr (.inr (some 25))), (1, .inl x1), (3, .inr (.inl x3)), (5, .inl x5)] [.inl w1, .inl (aG_left M (x5).toNat)] M1 _
    refine ev_icmp (pc' := 83) (pc2 := 35) rfl (by decide) rfl rfl (fun hc => ?_) (fun hc => ?_)
    · replace h := h.1 (of_decide_eq_true hc)
      exact ev_pick [0, 1, 3, 5] rfl rfl h
    · replace h := h.2 (of_decide_eq_false hc)
      refine ev_lo (lo' := [(0, .inr (.inr (some 25))), (1, .inl x1), (3, .inr (.inl x3)), (5, .inl x5)]) (st' := [.inr (.inr (some 25))]) (pc' := 36) rfl rfl rfl rfl ?_
      refine ev_get (v := .inr (.inr (some 20))) (pc' := 39) rfl rfl rfl rfl ?_
      refine ev_lo (lo' := [(0, .inr (.inr (some 25))), (1, .inl x1), (3, .inr (.inl x3)), (5, .inl x5)]) (st' := [.inl x5, .inr (.inr (some 20))]) (pc' := 41) rfl rfl rfl rfl ?_
      refine ev_lo (lo' := [(0, .inr (.inr (some 25))), (1, .inl x1), (3, .inr (.inl x3)), (5, .inl x5)]) (st' := [.inl x1, .inl x5, .inr (.inr (some 20))]) (pc' := 42) rfl rfl rfl rfl ?_
      refine ev_call (as := [.inl x1]) (r := [.inl x5, .inr (.inr (some 20))]) (pc' := 45) rfl rfl (Nat.le_of_ble_eq_true rfl) (Nat.le_of_ble_eq_true rfl) ⟨rfl, rfl⟩ (Nat.le_of_ble_eq_true rfl) rfl rfl rfl rfl ?_
      refine ev.post h (fun v M2 h => ?_)
      obtain ⟨w2, rfl, h⟩ := h
      show ev 58 45 [(0, .inr (.inr (some 25))), (1, .inl x1), (3, .inr (.inl x3)), (5, .inl x5)] [.inl w2, .inl x5, .inr (.inr (some 20))] M2 _
      refine ev_lo (lo' := [(0, .inr (.inr (some 25))), (1, .inl x1), (3, .inr (.inl x3)), (5, .inl x5)]) (st' := [.inl x1, .inl w2, .inl x5, .inr (.inr (some 20))]) (pc' := 46) rfl rfl rfl rfl ?_
      refine ev_call (as := [.inl x1]) (r := [.inl w2, .inl x5, .inr (.inr (some 20))]) (pc' := 49) rfl rfl (Nat.le_of_ble_eq_true rfl) (Nat.le_of_ble_eq_true rfl) ⟨rfl, rfl⟩ (Nat.le_of_ble_eq_true rfl) rfl rfl rfl rfl ?_
      refine ev.post h (fun v M3 h => ?_)
      obtain ⟨w3, rfl, h⟩ := h
      show ev 58 49 [(0, .inr (.inr (some 25))), (1, .inl x1), (3, .inr (.inl x3)), (5, .inl x5)] [.inl w3, .inl w2, .inl x5, .inr (.inr (some 20))] M3 _
      refine ev_call (as := [.inr (.inr (some 20)), .inl x5, .inl w2, .inl w3]) (r := []) (pc' := 52) rfl rfl (Nat.le_of_ble_eq_true rfl) (Nat.le_of_ble_eq_true rfl) ⟨rfl, rfl⟩ (Nat.le_of_ble_eq_true rfl) rfl rfl rfl rfl ?_
      refine ev.post h (fun v M4 h => ?_)
      obtain ⟨w4, rfl, h⟩ := h
      show ev 58 52 [(0, .inr (.inr (some 25))), (1, .inl x1), (3, .inr (.inl x3)), (5, .inl x5)] [.inr (.inl w4)] M4 _
      refine ev_lo (lo' := [(6, .inr (.inl w4)), (0, .inr (.inr (some 25))), (1, .inl x1), (3, .inr (.inl x3)), (5, .inl x5)]) (st' := []) (pc' := 54) rfl rfl rfl rfl ?_
      refine ev_lo (lo' := [(6, .inr (.inl w4)), (0, .inr (.inr (some 25))), (1, .inl x1), (3, .inr (.inl x3)), (5, .inl x5)]) (st' := [.inr (.inl x3)]) (pc' := 55) rfl rfl rfl rfl ?_
      refine ev_lo (lo' := [(6, .inr (.inl w4)), (0, .inr (.inr (some 25))), (1, .inl x1), (3, .inr (.inl x3)), (5, .inl x5)]) (st' := [.inr (.inl w4), .inr (.inl x3)]) (pc' := 57) rfl rfl rfl rfl ?_
      refine ev_lcmp (pc1 := 58) (pc' := 78) (pc2 := 61) rfl rfl rfl (by decide) rfl rfl (fun hc => ?_) (fun hc => ?_)
      · replace h := h.1 (of_decide_eq_true hc)
        refine ev_lo (lo' := [(6, .inr (.inl w4)), (0, .inr (.inr (some 25))), (1, .inl x1), (3, .inr (.inl x3)), (5, .inl x5)]) (st' := [.inr (.inl x3)]) (pc' := 79) rfl rfl rfl rfl ?_
        refine ev_lo (lo' := [(6, .inr (.inl w4)), (0, .inr (.inr (some 25))), (1, .inl x1), (3, .inr (.inl x3)), (5, .inl x5)]) (st' := [.inr (.inl w4), .inr (.inl x3)]) (pc' := 81) rfl rfl rfl rfl ?_
        obtain ⟨hs, h⟩ := h
        refine ev_ll (f := fun a b => a - b) (pc' := 82) rfl rfl (fun _ => rfl) (tm_lsub hs) rfl ?_
        refine ev_lo (lo' := [(3, .inr (.inl (x3 - w4))), (6, .inr (.inl w4)), (0, .inr (.inr (some 25))), (1, .inl x1), (5, .inl x5)]) (st' := []) (pc' := 83) rfl rfl rfl rfl ?_
        exact ev_pick [0, 1, 3, 5] rfl rfl h
      · replace h := h.2 (of_decide_eq_false hc)
        refine ev_lo (lo' := [(6, .inr (.inl w4)), (0, .inr (.inr (some 25))), (1, .inl x1), (3, .inr (.inl x3)), (5, .inl x5)]) (st' := [.inr (.inr (some 25))]) (pc' := 62) rfl rfl rfl rfl ?_
        refine ev_lo (lo' := [(6, .inr (.inl w4)), (0, .inr (.inr (some 25))), (1, .inl x1), (3, .inr (.inl x3)), (5, .inl x5)]) (st' := [.inl x5, .inr (.inr (some 25))]) (pc' := 64) rfl rfl rfl rfl ?_
        refine ev_lo (lo' := [(6, .inr (.inl w4)), (0, .inr (.inr (some 25))), (1, .inl x1), (3, .inr (.inl x3)), (5, .inl x5)]) (st' := [.inr (.inr (some 25)), .inl x5, .inr (.inr (some 25))]) (pc' := 65) rfl rfl rfl rfl ?_
        refine ev_lo (lo' := [(6, .inr (.inl w4)), (0, .inr (.inr (some 25))), (1, .inl x1), (3, .inr (.inl x3)), (5, .inl x5)]) (st' := [.inl x5, .inr (.inr (some 25)), .inl x5, .inr (.inr (some 25))]) (pc' := 67) rfl rfl rfl rfl ?_
        refine ev_lo (lo' := [(6, .inr (.inl w4)), (0, .inr (.inr (some 25))), (1, .inl x1), (3, .inr (.inl x3)), (5, .inl x5)]) (st' := [.inl x1, .inl x5, .inr (.inr (some 25)), .inl x5, .inr (.inr (some 25))]) (pc' := 68) rfl rfl rfl rfl ?_
        refine ev_lo (lo' := [(6, .inr (.inl w4)), (0, .inr (.inr (some 25))), (1, .inl x1), (3, .inr (.inl x3)), (5, .inl x5)]) (st' := [.inr (.inl x3), .inl x1, .inl x5, .inr (.inr (some 25)), .inl x5, .inr (.inr (some 25))]) (pc' := 69) rfl rfl rfl rfl ?_
        refine ev_call (as := [.inr (.inr (some 25)), .inl x5, .inl x1, .inr (.inl x3)]) (r := [.inl x5, .inr (.inr (some 25))]) (pc' := 72) rfl rfl (Nat.le_of_ble_eq_true rfl) (Nat.le_of_ble_eq_true rfl) ⟨rfl, rfl⟩ (Nat.le_of_ble_eq_true rfl) rfl rfl rfl rfl ?_
        refine ev.post h (fun v M5 h => ?_)
        obtain ⟨w5, rfl, h⟩ := h
        show ev 58 72 [(6, .inr (.inl w4)), (0, .inr (.inr (some 25))), (1, .inl x1), (3, .inr (.inl x3)), (5, .inl x5)] [.inr (.inl w5), .inl x5, .inr (.inr (some 25))] M5 _
        refine ev_call (as := [.inr (.inr (some 25)), .inl x5, .inr (.inl w5)]) (r := []) (pc' := 75) rfl rfl (Nat.le_of_ble_eq_true rfl) (Nat.le_of_ble_eq_true rfl) ⟨rfl, rfl⟩ (Nat.le_of_ble_eq_true rfl) rfl rfl rfl rfl ?_
        refine ev.post h (fun v M6 h => ?_)
        obtain ⟨rfl, h⟩ := h
        show ev 58 75 [(6, .inr (.inl w4)), (0, .inr (.inr (some 25))), (1, .inl x1), (3, .inr (.inl x3)), (5, .inl x5)] [] M6 _
        refine ev_lo (lo' := [(6, .inr (.inl w4)), (0, .inr (.inr (some 25))), (1, .inl x1), (3, .inr (.inl x3)), (5, .inl x5)]) (st' := [.inl x5]) (pc' := 77) rfl rfl rfl rfl ?_
        exact ev_rt rfl rfl rfl ⟨_, rfl, h⟩
set_option maxRecDepth 10000 in
theorem b58_83 {x1 x3 x5 : Int} {M : ev_M} {Q : Int → ev_M → Prop}
    (h : tm_iI (x5 + 1) ∧ (c58_6 x1 x3 (x5 + 1) M Q)) : c58_83 x1 x3 x5 M Q := by
  unfold c58_83
  obtain ⟨hs, h⟩ := h
  refine ev_iinc (lo' := [(5, .inl (x5 + 1)), (0, .inr (.inr (some 25))), (1, .inl x1), (3, .inr (.inl x3))]) (pc' := 86) rfl rfl (by decide) (tm_add hs) rfl rfl ?_
  refine ev_br (pc' := 6) (st' := []) rfl rfl rfl ?_
  exact ev_pick [0, 1, 3, 5] rfl rfl h
/-! NulledForest$Walk.pushParts(I)V -/
def m59 (x1 : Int) (M : ev_M) (Q : ev_M → Prop) : Prop := ev 59 0 [(0, .inr (.inr (some 25))), (1, .inl x1)] [] M (fun v M1 => v = none ∧ Q M1)
def c59_12 (x1 x2 : Int) (M : ev_M) (Q : ev_M → Prop) : Prop := ev 59 12 [(0, .inr (.inr (some 25))), (1, .inl x1), (2, .inl x2)] [] M (fun v M1 => v = none ∧ Q M1)
set_option maxRecDepth 10000 in
theorem b59 {x1 : Int} {M : ev_M} {Q : ev_M → Prop}
    (h : (0 ≤ x1 ∧ x1 < 14) ∧ (tm_iI ((aG_size M (x1).toNat) - 1) ∧ (c59_12 x1 ((aG_size M (x1).toNat) - 1) M Q))) : m59 x1 M Q := by
  unfold m59
  refine ev_lo (lo' := [(0, .inr (.inr (some 25))), (1, .inl x1)]) (st' := [.inr (.inr (some 25))]) (pc' := 1) rfl rfl rfl rfl ?_
  refine ev_get (v := .inr (.inr (some 1))) (pc' := 4) rfl rfl rfl rfl ?_
  refine ev_get (v := .inr (.inr (some 3))) (pc' := 7) rfl rfl rfl rfl ?_
  refine ev_lo (lo' := [(0, .inr (.inr (some 25))), (1, .inl x1)]) (st' := [.inl x1, .inr (.inr (some 3))]) (pc' := 8) rfl rfl rfl rfl ?_
  obtain ⟨hs0, h⟩ := h
  refine ev_ald (t := 0) (n := 14) (f := aG_size M) (w := fun x => .inl x) (pc' := 9) rfl rfl (fun _ _ => rfl) rfl hs0 rfl ?_
  refine ev_pu (st' := [.inl 1, .inl (aG_size M (x1).toNat)]) (pc' := 10) rfl rfl rfl rfl ?_
  obtain ⟨hs, h⟩ := h
  refine ev_ii (f := fun a b => a - b) (pc' := 11) rfl rfl (fun _ => rfl) (tm_sub' hs) rfl ?_
  refine ev_lo (lo' := [(2, .inl ((aG_size M (x1).toNat) - 1)), (0, .inr (.inr (some 25))), (1, .inl x1)]) (st' := []) (pc' := 12) rfl rfl rfl rfl ?_
  exact ev_pick [0, 1, 2] rfl rfl h
set_option maxRecDepth 10000 in
theorem b59_12 {x1 x2 : Int} {M : ev_M} {Q : ev_M → Prop}
    (h : (x2 < 0 → (Q M)) ∧ (¬ (x2 < 0) → (m4 x1 x2 M (fun w1 M1 => (0 ≤ x2 ∧ x2 < 5) ∧ (tm_iI (x2 + 1) ∧ ((0 ≤ (x2 + 1) ∧ (x2 + 1) < 5) ∧ (m46 w1 (aW_cut M1 (x2).toNat) (aW_cut M1 (x2 + 1).toNat) M1 (fun w2 M2 => (0 ≤ x2 ∧ x2 < 4) ∧ (m55 w2 (aW_share M2 (x2).toNat) M2 (fun M3 => tm_iI (x2 + (-1)) ∧ (c59_12 x1 (x2 + (-1)) M3 Q))))))))))) : c59_12 x1 x2 M Q := by
  unfold c59_12
  refine ev_lo (lo' := [(0, .inr (.inr (some 25))), (1, .inl x1), (2, .inl x2)]) (st' := [.inl x2]) (pc' := 13) rfl rfl rfl rfl ?_
  refine ev_ifT (pc' := 58) (pc2 := 16) rfl (by decide) rfl rfl (fun hc => ?_) (fun hc => ?_)
  · replace h := h.1 (of_decide_eq_true hc)
    exact ev_rt rfl rfl rfl ⟨rfl, h⟩
  · replace h := h.2 (of_decide_eq_false hc)
    refine ev_lo (lo' := [(0, .inr (.inr (some 25))), (1, .inl x1), (2, .inl x2)]) (st' := [.inr (.inr (some 25))]) (pc' := 17) rfl rfl rfl rfl ?_
    refine ev_lo (lo' := [(0, .inr (.inr (some 25))), (1, .inl x1), (2, .inl x2)]) (st' := [.inr (.inr (some 25)), .inr (.inr (some 25))]) (pc' := 18) rfl rfl rfl rfl ?_
    refine ev_get (v := .inr (.inr (some 1))) (pc' := 21) rfl rfl rfl rfl ?_
    refine ev_lo (lo' := [(0, .inr (.inr (some 25))), (1, .inl x1), (2, .inl x2)]) (st' := [.inl x1, .inr (.inr (some 1)), .inr (.inr (some 25))]) (pc' := 22) rfl rfl rfl rfl ?_
    refine ev_lo (lo' := [(0, .inr (.inr (some 25))), (1, .inl x1), (2, .inl x2)]) (st' := [.inl x2, .inl x1, .inr (.inr (some 1)), .inr (.inr (some 25))]) (pc' := 23) rfl rfl rfl rfl ?_
    refine ev_call (as := [.inr (.inr (some 1)), .inl x1, .inl x2]) (r := [.inr (.inr (some 25))]) (pc' := 26) rfl rfl (Nat.le_of_ble_eq_true rfl) (Nat.le_of_ble_eq_true rfl) ⟨rfl, rfl⟩ (Nat.le_of_ble_eq_true rfl) rfl rfl rfl rfl ?_
    refine ev.post h (fun v M1 h => ?_)
    obtain ⟨w1, rfl, h⟩ := h
    show ev 59 26 [(0, .inr (.inr (some 25))), (1, .inl x1), (2, .inl x2)] [.inl w1, .inr (.inr (some 25))] M1 _
    refine ev_lo (lo' := [(0, .inr (.inr (some 25))), (1, .inl x1), (2, .inl x2)]) (st' := [.inr (.inr (some 25)), .inl w1, .inr (.inr (some 25))]) (pc' := 27) rfl rfl rfl rfl ?_
    refine ev_get (v := .inr (.inr (some 26))) (pc' := 30) rfl rfl rfl rfl ?_
    refine ev_lo (lo' := [(0, .inr (.inr (some 25))), (1, .inl x1), (2, .inl x2)]) (st' := [.inl x2, .inr (.inr (some 26)), .inl w1, .inr (.inr (some 25))]) (pc' := 31) rfl rfl rfl rfl ?_
    obtain ⟨hs0, h⟩ := h
    refine ev_ald (t := 0) (n := 5) (f := aW_cut M1) (w := fun x => .inl x) (pc' := 32) rfl rfl (fun _ _ => rfl) rfl hs0 rfl ?_
    refine ev_lo (lo' := [(0, .inr (.inr (some 25))), (1, .inl x1), (2, .inl x2)]) (st' := [.inr (.inr (some 25)), .inl (aW_cut M1 (x2).toNat), .inl w1, .inr (.inr (some 25))]) (pc' := 33) rfl rfl rfl rfl ?_
    refine ev_get (v := .inr (.inr (some 26))) (pc' := 36) rfl rfl rfl rfl ?_
    refine ev_lo (lo' := [(0, .inr (.inr (some 25))), (1, .inl x1), (2, .inl x2)]) (st' := [.inl x2, .inr (.inr (some 26)), .inl (aW_cut M1 (x2).toNat), .inl w1, .inr (.inr (some 25))]) (pc' := 37) rfl rfl rfl rfl ?_
    refine ev_pu (st' := [.inl 1, .inl x2, .inr (.inr (some 26)), .inl (aW_cut M1 (x2).toNat), .inl w1, .inr (.inr (some 25))]) (pc' := 38) rfl rfl rfl rfl ?_
    obtain ⟨hs, h⟩ := h
    refine ev_ii (f := fun a b => a + b) (pc' := 39) rfl rfl (fun _ => rfl) (tm_add hs) rfl ?_
    obtain ⟨hs0, h⟩ := h
    refine ev_ald (t := 0) (n := 5) (f := aW_cut M1) (w := fun x => .inl x) (pc' := 40) rfl rfl (fun _ _ => rfl) rfl hs0 rfl ?_
    refine ev_call (as := [.inl w1, .inl (aW_cut M1 (x2).toNat), .inl (aW_cut M1 (x2 + 1).toNat)]) (r := [.inr (.inr (some 25))]) (pc' := 43) rfl rfl (Nat.le_of_ble_eq_true rfl) (Nat.le_of_ble_eq_true rfl) ⟨rfl, rfl⟩ (Nat.le_of_ble_eq_true rfl) rfl rfl rfl rfl ?_
    refine ev.post h (fun v M2 h => ?_)
    obtain ⟨w2, rfl, h⟩ := h
    show ev 59 43 [(0, .inr (.inr (some 25))), (1, .inl x1), (2, .inl x2)] [.inl w2, .inr (.inr (some 25))] M2 _
    refine ev_lo (lo' := [(0, .inr (.inr (some 25))), (1, .inl x1), (2, .inl x2)]) (st' := [.inr (.inr (some 25)), .inl w2, .inr (.inr (some 25))]) (pc' := 44) rfl rfl rfl rfl ?_
    refine ev_get (v := .inr (.inr (some 27))) (pc' := 47) rfl rfl rfl rfl ?_
    refine ev_lo (lo' := [(0, .inr (.inr (some 25))), (1, .inl x1), (2, .inl x2)]) (st' := [.inl x2, .inr (.inr (some 27)), .inl w2, .inr (.inr (some 25))]) (pc' := 48) rfl rfl rfl rfl ?_
    obtain ⟨hs0, h⟩ := h
    refine ev_ald (t := 0) (n := 4) (f := aW_share M2) (w := fun x => .inl x) (pc' := 49) rfl rfl (fun _ _ => rfl) rfl hs0 rfl ?_
    refine ev_call (as := [.inr (.inr (some 25)), .inl w2, .inl (aW_share M2 (x2).toNat)]) (r := []) (pc' := 52) rfl rfl (Nat.le_of_ble_eq_true rfl) (Nat.le_of_ble_eq_true rfl) ⟨rfl, rfl⟩ (Nat.le_of_ble_eq_true rfl) rfl rfl rfl rfl ?_
    refine ev.post h (fun v M3 h => ?_)
    obtain ⟨rfl, h⟩ := h
    show ev 59 52 [(0, .inr (.inr (some 25))), (1, .inl x1), (2, .inl x2)] [] M3 _
    obtain ⟨hs, h⟩ := h
    refine ev_iinc (lo' := [(2, .inl (x2 + (-1))), (0, .inr (.inr (some 25))), (1, .inl x1)]) (pc' := 55) rfl rfl (by decide) (tm_add hs) rfl rfl ?_
    refine ev_br (pc' := 12) (st' := []) rfl rfl rfl ?_
    exact ev_pick [0, 1, 2] rfl rfl h
/-! NulledForest$Walk.find(II)I -/
def m60 (x1 x2 : Int) (M : ev_M) (Q : Int → ev_M → Prop) : Prop := ev 60 0 [(0, .inr (.inr (some 25))), (1, .inl x1), (2, .inl x2)] [] M (fun v M1 => ∃ w : Int, v = some (.inl w) ∧ Q w M1)
def c60_29 (x2 x3 : Int) (M : ev_M) (Q : Int → ev_M → Prop) : Prop := ev 60 29 [(0, .inr (.inr (some 25))), (2, .inl x2), (3, .inl x3)] [] M (fun v M1 => ∃ w : Int, v = some (.inl w) ∧ Q w M1)
def c60_120 (x2 x3 x4 x5 : Int) (M : ev_M) (Q : Int → ev_M → Prop) : Prop := ev 60 120 [(0, .inr (.inr (some 25))), (2, .inl x2), (3, .inl x3), (4, .inl x4), (5, .inl x5)] [] M (fun v M1 => ∃ w : Int, v = some (.inl w) ∧ Q w M1)
def c60_144 (x6 : Int) (M : ev_M) (Q : Int → ev_M → Prop) : Prop := ev 60 144 [(6, .inl x6)] [] M (fun v M1 => ∃ w : Int, v = some (.inl w) ∧ Q w M1)
def c60_163 (x2 x3 : Int) (M : ev_M) (Q : Int → ev_M → Prop) : Prop := ev 60 163 [(0, .inr (.inr (some 25))), (2, .inl x2), (3, .inl x3)] [] M (fun v M1 => ∃ w : Int, v = some (.inl w) ∧ Q w M1)
def c60_169 (M : ev_M) (Q : Int → ev_M → Prop) : Prop := ev 60 169 [] [] M (fun v M1 => ∃ w : Int, v = some (.inl w) ∧ Q w M1)
set_option maxRecDepth 10000 in
theorem b60 {x1 x2 : Int} {M : ev_M} {Q : Int → ev_M → Prop}
    (h : m46 0 0 (sC_size M) (ev_sS (ev_sS M 9 0) 8 0) (fun w1 M1 => m55 w1 x1 M1 (fun M2 => c60_29 x2 0 M2 Q))) : m60 x1 x2 M Q := by
  unfold m60
  refine ev_lo (lo' := [(0, .inr (.inr (some 25))), (1, .inl x1), (2, .inl x2)]) (st' := [.inr (.inr (some 25))]) (pc' := 1) rfl rfl rfl rfl ?_
  refine ev_pu (st' := [.inl 0, .inr (.inr (some 25))]) (pc' := 2) rfl rfl rfl rfl ?_
  refine ev_put (M' := ev_sS M 9 0) (pc' := 5) rfl rfl (Nat.le_of_ble_eq_true rfl) rfl (hp_s9 _ _) rfl ?_
  refine ev_lo (lo' := [(0, .inr (.inr (some 25))), (1, .inl x1), (2, .inl x2)]) (st' := [.inr (.inr (some 25))]) (pc' := 6) rfl rfl rfl rfl ?_
  refine ev_pu (st' := [.inl 0, .inr (.inr (some 25))]) (pc' := 7) rfl rfl rfl rfl ?_
  refine ev_put (M' := ev_sS (ev_sS M 9 0) 8 0) (pc' := 10) rfl rfl (Nat.le_of_ble_eq_true rfl) rfl (hp_s8 _ _) rfl ?_
  refine ev_lo (lo' := [(0, .inr (.inr (some 25))), (1, .inl x1), (2, .inl x2)]) (st' := [.inr (.inr (some 25))]) (pc' := 11) rfl rfl rfl rfl ?_
  refine ev_pu (st' := [.inl 0, .inr (.inr (some 25))]) (pc' := 12) rfl rfl rfl rfl ?_
  refine ev_pu (st' := [.inl 0, .inl 0, .inr (.inr (some 25))]) (pc' := 13) rfl rfl rfl rfl ?_
  refine ev_lo (lo' := [(0, .inr (.inr (some 25))), (1, .inl x1), (2, .inl x2)]) (st' := [.inr (.inr (some 25)), .inl 0, .inl 0, .inr (.inr (some 25))]) (pc' := 14) rfl rfl rfl rfl ?_
  refine ev_get (v := .inr (.inr (some 10))) (pc' := 17) rfl rfl rfl rfl ?_
  refine ev_get (v := .inl (sC_size M)) (pc' := 20) rfl rfl rfl rfl ?_
  refine ev_call (as := [.inl 0, .inl 0, .inl (sC_size M)]) (r := [.inr (.inr (some 25))]) (pc' := 23) rfl rfl (Nat.le_of_ble_eq_true rfl) (Nat.le_of_ble_eq_true rfl) ⟨rfl, rfl⟩ (Nat.le_of_ble_eq_true rfl) rfl rfl rfl rfl ?_
  refine ev.post h (fun v M1 h => ?_)
  obtain ⟨w1, rfl, h⟩ := h
  show ev 60 23 [(0, .inr (.inr (some 25))), (1, .inl x1), (2, .inl x2)] [.inl w1, .inr (.inr (some 25))] M1 _
  refine ev_lo (lo' := [(0, .inr (.inr (some 25))), (1, .inl x1), (2, .inl x2)]) (st' := [.inl x1, .inl w1, .inr (.inr (some 25))]) (pc' := 24) rfl rfl rfl rfl ?_
  refine ev_call (as := [.inr (.inr (some 25)), .inl w1, .inl x1]) (r := []) (pc' := 27) rfl rfl (Nat.le_of_ble_eq_true rfl) (Nat.le_of_ble_eq_true rfl) ⟨rfl, rfl⟩ (Nat.le_of_ble_eq_true rfl) rfl rfl rfl rfl ?_
  refine ev.post h (fun v M2 h => ?_)
  obtain ⟨rfl, h⟩ := h
  show ev 60 27 [(0, .inr (.inr (some 25))), (1, .inl x1), (2, .inl x2)] [] M2 _
  refine ev_pu (st' := [.inl 0]) (pc' := 28) rfl rfl rfl rfl ?_
  refine ev_lo (lo' := [(3, .inl 0), (0, .inr (.inr (some 25))), (1, .inl x1), (2, .inl x2)]) (st' := []) (pc' := 29) rfl rfl rfl rfl ?_
  exact ev_pick [0, 2, 3] rfl rfl h
set_option maxRecDepth 10000 in
theorem b60_29 {x2 x3 : Int} {M : ev_M} {Q : Int → ev_M → Prop}
    (h : (1000000 ≤ x3 → (c60_169 M Q)) ∧ (¬ (1000000 ≤ x3) → (((sW_waiting M) ≤ 0 → (c60_169 M Q)) ∧ (¬ ((sW_waiting M) ≤ 0) → (tm_iI ((sW_waiting M) - 1) ∧ ((0 ≤ ((sW_waiting M) - 1) ∧ ((sW_waiting M) - 1) < 256) ∧ ((0 ≤ ((sW_waiting M) - 1) ∧ ((sW_waiting M) - 1) < 256) ∧ ((¬ (aW_waitingTree M ((sW_waiting M) - 1).toNat) = 0 → (c60_120 x2 x3 (aW_waitingNode M ((sW_waiting M) - 1).toNat) (aW_waitingTree M ((sW_waiting M) - 1).toNat) (ev_sS M 8 ((sW_waiting M) - 1)) Q)) ∧ (¬ (¬ (aW_waitingTree M ((sW_waiting M) - 1).toNat) = 0) → (tm_iI (x2 - (sW_passed M)) ∧ ((0 ≤ (aW_waitingNode M ((sW_waiting M) - 1).toNat) ∧ (aW_waitingNode M ((sW_waiting M) - 1).toNat) < 1210) ∧ (((x2 - (sW_passed M)) < (aT_firstLength M (aW_waitingNode M ((sW_waiting M) - 1).toNat).toNat) → (c60_120 x2 x3 (aW_waitingNode M ((sW_waiting M) - 1).toNat) (aW_waitingTree M ((sW_waiting M) - 1).toNat) (ev_sS M 8 ((sW_waiting M) - 1)) Q)) ∧ (¬ ((x2 - (sW_passed M)) < (aT_firstLength M (aW_waitingNode M ((sW_waiting M) - 1).toNat).toNat)) → ((0 ≤ (aW_waitingNode M ((sW_waiting M) - 1).toNat) ∧ (aW_waitingNode M ((sW_waiting M) - 1).toNat) < 1210) ∧ (tm_iI ((sW_passed M) + (aT_firstLength M (aW_waitingNode M ((sW_waiting M) - 1).toNat).toNat)) ∧ (c60_163 x2 x3 (ev_sS (ev_sS M 8 ((sW_waiting M) - 1)) 9 ((sW_passed M) + (aT_firstLength M (aW_waitingNode M ((sW_waiting M) - 1).toNat).toNat))) Q)))))))))))))))) : c60_29 x2 x3 M Q := by
  unfold c60_29
  refine ev_lo (lo' := [(0, .inr (.inr (some 25))), (2, .inl x2), (3, .inl x3)]) (st' := [.inl x3]) (pc' := 30) rfl rfl rfl rfl ?_
  refine ev_kc (st' := [.inl 1000000, .inl x3]) (pc' := 32) rfl rfl rfl rfl ?_
  refine ev_icmp (pc' := 169) (pc2 := 35) rfl (by decide) rfl rfl (fun hc => ?_) (fun hc => ?_)
  · replace h := h.1 (of_decide_eq_true hc)
    exact ev_pick [] rfl rfl h
  · replace h := h.2 (of_decide_eq_false hc)
    refine ev_lo (lo' := [(0, .inr (.inr (some 25))), (2, .inl x2), (3, .inl x3)]) (st' := [.inr (.inr (some 25))]) (pc' := 36) rfl rfl rfl rfl ?_
    refine ev_get (v := .inl (sW_waiting M)) (pc' := 39) rfl rfl rfl rfl ?_
    refine ev_ifT (pc' := 169) (pc2 := 42) rfl (by decide) rfl rfl (fun hc => ?_) (fun hc => ?_)
    · replace h := h.1 (of_decide_eq_true hc)
      exact ev_pick [] rfl rfl h
    · replace h := h.2 (of_decide_eq_false hc)
      refine ev_lo (lo' := [(0, .inr (.inr (some 25))), (2, .inl x2), (3, .inl x3)]) (st' := [.inr (.inr (some 25))]) (pc' := 43) rfl rfl rfl rfl ?_
      refine ev_pu (st' := [.inr (.inr (some 25)), .inr (.inr (some 25))]) (pc' := 44) rfl rfl rfl rfl ?_
      refine ev_get (v := .inl (sW_waiting M)) (pc' := 47) rfl rfl rfl rfl ?_
      refine ev_pu (st' := [.inl 1, .inl (sW_waiting M), .inr (.inr (some 25))]) (pc' := 48) rfl rfl rfl rfl ?_
      obtain ⟨hs, h⟩ := h
      refine ev_ii (f := fun a b => a - b) (pc' := 49) rfl rfl (fun _ => rfl) (tm_sub' hs) rfl ?_
      refine ev_put (M' := ev_sS M 8 ((sW_waiting M) - 1)) (pc' := 52) rfl rfl (Nat.le_of_ble_eq_true rfl) rfl (hp_s8 _ _) rfl ?_
      refine ev_lo (lo' := [(0, .inr (.inr (some 25))), (2, .inl x2), (3, .inl x3)]) (st' := [.inr (.inr (some 25))]) (pc' := 53) rfl rfl rfl rfl ?_
      refine ev_get (v := .inr (.inr (some 28))) (pc' := 56) rfl rfl rfl rfl ?_
      refine ev_lo (lo' := [(0, .inr (.inr (some 25))), (2, .inl x2), (3, .inl x3)]) (st' := [.inr (.inr (some 25)), .inr (.inr (some 28))]) (pc' := 57) rfl rfl rfl rfl ?_
      refine ev_get (v := .inl ((sW_waiting M) - 1)) (pc' := 60) rfl rfl rfl rfl ?_
      obtain ⟨hs0, h⟩ := h
      refine ev_ald (t := 0) (n := 256) (f := aW_waitingNode M) (w := fun x => .inl x) (pc' := 61) rfl rfl (fun _ _ => rfl) rfl hs0 rfl ?_
      refine ev_lo (lo' := [(4, .inl (aW_waitingNode M ((sW_waiting M) - 1).toNat)), (0, .inr (.inr (some 25))), (2, .inl x2), (3, .inl x3)]) (st' := []) (pc' := 63) rfl rfl rfl rfl ?_
      refine ev_lo (lo' := [(4, .inl (aW_waitingNode M ((sW_waiting M) - 1).toNat)), (0, .inr (.inr (some 25))), (2, .inl x2), (3, .inl x3)]) (st' := [.inr (.inr (some 25))]) (pc' := 64) rfl rfl rfl rfl ?_
      refine ev_get (v := .inr (.inr (some 29))) (pc' := 67) rfl rfl rfl rfl ?_
      refine ev_lo (lo' := [(4, .inl (aW_waitingNode M ((sW_waiting M) - 1).toNat)), (0, .inr (.inr (some 25))), (2, .inl x2), (3, .inl x3)]) (st' := [.inr (.inr (some 25)), .inr (.inr (some 29))]) (pc' := 68) rfl rfl rfl rfl ?_
      refine ev_get (v := .inl ((sW_waiting M) - 1)) (pc' := 71) rfl rfl rfl rfl ?_
      obtain ⟨hs0, h⟩ := h
      refine ev_ald (t := 0) (n := 256) (f := aW_waitingTree M) (w := fun x => .inl x) (pc' := 72) rfl rfl (fun _ _ => rfl) rfl hs0 rfl ?_
      refine ev_lo (lo' := [(5, .inl (aW_waitingTree M ((sW_waiting M) - 1).toNat)), (4, .inl (aW_waitingNode M ((sW_waiting M) - 1).toNat)), (0, .inr (.inr (some 25))), (2, .inl x2), (3, .inl x3)]) (st' := []) (pc' := 74) rfl rfl rfl rfl ?_
      refine ev_lo (lo' := [(5, .inl (aW_waitingTree M ((sW_waiting M) - 1).toNat)), (4, .inl (aW_waitingNode M ((sW_waiting M) - 1).toNat)), (0, .inr (.inr (some 25))), (2, .inl x2), (3, .inl x3)]) (st' := [.inl (aW_waitingTree M ((sW_waiting M) - 1).toNat)]) (pc' := 76) rfl rfl rfl rfl ?_
      refine ev_ifT (pc' := 120) (pc2 := 79) rfl (by decide) rfl rfl (fun hc => ?_) (fun hc => ?_)
      · replace h := h.1 (of_decide_eq_true hc)
        exact ev_pick [0, 2, 3, 4, 5] rfl rfl h
      · replace h := h.2 (of_decide_eq_false hc)
        refine ev_lo (lo' := [(5, .inl (aW_waitingTree M ((sW_waiting M) - 1).toNat)), (4, .inl (aW_waitingNode M ((sW_waiting M) - 1).toNat)), (0, .inr (.inr (some 25))), (2, .inl x2), (3, .inl x3)]) (st' := [.inl x2]) (pc' := 80) rfl rfl rfl rfl ?_
        refine ev_lo (lo' := [(5, .inl (aW_waitingTree M ((sW_waiting M) - 1).toNat)), (4, .inl (aW_waitingNode M ((sW_waiting M) - 1).toNat)), (0, .inr (.inr (some 25))), (2, .inl x2), (3, .inl x3)]) (st' := [.inr (.inr (some 25)), .inl x2]) (pc' := 81) rfl rfl rfl rfl ?_
        refine ev_get (v := .inl (sW_passed M)) (pc' := 84) rfl rfl rfl rfl ?_
        obtain ⟨hs, h⟩ := h
        refine ev_ii (f := fun a b => a - b) (pc' := 85) rfl rfl (fun _ => rfl) (tm_sub' hs) rfl ?_
        refine ev_lo (lo' := [(5, .inl (aW_waitingTree M ((sW_waiting M) - 1).toNat)), (4, .inl (aW_waitingNode M ((sW_waiting M) - 1).toNat)), (0, .inr (.inr (some 25))), (2, .inl x2), (3, .inl x3)]) (st' := [.inr (.inr (some 25)), .inl (x2 - (sW_passed M))]) (pc' := 86) rfl rfl rfl rfl ?_
        refine ev_get (v := .inr (.inr (some 20))) (pc' := 89) rfl rfl rfl rfl ?_
        refine ev_get (v := .inr (.inr (some 22))) (pc' := 92) rfl rfl rfl rfl ?_
        refine ev_lo (lo' := [(5, .inl (aW_waitingTree M ((sW_waiting M) - 1).toNat)), (4, .inl (aW_waitingNode M ((sW_waiting M) - 1).toNat)), (0, .inr (.inr (some 25))), (2, .inl x2), (3, .inl x3)]) (st' := [.inl (aW_waitingNode M ((sW_waiting M) - 1).toNat), .inr (.inr (some 22)), .inl (x2 - (sW_passed M))]) (pc' := 94) rfl rfl rfl rfl ?_
        obtain ⟨hs0, h⟩ := h
        refine ev_ald (t := 0) (n := 1210) (f := aT_firstLength M) (w := fun x => .inl x) (pc' := 95) rfl rfl (fun _ _ => rfl) rfl hs0 rfl ?_
        refine ev_icmp (pc' := 120) (pc2 := 98) rfl (by decide) rfl rfl (fun hc => ?_) (fun hc => ?_)
        · replace h := h.1 (of_decide_eq_true hc)
          exact ev_pick [0, 2, 3, 4, 5] rfl rfl h
        · replace h := h.2 (of_decide_eq_false hc)
          refine ev_lo (lo' := [(5, .inl (aW_waitingTree M ((sW_waiting M) - 1).toNat)), (4, .inl (aW_waitingNode M ((sW_waiting M) - 1).toNat)), (0, .inr (.inr (some 25))), (2, .inl x2), (3, .inl x3)]) (st' := [.inr (.inr (some 25))]) (pc' := 99) rfl rfl rfl rfl ?_
          refine ev_pu (st' := [.inr (.inr (some 25)), .inr (.inr (some 25))]) (pc' := 100) rfl rfl rfl rfl ?_
          refine ev_get (v := .inl (sW_passed M)) (pc' := 103) rfl rfl rfl rfl ?_
          refine ev_lo (lo' := [(5, .inl (aW_waitingTree M ((sW_waiting M) - 1).toNat)), (4, .inl (aW_waitingNode M ((sW_waiting M) - 1).toNat)), (0, .inr (.inr (some 25))), (2, .inl x2), (3, .inl x3)]) (st' := [.inr (.inr (some 25)), .inl (sW_passed M), .inr (.inr (some 25))]) (pc' := 104) rfl rfl rfl rfl ?_
          refine ev_get (v := .inr (.inr (some 20))) (pc' := 107) rfl rfl rfl rfl ?_
          refine ev_get (v := .inr (.inr (some 22))) (pc' := 110) rfl rfl rfl rfl ?_
          refine ev_lo (lo' := [(5, .inl (aW_waitingTree M ((sW_waiting M) - 1).toNat)), (4, .inl (aW_waitingNode M ((sW_waiting M) - 1).toNat)), (0, .inr (.inr (some 25))), (2, .inl x2), (3, .inl x3)]) (st' := [.inl (aW_waitingNode M ((sW_waiting M) - 1).toNat), .inr (.inr (some 22)), .inl (sW_passed M), .inr (.inr (some 25))]) (pc' := 112) rfl rfl rfl rfl ?_
          obtain ⟨hs0, h⟩ := h
          refine ev_ald (t := 0) (n := 1210) (f := aT_firstLength M) (w := fun x => .inl x) (pc' := 113) rfl rfl (fun _ _ => rfl) rfl hs0 rfl ?_
          obtain ⟨hs, h⟩ := h
          refine ev_ii (f := fun a b => a + b) (pc' := 114) rfl rfl (fun _ => rfl) (tm_add hs) rfl ?_
          refine ev_put (M' := ev_sS (ev_sS M 8 ((sW_waiting M) - 1)) 9 ((sW_passed M) + (aT_firstLength M (aW_waitingNode M ((sW_waiting M) - 1).toNat).toNat))) (pc' := 117) rfl rfl (Nat.le_of_ble_eq_true rfl) rfl (hp_s9 _ _) rfl ?_
          refine ev_br (pc' := 163) (st' := []) rfl rfl rfl ?_
          exact ev_pick [0, 2, 3] rfl rfl h
set_option maxRecDepth 10000 in
theorem b60_120 {x2 x3 x4 x5 : Int} {M : ev_M} {Q : Int → ev_M → Prop}
    (h : m58 x4 x5 M (fun w1 M1 => (w1 = (-1) → (c60_144 w1 M1 Q)) ∧ (¬ (w1 = (-1)) → ((¬ (sW_passed M1) = x2 → (tm_iI ((sW_passed M1) + 1) ∧ (m59 w1 (ev_sS M1 9 ((sW_passed M1) + 1)) (fun M2 => c60_163 x2 x3 M2 Q)))) ∧ (¬ (¬ (sW_passed M1) = x2) → (c60_144 w1 M1 Q)))))) : c60_120 x2 x3 x4 x5 M Q := by
  unfold c60_120
  refine ev_lo (lo' := [(0, .inr (.inr (some 25))), (2, .inl x2), (3, .inl x3), (4, .inl x4), (5, .inl x5)]) (st' := [.inr (.inr (some 25))]) (pc' := 121) rfl rfl rfl rfl ?_
  refine ev_lo (lo' := [(0, .inr (.inr (some 25))), (2, .inl x2), (3, .inl x3), (4, .inl x4), (5, .inl x5)]) (st' := [.inl x4, .inr (.inr (some 25))]) (pc' := 123) rfl rfl rfl rfl ?_
  refine ev_lo (lo' := [(0, .inr (.inr (some 25))), (2, .inl x2), (3, .inl x3), (4, .inl x4), (5, .inl x5)]) (st' := [.inl x5, .inl x4, .inr (.inr (some 25))]) (pc' := 125) rfl rfl rfl rfl ?_
  refine ev_call (as := [.inr (.inr (some 25)), .inl x4, .inl x5]) (r := []) (pc' := 128) rfl rfl (Nat.le_of_ble_eq_true rfl) (Nat.le_of_ble_eq_true rfl) ⟨rfl, rfl⟩ (Nat.le_of_ble_eq_true rfl) rfl rfl rfl rfl ?_
  refine ev.post h (fun v M1 h => ?_)
  obtain ⟨w1, rfl, h⟩ := h
  show ev 60 128 [(0, .inr (.inr (some 25))), (2, .inl x2), (3, .inl x3), (4, .inl x4), (5, .inl x5)] [.inl w1] M1 _
  refine ev_lo (lo' := [(6, .inl w1), (0, .inr (.inr (some 25))), (2, .inl x2), (3, .inl x3), (4, .inl x4), (5, .inl x5)]) (st' := []) (pc' := 130) rfl rfl rfl rfl ?_
  refine ev_lo (lo' := [(6, .inl w1), (0, .inr (.inr (some 25))), (2, .inl x2), (3, .inl x3), (4, .inl x4), (5, .inl x5)]) (st' := [.inl w1]) (pc' := 132) rfl rfl rfl rfl ?_
  refine ev_pu (st' := [.inl (-1), .inl w1]) (pc' := 133) rfl rfl rfl rfl ?_
  refine ev_icmp (pc' := 144) (pc2 := 136) rfl (by decide) rfl rfl (fun hc => ?_) (fun hc => ?_)
  · replace h := h.1 (of_decide_eq_true hc)
    exact ev_pick [6] rfl rfl h
  · replace h := h.2 (of_decide_eq_false hc)
    refine ev_lo (lo' := [(6, .inl w1), (0, .inr (.inr (some 25))), (2, .inl x2), (3, .inl x3), (4, .inl x4), (5, .inl x5)]) (st' := [.inr (.inr (some 25))]) (pc' := 137) rfl rfl rfl rfl ?_
    refine ev_get (v := .inl (sW_passed M1)) (pc' := 140) rfl rfl rfl rfl ?_
    refine ev_lo (lo' := [(6, .inl w1), (0, .inr (.inr (some 25))), (2, .inl x2), (3, .inl x3), (4, .inl x4), (5, .inl x5)]) (st' := [.inl x2, .inl (sW_passed M1)]) (pc' := 141) rfl rfl rfl rfl ?_
    refine ev_icmp (pc' := 147) (pc2 := 144) rfl (by decide) rfl rfl (fun hc => ?_) (fun hc => ?_)
    · replace h := h.1 (of_decide_eq_true hc)
      refine ev_lo (lo' := [(6, .inl w1), (0, .inr (.inr (some 25))), (2, .inl x2), (3, .inl x3), (4, .inl x4), (5, .inl x5)]) (st' := [.inr (.inr (some 25))]) (pc' := 148) rfl rfl rfl rfl ?_
      refine ev_pu (st' := [.inr (.inr (some 25)), .inr (.inr (some 25))]) (pc' := 149) rfl rfl rfl rfl ?_
      refine ev_get (v := .inl (sW_passed M1)) (pc' := 152) rfl rfl rfl rfl ?_
      refine ev_pu (st' := [.inl 1, .inl (sW_passed M1), .inr (.inr (some 25))]) (pc' := 153) rfl rfl rfl rfl ?_
      obtain ⟨hs, h⟩ := h
      refine ev_ii (f := fun a b => a + b) (pc' := 154) rfl rfl (fun _ => rfl) (tm_add hs) rfl ?_
      refine ev_put (M' := ev_sS M1 9 ((sW_passed M1) + 1)) (pc' := 157) rfl rfl (Nat.le_of_ble_eq_true rfl) rfl (hp_s9 _ _) rfl ?_
      refine ev_lo (lo' := [(6, .inl w1), (0, .inr (.inr (some 25))), (2, .inl x2), (3, .inl x3), (4, .inl x4), (5, .inl x5)]) (st' := [.inr (.inr (some 25))]) (pc' := 158) rfl rfl rfl rfl ?_
      refine ev_lo (lo' := [(6, .inl w1), (0, .inr (.inr (some 25))), (2, .inl x2), (3, .inl x3), (4, .inl x4), (5, .inl x5)]) (st' := [.inl w1, .inr (.inr (some 25))]) (pc' := 160) rfl rfl rfl rfl ?_
      refine ev_call (as := [.inr (.inr (some 25)), .inl w1]) (r := []) (pc' := 163) rfl rfl (Nat.le_of_ble_eq_true rfl) (Nat.le_of_ble_eq_true rfl) ⟨rfl, rfl⟩ (Nat.le_of_ble_eq_true rfl) rfl rfl rfl rfl ?_
      refine ev.post h (fun v M2 h => ?_)
      obtain ⟨rfl, h⟩ := h
      show ev 60 163 [(6, .inl w1), (0, .inr (.inr (some 25))), (2, .inl x2), (3, .inl x3), (4, .inl x4), (5, .inl x5)] [] M2 _
      exact ev_pick [0, 2, 3] rfl rfl h
    · replace h := h.2 (of_decide_eq_false hc)
      exact ev_pick [6] rfl rfl h
set_option maxRecDepth 10000 in
theorem b60_144 {x6 : Int} {M : ev_M} {Q : Int → ev_M → Prop}
    (h : Q x6 M) : c60_144 x6 M Q := by
  unfold c60_144
  refine ev_lo (lo' := [(6, .inl x6)]) (st' := [.inl x6]) (pc' := 146) rfl rfl rfl rfl ?_
  exact ev_rt rfl rfl rfl ⟨_, rfl, h⟩
set_option maxRecDepth 10000 in
theorem b60_163 {x2 x3 : Int} {M : ev_M} {Q : Int → ev_M → Prop}
    (h : tm_iI (x3 + 1) ∧ (c60_29 x2 (x3 + 1) M Q)) : c60_163 x2 x3 M Q := by
  unfold c60_163
  obtain ⟨hs, h⟩ := h
  refine ev_iinc (lo' := [(3, .inl (x3 + 1)), (0, .inr (.inr (some 25))), (2, .inl x2)]) (pc' := 166) rfl rfl (by decide) (tm_add hs) rfl rfl ?_
  refine ev_br (pc' := 29) (st' := []) rfl rfl rfl ?_
  exact ev_pick [0, 2, 3] rfl rfl h
set_option maxRecDepth 10000 in
theorem b60_169 {M : ev_M} {Q : Int → ev_M → Prop}
    (h : Q (-1) M) : c60_169 M Q := by
  unfold c60_169
  refine ev_pu (st' := [.inl (-1)]) (pc' := 170) rfl rfl rfl rfl ?_
  exact ev_rt rfl rfl rfl ⟨_, rfl, h⟩
/-! NulledForest$Walk.measure(I)I -/
def m61 (x1 : Int) (M : ev_M) (Q : Int → ev_M → Prop) : Prop := ev 61 0 [(0, .inr (.inr (some 25))), (1, .inl x1)] [] M (fun v M1 => ∃ w : Int, v = some (.inl w) ∧ Q w M1)
set_option maxRecDepth 10000 in
theorem b61 {x1 : Int} {M : ev_M} {Q : Int → ev_M → Prop}
    (h : m60 x1 1000000 M (fun w1 M1 => Q (sW_passed M1) M1)) : m61 x1 M Q := by
  unfold m61
  refine ev_lo (lo' := [(0, .inr (.inr (some 25))), (1, .inl x1)]) (st' := [.inr (.inr (some 25))]) (pc' := 1) rfl rfl rfl rfl ?_
  refine ev_lo (lo' := [(0, .inr (.inr (some 25))), (1, .inl x1)]) (st' := [.inl x1, .inr (.inr (some 25))]) (pc' := 2) rfl rfl rfl rfl ?_
  refine ev_kc (st' := [.inl 1000000, .inl x1, .inr (.inr (some 25))]) (pc' := 4) rfl rfl rfl rfl ?_
  refine ev_call (as := [.inr (.inr (some 25)), .inl x1, .inl 1000000]) (r := []) (pc' := 7) rfl rfl (Nat.le_of_ble_eq_true rfl) (Nat.le_of_ble_eq_true rfl) ⟨rfl, rfl⟩ (Nat.le_of_ble_eq_true rfl) rfl rfl rfl rfl ?_
  refine ev.post h (fun v M1 h => ?_)
  obtain ⟨w1, rfl, h⟩ := h
  show ev 61 7 [(0, .inr (.inr (some 25))), (1, .inl x1)] [.inl w1] M1 _
  refine ev_pu (st' := []) (pc' := 8) rfl rfl rfl rfl ?_
  refine ev_lo (lo' := [(0, .inr (.inr (some 25))), (1, .inl x1)]) (st' := [.inr (.inr (some 25))]) (pc' := 9) rfl rfl rfl rfl ?_
  refine ev_get (v := .inl (sW_passed M1)) (pc' := 12) rfl rfl rfl rfl ?_
  exact ev_rt rfl rfl rfl ⟨_, rfl, h⟩
