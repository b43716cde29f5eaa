/-! Block rules, written by wip/whole/gen3.py -/
/-! NulledForest$Forest.countAll()I -/
def m45 (M : ev_M) (Q : Int → ev_M → Prop) : Prop := ev 45 0 [(0, .inr (.inr (some 20)))] [] M (fun v M1 => ∃ w : Int, v = some (.inl w) ∧ Q w M1)
set_option maxRecDepth 10000 in
theorem b45 {M : ev_M} {Q : Int → ev_M → Prop}
    (h : (0 ≤ (sC_size M) ∧ (sC_size M) < 1210) ∧ (Q (aT_count M (sC_size M).toNat) M)) : m45 M Q := by
  unfold m45
  refine ev_lo (lo' := [(0, .inr (.inr (some 20)))]) (st' := [.inr (.inr (some 20))]) (pc' := 1) rfl rfl rfl rfl ?_
  refine ev_get (v := .inr (.inr (some 21))) (pc' := 4) rfl rfl rfl rfl ?_
  refine ev_lo (lo' := [(0, .inr (.inr (some 20)))]) (st' := [.inr (.inr (some 20)), .inr (.inr (some 21))]) (pc' := 5) rfl rfl rfl rfl ?_
  refine ev_get (v := .inr (.inr (some 10))) (pc' := 8) rfl rfl rfl rfl ?_
  refine ev_get (v := .inl (sC_size M)) (pc' := 11) rfl rfl rfl rfl ?_
  obtain ⟨hs0, h⟩ := h
  refine ev_ald (t := 0) (n := 1210) (f := aT_count M) (w := fun x => .inl x) (pc' := 12) rfl rfl (fun _ _ => rfl) rfl hs0 rfl ?_
  exact ev_rt rfl rfl rfl ⟨_, rfl, h⟩
/-! NulledForest.nodeOf(III)I -/
def m46 (x0 x1 x2 : Int) (M : ev_M) (Q : Int → ev_M → Prop) : Prop := ev 46 0 [(0, .inl x0), (1, .inl x1), (2, .inl x2)] [] M (fun v M1 => ∃ w : Int, v = some (.inl w) ∧ Q w M1)
set_option maxRecDepth 10000 in
theorem b46 {x0 x1 x2 : Int} {M : ev_M} {Q : Int → ev_M → Prop}
    (h : tm_iI (x0 * 11) ∧ (tm_iI ((x0 * 11) + x1) ∧ (tm_iI (((x0 * 11) + x1) * 11) ∧ (tm_iI ((((x0 * 11) + x1) * 11) + x2) ∧ (Q ((((x0 * 11) + x1) * 11) + x2) M))))) : m46 x0 x1 x2 M Q := by
  unfold m46
  refine ev_lo (lo' := [(0, .inl x0), (1, .inl x1), (2, .inl x2)]) (st' := [.inl x0]) (pc' := 1) rfl rfl rfl rfl ?_
  refine ev_pu (st' := [.inl 11, .inl x0]) (pc' := 3) rfl rfl rfl rfl ?_
  obtain ⟨hs, h⟩ := h
  refine ev_ii (f := fun a b => a * b) (pc' := 4) rfl rfl (fun _ => rfl) (tm_mul hs) rfl ?_
  refine ev_lo (lo' := [(0, .inl x0), (1, .inl x1), (2, .inl x2)]) (st' := [.inl x1, .inl (x0 * 11)]) (pc' := 5) rfl rfl rfl rfl ?_
  obtain ⟨hs, h⟩ := h
  refine ev_ii (f := fun a b => a + b) (pc' := 6) rfl rfl (fun _ => rfl) (tm_add hs) rfl ?_
  refine ev_pu (st' := [.inl 11, .inl ((x0 * 11) + x1)]) (pc' := 8) rfl rfl rfl rfl ?_
  obtain ⟨hs, h⟩ := h
  refine ev_ii (f := fun a b => a * b) (pc' := 9) rfl rfl (fun _ => rfl) (tm_mul hs) rfl ?_
  refine ev_lo (lo' := [(0, .inl x0), (1, .inl x1), (2, .inl x2)]) (st' := [.inl x2, .inl (((x0 * 11) + x1) * 11)]) (pc' := 10) rfl rfl rfl rfl ?_
  obtain ⟨hs, h⟩ := h
  refine ev_ii (f := fun a b => a + b) (pc' := 11) rfl rfl (fun _ => rfl) (tm_add hs) rfl ?_
  exact ev_rt rfl rfl rfl ⟨_, rfl, h⟩
/-! NulledForest$Forest.othersEmpty(II)Z -/
def m47 (x1 x2 : Int) (M : ev_M) (Q : Int → ev_M → Prop) : Prop := ev 47 0 [(0, .inr (.inr (some 20))), (1, .inl x1), (2, .inl x2)] [] M (fun v M1 => ∃ w : Int, v = some (.inl w) ∧ Q w M1)
def c47_2 (x1 x2 x3 : Int) (M : ev_M) (Q : Int → ev_M → Prop) : Prop := ev 47 2 [(0, .inr (.inr (some 20))), (1, .inl x1), (2, .inl x2), (3, .inl x3)] [] M (fun v M1 => ∃ w : Int, v = some (.inl w) ∧ Q w M1)
def c47_41 (x1 x2 x3 : Int) (M : ev_M) (Q : Int → ev_M → Prop) : Prop := ev 47 41 [(0, .inr (.inr (some 20))), (1, .inl x1), (2, .inl x2), (3, .inl x3)] [] M (fun v M1 => ∃ w : Int, v = some (.inl w) ∧ Q w M1)
set_option maxRecDepth 10000 in
theorem b47 {x1 x2 : Int} {M : ev_M} {Q : Int → ev_M → Prop}
    (h : c47_2 x1 x2 0 M Q) : m47 x1 x2 M Q := by
  unfold m47
  refine ev_pu (st' := [.inl 0]) (pc' := 1) rfl rfl rfl rfl ?_
  refine ev_lo (lo' := [(3, .inl 0), (0, .inr (.inr (some 20))), (1, .inl x1), (2, .inl x2)]) (st' := []) (pc' := 2) rfl rfl rfl rfl ?_
  exact ev_pick [0, 1, 2, 3] rfl rfl h
set_option maxRecDepth 10000 in
theorem b47_2 {x1 x2 x3 : Int} {M : ev_M} {Q : Int → ev_M → Prop}
    (h : (0 ≤ x1 ∧ x1 < 14) ∧ (((aG_size M (x1).toNat) ≤ x3 → (Q 1 M)) ∧ (¬ ((aG_size M (x1).toNat) ≤ x3) → ((x3 = x2 → (c47_41 x1 x2 x3 M Q)) ∧ (¬ (x3 = x2) → (m4 x1 x3 M (fun w1 M1 => m20 w1 M1 (fun w2 M2 => (¬ w2 = 0 → (c47_41 x1 x2 x3 M2 Q)) ∧ (¬ (¬ w2 = 0) → (Q 0 M2)))))))))) : c47_2 x1 x2 x3 M Q := by
  unfold c47_2
  refine ev_lo (lo' := [(0, .inr (.inr (some 20))), (1, .inl x1), (2, .inl x2), (3, .inl x3)]) (st' := [.inl x3]) (pc' := 3) rfl rfl rfl rfl ?_
  refine ev_lo (lo' := [(0, .inr (.inr (some 20))), (1, .inl x1), (2, .inl x2), (3, .inl x3)]) (st' := [.inr (.inr (some 20)), .inl x3]) (pc' := 4) rfl rfl rfl rfl ?_
  refine ev_get (v := .inr (.inr (some 1))) (pc' := 7) rfl rfl rfl rfl ?_
  refine ev_get (v := .inr (.inr (some 3))) (pc' := 10) rfl rfl rfl rfl ?_
  refine ev_lo (lo' := [(0, .inr (.inr (some 20))), (1, .inl x1), (2, .inl x2), (3, .inl x3)]) (st' := [.inl x1, .inr (.inr (some 3)), .inl x3]) (pc' := 11) rfl rfl rfl rfl ?_
  obtain ⟨hs0, h⟩ := h
  refine ev_ald (t := 0) (n := 14) (f := aG_size M) (w := fun x => .inl x) (pc' := 12) rfl rfl (fun _ _ => rfl) rfl hs0 rfl ?_
  refine ev_icmp (pc' := 47) (pc2 := 15) rfl (by decide) rfl rfl (fun hc => ?_) (fun hc => ?_)
  · replace h := h.1 (of_decide_eq_true hc)
    refine ev_pu (st' := [.inl 1]) (pc' := 48) rfl rfl rfl rfl ?_
    exact ev_rt rfl rfl rfl ⟨_, rfl, h⟩
  · replace h := h.2 (of_decide_eq_false hc)
    refine ev_lo (lo' := [(0, .inr (.inr (some 20))), (1, .inl x1), (2, .inl x2), (3, .inl x3)]) (st' := [.inl x3]) (pc' := 16) rfl rfl rfl rfl ?_
    refine ev_lo (lo' := [(0, .inr (.inr (some 20))), (1, .inl x1), (2, .inl x2), (3, .inl x3)]) (st' := [.inl x2, .inl x3]) (pc' := 17) rfl rfl rfl rfl ?_
    refine ev_icmp (pc' := 41) (pc2 := 20) rfl (by decide) rfl rfl (fun hc => ?_) (fun hc => ?_)
    · replace h := h.1 (of_decide_eq_true hc)
      exact ev_pick [0, 1, 2, 3] rfl rfl h
    · replace h := h.2 (of_decide_eq_false hc)
      refine ev_lo (lo' := [(0, .inr (.inr (some 20))), (1, .inl x1), (2, .inl x2), (3, .inl x3)]) (st' := [.inr (.inr (some 20))]) (pc' := 21) rfl rfl rfl rfl ?_
      refine ev_get (v := .inr (.inr (some 10))) (pc' := 24) rfl rfl rfl rfl ?_
      refine ev_lo (lo' := [(0, .inr (.inr (some 20))), (1, .inl x1), (2, .inl x2), (3, .inl x3)]) (st' := [.inr (.inr (some 20)), .inr (.inr (some 10))]) (pc' := 25) rfl rfl rfl rfl ?_
      refine ev_get (v := .inr (.inr (some 1))) (pc' := 28) rfl rfl rfl rfl ?_
      refine ev_lo (lo' := [(0, .inr (.inr (some 20))), (1, .inl x1), (2, .inl x2), (3, .inl x3)]) (st' := [.inl x1, .inr (.inr (some 1)), .inr (.inr (some 10))]) (pc' := 29) rfl rfl rfl rfl ?_
      refine ev_lo (lo' := [(0, .inr (.inr (some 20))), (1, .inl x1), (2, .inl x2), (3, .inl x3)]) (st' := [.inl x3, .inl x1, .inr (.inr (some 1)), .inr (.inr (some 10))]) (pc' := 30) rfl rfl rfl rfl ?_
      refine ev_call (as := [.inr (.inr (some 1)), .inl x1, .inl x3]) (r := [.inr (.inr (some 10))]) (pc' := 33) rfl rfl (Nat.le_of_ble_eq_true rfl) (Nat.le_of_ble_eq_true rfl) ⟨rfl, rfl⟩ (Nat.le_of_ble_eq_true rfl) rfl rfl rfl rfl ?_
      refine ev.post h (fun v M1 h => ?_)
      obtain ⟨w1, rfl, h⟩ := h
      show ev 47 33 [(0, .inr (.inr (some 20))), (1, .inl x1), (2, .inl x2), (3, .inl x3)] [.inl w1, .inr (.inr (some 10))] M1 _
      refine ev_call (as := [.inr (.inr (some 10)), .inl w1]) (r := []) (pc' := 36) rfl rfl (Nat.le_of_ble_eq_true rfl) (Nat.le_of_ble_eq_true rfl) ⟨rfl, rfl⟩ (Nat.le_of_ble_eq_true rfl) rfl rfl rfl rfl ?_
      refine ev.post h (fun v M2 h => ?_)
      obtain ⟨w2, rfl, h⟩ := h
      show ev 47 36 [(0, .inr (.inr (some 20))), (1, .inl x1), (2, .inl x2), (3, .inl x3)] [.inl w2] M2 _
      refine ev_ifT (pc' := 41) (pc2 := 39) rfl (by decide) rfl rfl (fun hc => ?_) (fun hc => ?_)
      · replace h := h.1 (of_decide_eq_true hc)
        exact ev_pick [0, 1, 2, 3] rfl rfl h
      · replace h := h.2 (of_decide_eq_false hc)
        refine ev_pu (st' := [.inl 0]) (pc' := 40) rfl rfl rfl rfl ?_
        exact ev_rt rfl rfl rfl ⟨_, rfl, h⟩
set_option maxRecDepth 10000 in
theorem b47_41 {x1 x2 x3 : Int} {M : ev_M} {Q : Int → ev_M → Prop}
    (h : tm_iI (x3 + 1) ∧ (c47_2 x1 x2 (x3 + 1) M Q)) : c47_41 x1 x2 x3 M Q := by
  unfold c47_41
  obtain ⟨hs, h⟩ := h
  refine ev_iinc (lo' := [(3, .inl (x3 + 1)), (0, .inr (.inr (some 20))), (1, .inl x1), (2, .inl x2)]) (pc' := 44) rfl rfl (by decide) (tm_add hs) rfl rfl ?_
  refine ev_br (pc' := 2) (st' := []) rfl rfl rfl ?_
  exact ev_pick [0, 1, 2, 3] rfl rfl h
/-! NulledForest$Forest.makersWithin(III)I -/
def m48 (x1 x2 x3 : Int) (M : ev_M) (Q : Int → ev_M → Prop) : Prop := ev 48 0 [(0, .inr (.inr (some 20))), (1, .inl x1), (2, .inl x2), (3, .inl x3)] [] M (fun v M1 => ∃ w : Int, v = some (.inl w) ∧ Q w M1)
def c48_6 (x1 x2 x3 x4 x5 : Int) (M : ev_M) (Q : Int → ev_M → Prop) : Prop := ev 48 6 [(0, .inr (.inr (some 20))), (1, .inl x1), (2, .inl x2), (3, .inl x3), (4, .inl x4), (5, .inl x5)] [] M (fun v M1 => ∃ w : Int, v = some (.inl w) ∧ Q w M1)
def c48_21 (x1 x2 x3 x4 x5 x6 : Int) (M : ev_M) (Q : Int → ev_M → Prop) : Prop := ev 48 21 [(0, .inr (.inr (some 20))), (1, .inl x1), (2, .inl x2), (3, .inl x3), (4, .inl x4), (5, .inl x5), (6, .inl x6)] [] M (fun v M1 => ∃ w : Int, v = some (.inl w) ∧ Q w M1)
def c48_104 (x1 x2 x3 x4 x5 x6 : Int) (M : ev_M) (Q : Int → ev_M → Prop) : Prop := ev 48 104 [(0, .inr (.inr (some 20))), (1, .inl x1), (2, .inl x2), (3, .inl x3), (4, .inl x4), (5, .inl x5), (6, .inl x6)] [] M (fun v M1 => ∃ w : Int, v = some (.inl w) ∧ Q w M1)
def c48_110 (x1 x2 x3 x4 x5 : Int) (M : ev_M) (Q : Int → ev_M → Prop) : Prop := ev 48 110 [(0, .inr (.inr (some 20))), (1, .inl x1), (2, .inl x2), (3, .inl x3), (4, .inl x4), (5, .inl x5)] [] M (fun v M1 => ∃ w : Int, v = some (.inl w) ∧ Q w M1)
set_option maxRecDepth 10000 in
theorem b48 {x1 x2 x3 : Int} {M : ev_M} {Q : Int → ev_M → Prop}
    (h : c48_6 x1 x2 x3 0 0 M Q) : m48 x1 x2 x3 M Q := by
  unfold m48
  refine ev_pu (st' := [.inl 0]) (pc' := 1) rfl rfl rfl rfl ?_
  refine ev_lo (lo' := [(4, .inl 0), (0, .inr (.inr (some 20))), (1, .inl x1), (2, .inl x2), (3, .inl x3)]) (st' := []) (pc' := 3) rfl rfl rfl rfl ?_
  refine ev_pu (st' := [.inl 0]) (pc' := 4) rfl rfl rfl rfl ?_
  refine ev_lo (lo' := [(5, .inl 0), (4, .inl 0), (0, .inr (.inr (some 20))), (1, .inl x1), (2, .inl x2), (3, .inl x3)]) (st' := []) (pc' := 6) rfl rfl rfl rfl ?_
  exact ev_pick [0, 1, 2, 3, 4, 5] rfl rfl h
set_option maxRecDepth 10000 in
theorem b48_6 {x1 x2 x3 x4 x5 : Int} {M : ev_M} {Q : Int → ev_M → Prop}
    (h : ((sG_count M) ≤ x5 → (Q x4 M)) ∧ (¬ ((sG_count M) ≤ x5) → (c48_21 x1 x2 x3 x4 x5 0 M Q))) : c48_6 x1 x2 x3 x4 x5 M Q := by
  unfold c48_6
  refine ev_lo (lo' := [(0, .inr (.inr (some 20))), (1, .inl x1), (2, .inl x2), (3, .inl x3), (4, .inl x4), (5, .inl x5)]) (st' := [.inl x5]) (pc' := 8) rfl rfl rfl rfl ?_
  refine ev_lo (lo' := [(0, .inr (.inr (some 20))), (1, .inl x1), (2, .inl x2), (3, .inl x3), (4, .inl x4), (5, .inl x5)]) (st' := [.inr (.inr (some 20)), .inl x5]) (pc' := 9) rfl rfl rfl rfl ?_
  refine ev_get (v := .inr (.inr (some 1))) (pc' := 12) rfl rfl rfl rfl ?_
  refine ev_get (v := .inl (sG_count M)) (pc' := 15) rfl rfl rfl rfl ?_
  refine ev_icmp (pc' := 116) (pc2 := 18) rfl (by decide) rfl rfl (fun hc => ?_) (fun hc => ?_)
  · replace h := h.1 (of_decide_eq_true hc)
    refine ev_lo (lo' := [(0, .inr (.inr (some 20))), (1, .inl x1), (2, .inl x2), (3, .inl x3), (4, .inl x4), (5, .inl x5)]) (st' := [.inl x4]) (pc' := 118) rfl rfl rfl rfl ?_
    exact ev_rt rfl rfl rfl ⟨_, rfl, h⟩
  · replace h := h.2 (of_decide_eq_false hc)
    refine ev_pu (st' := [.inl 0]) (pc' := 19) rfl rfl rfl rfl ?_
    refine ev_lo (lo' := [(6, .inl 0), (0, .inr (.inr (some 20))), (1, .inl x1), (2, .inl x2), (3, .inl x3), (4, .inl x4), (5, .inl x5)]) (st' := []) (pc' := 21) rfl rfl rfl rfl ?_
    exact ev_pick [0, 1, 2, 3, 4, 5, 6] rfl rfl h
set_option maxRecDepth 10000 in
theorem b48_21 {x1 x2 x3 x4 x5 x6 : Int} {M : ev_M} {Q : Int → ev_M → Prop}
    (h : (0 ≤ x5 ∧ x5 < 14) ∧ (((aG_size M (x5).toNat) ≤ x6 → (c48_110 x1 x2 x3 x4 x5 M Q)) ∧ (¬ ((aG_size M (x5).toNat) ≤ x6) → ((0 ≤ x5 ∧ x5 < 14) ∧ ((¬ (aG_left M (x5).toNat) = x1 → (c48_110 x1 x2 x3 x4 x5 M Q)) ∧ (¬ (¬ (aG_left M (x5).toNat) = x1) → (m4 x5 x6 M (fun w1 M1 => (6 ≤ w1 → (c48_104 x1 x2 x3 x4 x5 x6 M1 Q)) ∧ (¬ (6 ≤ w1) → (m24 w1 x2 x3 M1 (fun w2 M2 => (w2 = 0 → (c48_104 x1 x2 x3 x4 x5 x6 M2 Q)) ∧ (¬ (w2 = 0) → (m47 x5 x6 M2 (fun w3 M3 => (w3 = 0 → (c48_104 x1 x2 x3 x4 x5 x6 M3 Q)) ∧ (¬ (w3 = 0) → ((0 ≤ w1 ∧ w1 < 32) ∧ (1 : Int) * 2 ^ (w1).toNat < 2147483648 ∧ ((0 ≤ x4 ∧ x4 < 2147483648) ∧ (0 ≤ (tm_sl 1 w1) ∧ (tm_sl 1 w1) < 2147483648) ∧ (c48_104 x1 x2 x3 (tm_or x4 (tm_sl 1 w1)) x5 x6 M3 Q)))))))))))))))))) : c48_21 x1 x2 x3 x4 x5 x6 M Q := by
  unfold c48_21
  refine ev_lo (lo' := [(0, .inr (.inr (some 20))), (1, .inl x1), (2, .inl x2), (3, .inl x3), (4, .inl x4), (5, .inl x5), (6, .inl x6)]) (st' := [.inl x6]) (pc' := 23) rfl rfl rfl rfl ?_
  refine ev_lo (lo' := [(0, .inr (.inr (some 20))), (1, .inl x1), (2, .inl x2), (3, .inl x3), (4, .inl x4), (5, .inl x5), (6, .inl x6)]) (st' := [.inr (.inr (some 20)), .inl x6]) (pc' := 24) rfl rfl rfl rfl ?_
  refine ev_get (v := .inr (.inr (some 1))) (pc' := 27) rfl rfl rfl rfl ?_
  refine ev_get (v := .inr (.inr (some 3))) (pc' := 30) rfl rfl rfl rfl ?_
  refine ev_lo (lo' := [(0, .inr (.inr (some 20))), (1, .inl x1), (2, .inl x2), (3, .inl x3), (4, .inl x4), (5, .inl x5), (6, .inl x6)]) (st' := [.inl x5, .inr (.inr (some 3)), .inl x6]) (pc' := 32) rfl rfl rfl rfl ?_
  obtain ⟨hs0, h⟩ := h
  refine ev_ald (t := 0) (n := 14) (f := aG_size M) (w := fun x => .inl x) (pc' := 33) rfl rfl (fun _ _ => rfl) rfl hs0 rfl ?_
  refine ev_icmp (pc' := 110) (pc2 := 36) rfl (by decide) rfl rfl (fun hc => ?_) (fun hc => ?_)
  · replace h := h.1 (of_decide_eq_true hc)
    exact ev_pick [0, 1, 2, 3, 4, 5] rfl rfl h
  · replace h := h.2 (of_decide_eq_false hc)
    refine ev_lo (lo' := [(0, .inr (.inr (some 20))), (1, .inl x1), (2, .inl x2), (3, .inl x3), (4, .inl x4), (5, .inl x5), (6, .inl x6)]) (st' := [.inr (.inr (some 20))]) (pc' := 37) rfl rfl rfl rfl ?_
    refine ev_get (v := .inr (.inr (some 1))) (pc' := 40) rfl rfl rfl rfl ?_
    refine ev_get (v := .inr (.inr (some 2))) (pc' := 43) rfl rfl rfl rfl ?_
    refine ev_lo (lo' := [(0, .inr (.inr (some 20))), (1, .inl x1), (2, .inl x2), (3, .inl x3), (4, .inl x4), (5, .inl x5), (6, .inl x6)]) (st' := [.inl x5, .inr (.inr (some 2))]) (pc' := 45) rfl rfl rfl rfl ?_
    obtain ⟨hs0, h⟩ := h
    refine ev_ald (t := 0) (n := 14) (f := aG_left M) (w := fun x => .inl x) (pc' := 46) rfl rfl (fun _ _ => rfl) rfl hs0 rfl ?_
    refine ev_lo (lo' := [(0, .inr (.inr (some 20))), (1, .inl x1), (2, .inl x2), (3, .inl x3), (4, .inl x4), (5, .inl x5), (6, .inl x6)]) (st' := [.inl x1, .inl (aG_left M (x5).toNat)]) (pc' := 47) rfl rfl rfl rfl ?_
    refine ev_icmp (pc' := 110) (pc2 := 50) rfl (by decide) rfl rfl (fun hc => ?_) (fun hc => ?_)
    · replace h := h.1 (of_decide_eq_true hc)
      exact ev_pick [0, 1, 2, 3, 4, 5] rfl rfl h
    · replace h := h.2 (of_decide_eq_false hc)
      refine ev_lo (lo' := [(0, .inr (.inr (some 20))), (1, .inl x1), (2, .inl x2), (3, .inl x3), (4, .inl x4), (5, .inl x5), (6, .inl x6)]) (st' := [.inr (.inr (some 20))]) (pc' := 51) rfl rfl rfl rfl ?_
      refine ev_get (v := .inr (.inr (some 1))) (pc' := 54) rfl rfl rfl rfl ?_
      refine ev_lo (lo' := [(0, .inr (.inr (some 20))), (1, .inl x1), (2, .inl x2), (3, .inl x3), (4, .inl x4), (5, .inl x5), (6, .inl x6)]) (st' := [.inl x5, .inr (.inr (some 1))]) (pc' := 56) rfl rfl rfl rfl ?_
      refine ev_lo (lo' := [(0, .inr (.inr (some 20))), (1, .inl x1), (2, .inl x2), (3, .inl x3), (4, .inl x4), (5, .inl x5), (6, .inl x6)]) (st' := [.inl x6, .inl x5, .inr (.inr (some 1))]) (pc' := 58) rfl rfl rfl rfl ?_
      refine ev_call (as := [.inr (.inr (some 1)), .inl x5, .inl x6]) (r := []) (pc' := 61) rfl rfl (Nat.le_of_ble_eq_true rfl) (Nat.le_of_ble_eq_true rfl) ⟨rfl, rfl⟩ (Nat.le_of_ble_eq_true rfl) rfl rfl rfl rfl ?_
      refine ev.post h (fun v M1 h => ?_)
      obtain ⟨w1, rfl, h⟩ := h
      show ev 48 61 [(0, .inr (.inr (some 20))), (1, .inl x1), (2, .inl x2), (3, .inl x3), (4, .inl x4), (5, .inl x5), (6, .inl x6)] [.inl w1] M1 _
      refine ev_lo (lo' := [(7, .inl w1), (0, .inr (.inr (some 20))), (1, .inl x1), (2, .inl x2), (3, .inl x3), (4, .inl x4), (5, .inl x5), (6, .inl x6)]) (st' := []) (pc' := 63) rfl rfl rfl rfl ?_
      refine ev_lo (lo' := [(7, .inl w1), (0, .inr (.inr (some 20))), (1, .inl x1), (2, .inl x2), (3, .inl x3), (4, .inl x4), (5, .inl x5), (6, .inl x6)]) (st' := [.inl w1]) (pc' := 65) rfl rfl rfl rfl ?_
      refine ev_pu (st' := [.inl 6, .inl w1]) (pc' := 67) rfl rfl rfl rfl ?_
      refine ev_icmp (pc' := 104) (pc2 := 70) rfl (by decide) rfl rfl (fun hc => ?_) (fun hc => ?_)
      · replace h := h.1 (of_decide_eq_true hc)
        exact ev_pick [0, 1, 2, 3, 4, 5, 6] rfl rfl h
      · replace h := h.2 (of_decide_eq_false hc)
        refine ev_lo (lo' := [(7, .inl w1), (0, .inr (.inr (some 20))), (1, .inl x1), (2, .inl x2), (3, .inl x3), (4, .inl x4), (5, .inl x5), (6, .inl x6)]) (st' := [.inr (.inr (some 20))]) (pc' := 71) rfl rfl rfl rfl ?_
        refine ev_get (v := .inr (.inr (some 10))) (pc' := 74) rfl rfl rfl rfl ?_
        refine ev_lo (lo' := [(7, .inl w1), (0, .inr (.inr (some 20))), (1, .inl x1), (2, .inl x2), (3, .inl x3), (4, .inl x4), (5, .inl x5), (6, .inl x6)]) (st' := [.inl w1, .inr (.inr (some 10))]) (pc' := 76) rfl rfl rfl rfl ?_
        refine ev_lo (lo' := [(7, .inl w1), (0, .inr (.inr (some 20))), (1, .inl x1), (2, .inl x2), (3, .inl x3), (4, .inl x4), (5, .inl x5), (6, .inl x6)]) (st' := [.inl x2, .inl w1, .inr (.inr (some 10))]) (pc' := 77) rfl rfl rfl rfl ?_
        refine ev_lo (lo' := [(7, .inl w1), (0, .inr (.inr (some 20))), (1, .inl x1), (2, .inl x2), (3, .inl x3), (4, .inl x4), (5, .inl x5), (6, .inl x6)]) (st' := [.inl x3, .inl x2, .inl w1, .inr (.inr (some 10))]) (pc' := 78) rfl rfl rfl rfl ?_
        refine ev_call (as := [.inr (.inr (some 10)), .inl w1, .inl x2, .inl x3]) (r := []) (pc' := 81) rfl rfl (Nat.le_of_ble_eq_true rfl) (Nat.le_of_ble_eq_true rfl) ⟨rfl, rfl⟩ (Nat.le_of_ble_eq_true rfl) rfl rfl rfl rfl ?_
        refine ev.post h (fun v M2 h => ?_)
        obtain ⟨w2, rfl, h⟩ := h
        show ev 48 81 [(7, .inl w1), (0, .inr (.inr (some 20))), (1, .inl x1), (2, .inl x2), (3, .inl x3), (4, .inl x4), (5, .inl x5), (6, .inl x6)] [.inl w2] M2 _
        refine ev_ifT (pc' := 104) (pc2 := 84) rfl (by decide) rfl rfl (fun hc => ?_) (fun hc => ?_)
        · replace h := h.1 (of_decide_eq_true hc)
          exact ev_pick [0, 1, 2, 3, 4, 5, 6] rfl rfl h
        · replace h := h.2 (of_decide_eq_false hc)
          refine ev_lo (lo' := [(7, .inl w1), (0, .inr (.inr (some 20))), (1, .inl x1), (2, .inl x2), (3, .inl x3), (4, .inl x4), (5, .inl x5), (6, .inl x6)]) (st' := [.inr (.inr (some 20))]) (pc' := 85) rfl rfl rfl rfl ?_
          refine ev_lo (lo' := [(7, .inl w1), (0, .inr (.inr (some 20))), (1, .inl x1), (2, .inl x2), (3, .inl x3), (4, .inl x4), (5, .inl x5), (6, .inl x6)]) (st' := [.inl x5, .inr (.inr (some 20))]) (pc' := 87) rfl rfl rfl rfl ?_
          refine ev_lo (lo' := [(7, .inl w1), (0, .inr (.inr (some 20))), (1, .inl x1), (2, .inl x2), (3, .inl x3), (4, .inl x4), (5, .inl x5), (6, .inl x6)]) (st' := [.inl x6, .inl x5, .inr (.inr (some 20))]) (pc' := 89) rfl rfl rfl rfl ?_
          refine ev_call (as := [.inr (.inr (some 20)), .inl x5, .inl x6]) (r := []) (pc' := 92) rfl rfl (Nat.le_of_ble_eq_true rfl) (Nat.le_of_ble_eq_true rfl) ⟨rfl, rfl⟩ (Nat.le_of_ble_eq_true rfl) rfl rfl rfl rfl ?_
          refine ev.post h (fun v M3 h => ?_)
          obtain ⟨w3, rfl, h⟩ := h
          show ev 48 92 [(7, .inl w1), (0, .inr (.inr (some 20))), (1, .inl x1), (2, .inl x2), (3, .inl x3), (4, .inl x4), (5, .inl x5), (6, .inl x6)] [.inl w3] M3 _
          refine ev_ifT (pc' := 104) (pc2 := 95) rfl (by decide) rfl rfl (fun hc => ?_) (fun hc => ?_)
          · replace h := h.1 (of_decide_eq_true hc)
            exact ev_pick [0, 1, 2, 3, 4, 5, 6] rfl rfl h
          · replace h := h.2 (of_decide_eq_false hc)
            refine ev_lo (lo' := [(7, .inl w1), (0, .inr (.inr (some 20))), (1, .inl x1), (2, .inl x2), (3, .inl x3), (4, .inl x4), (5, .inl x5), (6, .inl x6)]) (st' := [.inl x4]) (pc' := 97) rfl rfl rfl rfl ?_
            refine ev_pu (st' := [.inl 1, .inl x4]) (pc' := 98) rfl rfl rfl rfl ?_
            refine ev_lo (lo' := [(7, .inl w1), (0, .inr (.inr (some 20))), (1, .inl x1), (2, .inl x2), (3, .inl x3), (4, .inl x4), (5, .inl x5), (6, .inl x6)]) (st' := [.inl w1, .inl 1, .inl x4]) (pc' := 100) rfl rfl rfl rfl ?_
            obtain ⟨hs1, hs2, h⟩ := h
            refine ev_ii (f := fun a b => a <<< (b &&& 31)) (pc' := 101) rfl rfl (fun _ => rfl) (tm_sl_eq (by decide) hs1 hs2) rfl ?_
            obtain ⟨hs0, hs1, h⟩ := h
            refine ev_ii (f := fun a b => a ||| b) (pc' := 102) rfl rfl (fun _ => rfl) (tm_or_eq hs0 hs1) rfl ?_
            refine ev_lo (lo' := [(4, .inl (tm_or x4 (tm_sl 1 w1))), (7, .inl w1), (0, .inr (.inr (some 20))), (1, .inl x1), (2, .inl x2), (3, .inl x3), (5, .inl x5), (6, .inl x6)]) (st' := []) (pc' := 104) rfl rfl rfl rfl ?_
            exact ev_pick [0, 1, 2, 3, 4, 5, 6] rfl rfl h
set_option maxRecDepth 10000 in
theorem b48_104 {x1 x2 x3 x4 x5 x6 : Int} {M : ev_M} {Q : Int → ev_M → Prop}
    (h : tm_iI (x6 + 1) ∧ (c48_21 x1 x2 x3 x4 x5 (x6 + 1) M Q)) : c48_104 x1 x2 x3 x4 x5 x6 M Q := by
  unfold c48_104
  obtain ⟨hs, h⟩ := h
  refine ev_iinc (lo' := [(6, .inl (x6 + 1)), (0, .inr (.inr (some 20))), (1, .inl x1), (2, .inl x2), (3, .inl x3), (4, .inl x4), (5, .inl x5)]) (pc' := 107) rfl rfl (by decide) (tm_add hs) rfl rfl ?_
  refine ev_br (pc' := 21) (st' := []) rfl rfl rfl ?_
  exact ev_pick [0, 1, 2, 3, 4, 5, 6] rfl rfl h
set_option maxRecDepth 10000 in
theorem b48_110 {x1 x2 x3 x4 x5 : Int} {M : ev_M} {Q : Int → ev_M → Prop}
    (h : tm_iI (x5 + 1) ∧ (c48_6 x1 x2 x3 x4 (x5 + 1) M Q)) : c48_110 x1 x2 x3 x4 x5 M Q := by
  unfold c48_110
  obtain ⟨hs, h⟩ := h
  refine ev_iinc (lo' := [(5, .inl (x5 + 1)), (0, .inr (.inr (some 20))), (1, .inl x1), (2, .inl x2), (3, .inl x3), (4, .inl x4)]) (pc' := 113) rfl rfl (by decide) (tm_add hs) rfl rfl ?_
  refine ev_br (pc' := 6) (st' := []) rfl rfl rfl ?_
  exact ev_pick [0, 1, 2, 3, 4, 5] rfl rfl h
/-! NulledForest.capped(J)J -/
def m49 (x0 : Int) (M : ev_M) (Q : Int → ev_M → Prop) : Prop := ev 49 0 [(0, .inr (.inl x0))] [] M (fun v M1 => ∃ w : Int, v = some (.inr (.inl w)) ∧ Q w M1)
def c49_15 (t0 : Int) (M : ev_M) (Q : Int → ev_M → Prop) : Prop := ev 49 15 [] [.inr (.inl t0)] M (fun v M1 => ∃ w : Int, v = some (.inr (.inl w)) ∧ Q w M1)
set_option maxRecDepth 10000 in
theorem b49 {x0 : Int} {M : ev_M} {Q : Int → ev_M → Prop}
    (h : (1000000000 ≤ x0 → (c49_15 1000000000 M Q)) ∧ (¬ (1000000000 ≤ x0) → (c49_15 x0 M Q))) : m49 x0 M Q := by
  unfold m49
  refine ev_lo (lo' := [(0, .inr (.inl x0))]) (st' := [.inr (.inl x0)]) (pc' := 1) rfl rfl rfl rfl ?_
  refine ev_kc (st' := [.inr (.inl 1000000000), .inr (.inl x0)]) (pc' := 4) rfl rfl rfl rfl ?_
  refine ev_lcmp (pc1 := 5) (pc' := 12) (pc2 := 8) rfl rfl rfl (by decide) rfl rfl (fun hc => ?_) (fun hc => ?_)
  · replace h := h.1 (of_decide_eq_true hc)
    refine ev_kc (st' := [.inr (.inl 1000000000)]) (pc' := 15) rfl rfl rfl rfl ?_
    exact ev_pick [] rfl rfl h
  · replace h := h.2 (of_decide_eq_false hc)
    refine ev_lo (lo' := [(0, .inr (.inl x0))]) (st' := [.inr (.inl x0)]) (pc' := 9) rfl rfl rfl rfl ?_
    refine ev_br (pc' := 15) (st' := [.inr (.inl x0)]) rfl rfl rfl ?_
    exact ev_pick [] rfl rfl h
set_option maxRecDepth 10000 in
theorem b49_15 {t0 : Int} {M : ev_M} {Q : Int → ev_M → Prop}
    (h : Q t0 M) : c49_15 t0 M Q := by
  unfold c49_15
  exact ev_rt rfl rfl rfl ⟨_, rfl, h⟩
/-! NulledForest$Forest.weighRule(III)J -/
def m50 (x1 x2 x3 : Int) (M : ev_M) (Q : Int → ev_M → Prop) : Prop := ev 50 0 [(0, .inr (.inr (some 20))), (1, .inl x1), (2, .inl x2), (3, .inl x3)] [] M (fun v M1 => ∃ w : Int, v = some (.inr (.inl w)) ∧ Q w M1)
def c50_14 (x1 x2 x3 x4 x5 : Int) (M : ev_M) (Q : Int → ev_M → Prop) : Prop := ev 50 14 [(0, .inr (.inr (some 20))), (1, .inl x1), (2, .inl x2), (3, .inl x3), (4, .inl x4), (5, .inl x5)] [] M (fun v M1 => ∃ w : Int, v = some (.inr (.inl w)) ∧ Q w M1)
def c50_43 (x1 x2 x3 x4 x5 t1 t2 : Int) (M : ev_M) (Q : Int → ev_M → Prop) : Prop := ev 50 43 [(0, .inr (.inr (some 20))), (1, .inl x1), (2, .inl x2), (3, .inl x3), (4, .inl x4), (5, .inl x5)] [.inr (.inl t2), .inl t1, .inr (.inr (some 23))] M (fun v M1 => ∃ w : Int, v = some (.inr (.inl w)) ∧ Q w M1)
def c50_70 (x1 x2 x3 x5 : Int) (M : ev_M) (Q : Int → ev_M → Prop) : Prop := ev 50 70 [(0, .inr (.inr (some 20))), (1, .inl x1), (2, .inl x2), (3, .inl x3), (5, .inl x5)] [] M (fun v M1 => ∃ w : Int, v = some (.inr (.inl w)) ∧ Q w M1)
def c50_90 (x1 x2 x3 x5 x6 x7 : Int) (M : ev_M) (Q : Int → ev_M → Prop) : Prop := ev 50 90 [(0, .inr (.inr (some 20))), (1, .inl x1), (2, .inl x2), (3, .inl x3), (5, .inl x5), (6, .inl x6), (7, .inl x7)] [] M (fun v M1 => ∃ w : Int, v = some (.inr (.inl w)) ∧ Q w M1)
def c50_103 (x1 x2 x3 x5 x6 x7 x8 x10 : Int) (M : ev_M) (Q : Int → ev_M → Prop) : Prop := ev 50 103 [(0, .inr (.inr (some 20))), (1, .inl x1), (2, .inl x2), (3, .inl x3), (5, .inl x5), (6, .inl x6), (7, .inl x7), (8, .inr (.inl x8)), (10, .inl x10)] [] M (fun v M1 => ∃ w : Int, v = some (.inr (.inl w)) ∧ Q w M1)
def c50_192 (x1 x2 x3 x5 x6 x7 x8 x10 x13 : Int) (M : ev_M) (Q : Int → ev_M → Prop) : Prop := ev 50 192 [(0, .inr (.inr (some 20))), (1, .inl x1), (2, .inl x2), (3, .inl x3), (5, .inl x5), (6, .inl x6), (7, .inl x7), (8, .inr (.inl x8)), (10, .inl x10), (13, .inr (.inl x13))] [] M (fun v M1 => ∃ w : Int, v = some (.inr (.inl w)) ∧ Q w M1)
set_option maxRecDepth 10000 in
theorem b50 {x1 x2 x3 : Int} {M : ev_M} {Q : Int → ev_M → Prop}
    (h : (0 ≤ x1 ∧ x1 < 14) ∧ (c50_14 x1 x2 x3 (aG_size M (x1).toNat) x2 M Q)) : m50 x1 x2 x3 M Q := by
  unfold m50
  refine ev_lo (lo' := [(0, .inr (.inr (some 20))), (1, .inl x1), (2, .inl x2), (3, .inl x3)]) (st' := [.inr (.inr (some 20))]) (pc' := 1) rfl rfl rfl rfl ?_
  refine ev_get (v := .inr (.inr (some 1))) (pc' := 4) rfl rfl rfl rfl ?_
  refine ev_get (v := .inr (.inr (some 3))) (pc' := 7) rfl rfl rfl rfl ?_
  refine ev_lo (lo' := [(0, .inr (.inr (some 20))), (1, .inl x1), (2, .inl x2), (3, .inl x3)]) (st' := [.inl x1, .inr (.inr (some 3))]) (pc' := 8) rfl rfl rfl rfl ?_
  obtain ⟨hs0, h⟩ := h
  refine ev_ald (t := 0) (n := 14) (f := aG_size M) (w := fun x => .inl x) (pc' := 9) rfl rfl (fun _ _ => rfl) rfl hs0 rfl ?_
  refine ev_lo (lo' := [(4, .inl (aG_size M (x1).toNat)), (0, .inr (.inr (some 20))), (1, .inl x1), (2, .inl x2), (3, .inl x3)]) (st' := []) (pc' := 11) rfl rfl rfl rfl ?_
  refine ev_lo (lo' := [(4, .inl (aG_size M (x1).toNat)), (0, .inr (.inr (some 20))), (1, .inl x1), (2, .inl x2), (3, .inl x3)]) (st' := [.inl x2]) (pc' := 12) rfl rfl rfl rfl ?_
  refine ev_lo (lo' := [(5, .inl x2), (4, .inl (aG_size M (x1).toNat)), (0, .inr (.inr (some 20))), (1, .inl x1), (2, .inl x2), (3, .inl x3)]) (st' := []) (pc' := 14) rfl rfl rfl rfl ?_
  exact ev_pick [0, 1, 2, 3, 4, 5] rfl rfl h
set_option maxRecDepth 10000 in
theorem b50_14 {x1 x2 x3 x4 x5 : Int} {M : ev_M} {Q : Int → ev_M → Prop}
    (h : (x3 < x5 → (tm_iI (x4 - 1) ∧ (c50_70 x1 x2 x3 (x4 - 1) M Q))) ∧ (¬ (x3 < x5) → (tm_iI (x4 * 11) ∧ (tm_iI ((x4 * 11) + x5) ∧ ((¬ x5 = x3 → (c50_43 x1 x2 x3 x4 x5 ((x4 * 11) + x5) 0 M Q)) ∧ (¬ (¬ x5 = x3) → (c50_43 x1 x2 x3 x4 x5 ((x4 * 11) + x5) 1 M Q))))))) : c50_14 x1 x2 x3 x4 x5 M Q := by
  unfold c50_14
  refine ev_lo (lo' := [(0, .inr (.inr (some 20))), (1, .inl x1), (2, .inl x2), (3, .inl x3), (4, .inl x4), (5, .inl x5)]) (st' := [.inl x5]) (pc' := 16) rfl rfl rfl rfl ?_
  refine ev_lo (lo' := [(0, .inr (.inr (some 20))), (1, .inl x1), (2, .inl x2), (3, .inl x3), (4, .inl x4), (5, .inl x5)]) (st' := [.inl x3, .inl x5]) (pc' := 17) rfl rfl rfl rfl ?_
  refine ev_icmp (pc' := 64) (pc2 := 20) rfl (by decide) rfl rfl (fun hc => ?_) (fun hc => ?_)
  · replace h := h.1 (of_decide_eq_true hc)
    refine ev_lo (lo' := [(0, .inr (.inr (some 20))), (1, .inl x1), (2, .inl x2), (3, .inl x3), (4, .inl x4), (5, .inl x5)]) (st' := [.inl x4]) (pc' := 66) rfl rfl rfl rfl ?_
    refine ev_pu (st' := [.inl 1, .inl x4]) (pc' := 67) rfl rfl rfl rfl ?_
    obtain ⟨hs, h⟩ := h
    refine ev_ii (f := fun a b => a - b) (pc' := 68) rfl rfl (fun _ => rfl) (tm_sub' hs) rfl ?_
    refine ev_lo (lo' := [(5, .inl (x4 - 1)), (0, .inr (.inr (some 20))), (1, .inl x1), (2, .inl x2), (3, .inl x3), (4, .inl x4)]) (st' := []) (pc' := 70) rfl rfl rfl rfl ?_
    exact ev_pick [0, 1, 2, 3, 5] rfl rfl h
  · replace h := h.2 (of_decide_eq_false hc)
    refine ev_lo (lo' := [(0, .inr (.inr (some 20))), (1, .inl x1), (2, .inl x2), (3, .inl x3), (4, .inl x4), (5, .inl x5)]) (st' := [.inr (.inr (some 20))]) (pc' := 21) rfl rfl rfl rfl ?_
    refine ev_get (v := .inr (.inr (some 23))) (pc' := 24) rfl rfl rfl rfl ?_
    refine ev_lo (lo' := [(0, .inr (.inr (some 20))), (1, .inl x1), (2, .inl x2), (3, .inl x3), (4, .inl x4), (5, .inl x5)]) (st' := [.inl x4, .inr (.inr (some 23))]) (pc' := 26) rfl rfl rfl rfl ?_
    refine ev_pu (st' := [.inl 11, .inl x4, .inr (.inr (some 23))]) (pc' := 28) rfl rfl rfl rfl ?_
    obtain ⟨hs, h⟩ := h
    refine ev_ii (f := fun a b => a * b) (pc' := 29) rfl rfl (fun _ => rfl) (tm_mul hs) rfl ?_
    refine ev_lo (lo' := [(0, .inr (.inr (some 20))), (1, .inl x1), (2, .inl x2), (3, .inl x3), (4, .inl x4), (5, .inl x5)]) (st' := [.inl x5, .inl (x4 * 11), .inr (.inr (some 23))]) (pc' := 31) rfl rfl rfl rfl ?_
    obtain ⟨hs, h⟩ := h
    refine ev_ii (f := fun a b => a + b) (pc' := 32) rfl rfl (fun _ => rfl) (tm_add hs) rfl ?_
    refine ev_lo (lo' := [(0, .inr (.inr (some 20))), (1, .inl x1), (2, .inl x2), (3, .inl x3), (4, .inl x4), (5, .inl x5)]) (st' := [.inl x5, .inl ((x4 * 11) + x5), .inr (.inr (some 23))]) (pc' := 34) rfl rfl rfl rfl ?_
    refine ev_lo (lo' := [(0, .inr (.inr (some 20))), (1, .inl x1), (2, .inl x2), (3, .inl x3), (4, .inl x4), (5, .inl x5)]) (st' := [.inl x3, .inl x5, .inl ((x4 * 11) + x5), .inr (.inr (some 23))]) (pc' := 35) rfl rfl rfl rfl ?_
    refine ev_icmp (pc' := 42) (pc2 := 38) rfl (by decide) rfl rfl (fun hc => ?_) (fun hc => ?_)
    · replace h := h.1 (of_decide_eq_true hc)
      refine ev_pu (st' := [.inr (.inl 0), .inl ((x4 * 11) + x5), .inr (.inr (some 23))]) (pc' := 43) rfl rfl rfl rfl ?_
      exact ev_pick [0, 1, 2, 3, 4, 5] rfl rfl h
    · replace h := h.2 (of_decide_eq_false hc)
      refine ev_pu (st' := [.inr (.inl 1), .inl ((x4 * 11) + x5), .inr (.inr (some 23))]) (pc' := 39) rfl rfl rfl rfl ?_
      refine ev_br (pc' := 43) (st' := [.inr (.inl 1), .inl ((x4 * 11) + x5), .inr (.inr (some 23))]) rfl rfl rfl ?_
      exact ev_pick [0, 1, 2, 3, 4, 5] rfl rfl h
set_option maxRecDepth 10000 in
theorem b50_43 {x1 x2 x3 x4 x5 t1 t2 : Int} {M : ev_M} {Q : Int → ev_M → Prop}
    (h : (0 ≤ t1 ∧ t1 < 55) ∧ (tm_iI (x4 * 11) ∧ (tm_iI ((x4 * 11) + x5) ∧ ((0 ≤ ((x4 * 11) + x5) ∧ ((x4 * 11) + x5) < 55) ∧ (tm_iI (x5 + 1) ∧ (c50_14 x1 x2 x3 x4 (x5 + 1) (ev_sA (ev_sA M 23 (t1).toNat t2) 24 ((x4 * 11) + x5).toNat 0) Q)))))) : c50_43 x1 x2 x3 x4 x5 t1 t2 M Q := by
  unfold c50_43
  obtain ⟨hs0, h⟩ := h
  refine ev_last (n := 55) (f := aT_rest M) (M' := ev_sA M 23 (t1).toNat t2) (pc' := 44) rfl rfl hs0 (hp_a23 _ _ _) rfl ?_
  refine ev_lo (lo' := [(0, .inr (.inr (some 20))), (1, .inl x1), (2, .inl x2), (3, .inl x3), (4, .inl x4), (5, .inl x5)]) (st' := [.inr (.inr (some 20))]) (pc' := 45) rfl rfl rfl rfl ?_
  refine ev_get (v := .inr (.inr (some 24))) (pc' := 48) rfl rfl rfl rfl ?_
  refine ev_lo (lo' := [(0, .inr (.inr (some 20))), (1, .inl x1), (2, .inl x2), (3, .inl x3), (4, .inl x4), (5, .inl x5)]) (st' := [.inl x4, .inr (.inr (some 24))]) (pc' := 50) rfl rfl rfl rfl ?_
  refine ev_pu (st' := [.inl 11, .inl x4, .inr (.inr (some 24))]) (pc' := 52) rfl rfl rfl rfl ?_
  obtain ⟨hs, h⟩ := h
  refine ev_ii (f := fun a b => a * b) (pc' := 53) rfl rfl (fun _ => rfl) (tm_mul hs) rfl ?_
  refine ev_lo (lo' := [(0, .inr (.inr (some 20))), (1, .inl x1), (2, .inl x2), (3, .inl x3), (4, .inl x4), (5, .inl x5)]) (st' := [.inl x5, .inl (x4 * 11), .inr (.inr (some 24))]) (pc' := 55) rfl rfl rfl rfl ?_
  obtain ⟨hs, h⟩ := h
  refine ev_ii (f := fun a b => a + b) (pc' := 56) rfl rfl (fun _ => rfl) (tm_add hs) rfl ?_
  refine ev_pu (st' := [.inl 0, .inl ((x4 * 11) + x5), .inr (.inr (some 24))]) (pc' := 57) rfl rfl rfl rfl ?_
  obtain ⟨hs0, h⟩ := h
  refine ev_iast (n := 55) (f := aT_firstRest M) (M' := ev_sA (ev_sA M 23 (t1).toNat t2) 24 ((x4 * 11) + x5).toNat 0) (pc' := 58) rfl rfl hs0 (hp_a24 _ _ _) rfl ?_
  obtain ⟨hs, h⟩ := h
  refine ev_iinc (lo' := [(5, .inl (x5 + 1)), (0, .inr (.inr (some 20))), (1, .inl x1), (2, .inl x2), (3, .inl x3), (4, .inl x4)]) (pc' := 61) rfl rfl (by decide) (tm_add hs) rfl rfl ?_
  refine ev_br (pc' := 14) (st' := []) rfl rfl rfl ?_
  exact ev_pick [0, 1, 2, 3, 4, 5] rfl rfl h
set_option maxRecDepth 10000 in
theorem b50_70 {x1 x2 x3 x5 : Int} {M : ev_M} {Q : Int → ev_M → Prop}
    (h : (x5 < 0 → ((0 ≤ x2 ∧ x2 < 55) ∧ (Q (aT_rest M (x2).toNat) M))) ∧ (¬ (x5 < 0) → (m4 x1 x5 M (fun w1 M1 => c50_90 x1 x2 x3 x5 w1 x2 M1 Q)))) : c50_70 x1 x2 x3 x5 M Q := by
  unfold c50_70
  refine ev_lo (lo' := [(0, .inr (.inr (some 20))), (1, .inl x1), (2, .inl x2), (3, .inl x3), (5, .inl x5)]) (st' := [.inl x5]) (pc' := 72) rfl rfl rfl rfl ?_
  refine ev_ifT (pc' := 235) (pc2 := 75) rfl (by decide) rfl rfl (fun hc => ?_) (fun hc => ?_)
  · replace h := h.1 (of_decide_eq_true hc)
    refine ev_lo (lo' := [(0, .inr (.inr (some 20))), (1, .inl x1), (2, .inl x2), (3, .inl x3), (5, .inl x5)]) (st' := [.inr (.inr (some 20))]) (pc' := 236) rfl rfl rfl rfl ?_
    refine ev_get (v := .inr (.inr (some 23))) (pc' := 239) rfl rfl rfl rfl ?_
    refine ev_lo (lo' := [(0, .inr (.inr (some 20))), (1, .inl x1), (2, .inl x2), (3, .inl x3), (5, .inl x5)]) (st' := [.inl x2, .inr (.inr (some 23))]) (pc' := 240) rfl rfl rfl rfl ?_
    obtain ⟨hs0, h⟩ := h
    refine ev_ald (t := 1) (n := 55) (f := aT_rest M) (w := fun x => .inr (.inl x)) (pc' := 241) rfl rfl (fun _ _ => rfl) rfl hs0 rfl ?_
    exact ev_rt rfl rfl rfl ⟨_, rfl, h⟩
  · replace h := h.2 (of_decide_eq_false hc)
    refine ev_lo (lo' := [(0, .inr (.inr (some 20))), (1, .inl x1), (2, .inl x2), (3, .inl x3), (5, .inl x5)]) (st' := [.inr (.inr (some 20))]) (pc' := 76) rfl rfl rfl rfl ?_
    refine ev_get (v := .inr (.inr (some 1))) (pc' := 79) rfl rfl rfl rfl ?_
    refine ev_lo (lo' := [(0, .inr (.inr (some 20))), (1, .inl x1), (2, .inl x2), (3, .inl x3), (5, .inl x5)]) (st' := [.inl x1, .inr (.inr (some 1))]) (pc' := 80) rfl rfl rfl rfl ?_
    refine ev_lo (lo' := [(0, .inr (.inr (some 20))), (1, .inl x1), (2, .inl x2), (3, .inl x3), (5, .inl x5)]) (st' := [.inl x5, .inl x1, .inr (.inr (some 1))]) (pc' := 82) rfl rfl rfl rfl ?_
    refine ev_call (as := [.inr (.inr (some 1)), .inl x1, .inl x5]) (r := []) (pc' := 85) rfl rfl (Nat.le_of_ble_eq_true rfl) (Nat.le_of_ble_eq_true rfl) ⟨rfl, rfl⟩ (Nat.le_of_ble_eq_true rfl) rfl rfl rfl rfl ?_
    refine ev.post h (fun v M1 h => ?_)
    obtain ⟨w1, rfl, h⟩ := h
    show ev 50 85 [(0, .inr (.inr (some 20))), (1, .inl x1), (2, .inl x2), (3, .inl x3), (5, .inl x5)] [.inl w1] M1 _
    refine ev_lo (lo' := [(6, .inl w1), (0, .inr (.inr (some 20))), (1, .inl x1), (2, .inl x2), (3, .inl x3), (5, .inl x5)]) (st' := []) (pc' := 87) rfl rfl rfl rfl ?_
    refine ev_lo (lo' := [(6, .inl w1), (0, .inr (.inr (some 20))), (1, .inl x1), (2, .inl x2), (3, .inl x3), (5, .inl x5)]) (st' := [.inl x2]) (pc' := 88) rfl rfl rfl rfl ?_
    refine ev_lo (lo' := [(7, .inl x2), (6, .inl w1), (0, .inr (.inr (some 20))), (1, .inl x1), (2, .inl x2), (3, .inl x3), (5, .inl x5)]) (st' := []) (pc' := 90) rfl rfl rfl rfl ?_
    exact ev_pick [0, 1, 2, 3, 5, 6, 7] rfl rfl h
set_option maxRecDepth 10000 in
theorem b50_90 {x1 x2 x3 x5 x6 x7 : Int} {M : ev_M} {Q : Int → ev_M → Prop}
    (h : (x3 < x7 → (tm_iI (x5 + (-1)) ∧ (c50_70 x1 x2 x3 (x5 + (-1)) M Q))) ∧ (¬ (x3 < x7) → (c50_103 x1 x2 x3 x5 x6 x7 0 x7 M Q))) : c50_90 x1 x2 x3 x5 x6 x7 M Q := by
  unfold c50_90
  refine ev_lo (lo' := [(0, .inr (.inr (some 20))), (1, .inl x1), (2, .inl x2), (3, .inl x3), (5, .inl x5), (6, .inl x6), (7, .inl x7)]) (st' := [.inl x7]) (pc' := 92) rfl rfl rfl rfl ?_
  refine ev_lo (lo' := [(0, .inr (.inr (some 20))), (1, .inl x1), (2, .inl x2), (3, .inl x3), (5, .inl x5), (6, .inl x6), (7, .inl x7)]) (st' := [.inl x3, .inl x7]) (pc' := 93) rfl rfl rfl rfl ?_
  refine ev_icmp (pc' := 229) (pc2 := 96) rfl (by decide) rfl rfl (fun hc => ?_) (fun hc => ?_)
  · replace h := h.1 (of_decide_eq_true hc)
    obtain ⟨hs, h⟩ := h
    refine ev_iinc (lo' := [(5, .inl (x5 + (-1))), (0, .inr (.inr (some 20))), (1, .inl x1), (2, .inl x2), (3, .inl x3), (6, .inl x6), (7, .inl x7)]) (pc' := 232) rfl rfl (by decide) (tm_add hs) rfl rfl ?_
    refine ev_br (pc' := 70) (st' := []) rfl rfl rfl ?_
    exact ev_pick [0, 1, 2, 3, 5] rfl rfl h
  · replace h := h.2 (of_decide_eq_false hc)
    refine ev_pu (st' := [.inr (.inl 0)]) (pc' := 97) rfl rfl rfl rfl ?_
    refine ev_lo (lo' := [(8, .inr (.inl 0)), (0, .inr (.inr (some 20))), (1, .inl x1), (2, .inl x2), (3, .inl x3), (5, .inl x5), (6, .inl x6), (7, .inl x7)]) (st' := []) (pc' := 99) rfl rfl rfl rfl ?_
    refine ev_lo (lo' := [(8, .inr (.inl 0)), (0, .inr (.inr (some 20))), (1, .inl x1), (2, .inl x2), (3, .inl x3), (5, .inl x5), (6, .inl x6), (7, .inl x7)]) (st' := [.inl x7]) (pc' := 101) rfl rfl rfl rfl ?_
    refine ev_lo (lo' := [(10, .inl x7), (8, .inr (.inl 0)), (0, .inr (.inr (some 20))), (1, .inl x1), (2, .inl x2), (3, .inl x3), (5, .inl x5), (6, .inl x6), (7, .inl x7)]) (st' := []) (pc' := 103) rfl rfl rfl rfl ?_
    exact ev_pick [0, 1, 2, 3, 5, 6, 7, 8, 10] rfl rfl h
set_option maxRecDepth 10000 in
theorem b50_103 {x1 x2 x3 x5 x6 x7 x8 x10 : Int} {M : ev_M} {Q : Int → ev_M → Prop}
    (h : (x3 < x10 → (tm_iI (x5 * 11) ∧ (tm_iI ((x5 * 11) + x7) ∧ ((0 ≤ ((x5 * 11) + x7) ∧ ((x5 * 11) + x7) < 55) ∧ (tm_iI (x7 + 1) ∧ (c50_90 x1 x2 x3 x5 x6 (x7 + 1) (ev_sA M 23 ((x5 * 11) + x7).toNat x8) Q)))))) ∧ (¬ (x3 < x10) → (m46 x6 x7 x10 M (fun w1 M1 => tm_iI (x5 + 1) ∧ (tm_iI ((x5 + 1) * 11) ∧ (tm_iI (((x5 + 1) * 11) + x10) ∧ ((0 ≤ w1 ∧ w1 < 1210) ∧ ((0 ≤ (((x5 + 1) * 11) + x10) ∧ (((x5 + 1) * 11) + x10) < 55) ∧ (tm_iL ((aT_count M1 (w1).toNat) * (aT_rest M1 (((x5 + 1) * 11) + x10).toNat)) ∧ ((¬ x8 = 0 → (c50_192 x1 x2 x3 x5 x6 x7 x8 x10 ((aT_count M1 (w1).toNat) * (aT_rest M1 (((x5 + 1) * 11) + x10).toNat)) M1 Q)) ∧ (¬ (¬ x8 = 0) → ((((aT_count M1 (w1).toNat) * (aT_rest M1 (((x5 + 1) * 11) + x10).toNat)) ≤ 0 → (c50_192 x1 x2 x3 x5 x6 x7 x8 x10 ((aT_count M1 (w1).toNat) * (aT_rest M1 (((x5 + 1) * 11) + x10).toNat)) M1 Q)) ∧ (¬ (((aT_count M1 (w1).toNat) * (aT_rest M1 (((x5 + 1) * 11) + x10).toNat)) ≤ 0) → (tm_iI (x5 * 11) ∧ (tm_iI ((x5 * 11) + x7) ∧ ((0 ≤ w1 ∧ w1 < 1210) ∧ ((0 ≤ (((x5 + 1) * 11) + x10) ∧ (((x5 + 1) * 11) + x10) < 55) ∧ (tm_iI ((aT_firstLength M1 (w1).toNat) + (aT_firstRest M1 (((x5 + 1) * 11) + x10).toNat)) ∧ ((0 ≤ ((x5 * 11) + x7) ∧ ((x5 * 11) + x7) < 55) ∧ (c50_192 x1 x2 x3 x5 x6 x7 x8 x10 ((aT_count M1 (w1).toNat) * (aT_rest M1 (((x5 + 1) * 11) + x10).toNat)) (ev_sA M1 24 ((x5 * 11) + x7).toNat ((aT_firstLength M1 (w1).toNat) + (aT_firstRest M1 (((x5 + 1) * 11) + x10).toNat))) Q)))))))))))))))))))) : c50_103 x1 x2 x3 x5 x6 x7 x8 x10 M Q := by
  unfold c50_103
  refine ev_lo (lo' := [(0, .inr (.inr (some 20))), (1, .inl x1), (2, .inl x2), (3, .inl x3), (5, .inl x5), (6, .inl x6), (7, .inl x7), (8, .inr (.inl x8)), (10, .inl x10)]) (st' := [.inl x10]) (pc' := 105) rfl rfl rfl rfl ?_
  refine ev_lo (lo' := [(0, .inr (.inr (some 20))), (1, .inl x1), (2, .inl x2), (3, .inl x3), (5, .inl x5), (6, .inl x6), (7, .inl x7), (8, .inr (.inl x8)), (10, .inl x10)]) (st' := [.inl x3, .inl x10]) (pc' := 106) rfl rfl rfl rfl ?_
  refine ev_icmp (pc' := 208) (pc2 := 109) rfl (by decide) rfl rfl (fun hc => ?_) (fun hc => ?_)
  · replace h := h.1 (of_decide_eq_true hc)
    refine ev_lo (lo' := [(0, .inr (.inr (some 20))), (1, .inl x1), (2, .inl x2), (3, .inl x3), (5, .inl x5), (6, .inl x6), (7, .inl x7), (8, .inr (.inl x8)), (10, .inl x10)]) (st' := [.inr (.inr (some 20))]) (pc' := 209) rfl rfl rfl rfl ?_
    refine ev_get (v := .inr (.inr (some 23))) (pc' := 212) rfl rfl rfl rfl ?_
    refine ev_lo (lo' := [(0, .inr (.inr (some 20))), (1, .inl x1), (2, .inl x2), (3, .inl x3), (5, .inl x5), (6, .inl x6), (7, .inl x7), (8, .inr (.inl x8)), (10, .inl x10)]) (st' := [.inl x5, .inr (.inr (some 23))]) (pc' := 214) rfl rfl rfl rfl ?_
    refine ev_pu (st' := [.inl 11, .inl x5, .inr (.inr (some 23))]) (pc' := 216) rfl rfl rfl rfl ?_
    obtain ⟨hs, h⟩ := h
    refine ev_ii (f := fun a b => a * b) (pc' := 217) rfl rfl (fun _ => rfl) (tm_mul hs) rfl ?_
    refine ev_lo (lo' := [(0, .inr (.inr (some 20))), (1, .inl x1), (2, .inl x2), (3, .inl x3), (5, .inl x5), (6, .inl x6), (7, .inl x7), (8, .inr (.inl x8)), (10, .inl x10)]) (st' := [.inl x7, .inl (x5 * 11), .inr (.inr (some 23))]) (pc' := 219) rfl rfl rfl rfl ?_
    obtain ⟨hs, h⟩ := h
    refine ev_ii (f := fun a b => a + b) (pc' := 220) rfl rfl (fun _ => rfl) (tm_add hs) rfl ?_
    refine ev_lo (lo' := [(0, .inr (.inr (some 20))), (1, .inl x1), (2, .inl x2), (3, .inl x3), (5, .inl x5), (6, .inl x6), (7, .inl x7), (8, .inr (.inl x8)), (10, .inl x10)]) (st' := [.inr (.inl x8), .inl ((x5 * 11) + x7), .inr (.inr (some 23))]) (pc' := 222) rfl rfl rfl rfl ?_
    obtain ⟨hs0, h⟩ := h
    refine ev_last (n := 55) (f := aT_rest M) (M' := ev_sA M 23 ((x5 * 11) + x7).toNat x8) (pc' := 223) rfl rfl hs0 (hp_a23 _ _ _) rfl ?_
    obtain ⟨hs, h⟩ := h
    refine ev_iinc (lo' := [(7, .inl (x7 + 1)), (0, .inr (.inr (some 20))), (1, .inl x1), (2, .inl x2), (3, .inl x3), (5, .inl x5), (6, .inl x6), (8, .inr (.inl x8)), (10, .inl x10)]) (pc' := 226) rfl rfl (by decide) (tm_add hs) rfl rfl ?_
    refine ev_br (pc' := 90) (st' := []) rfl rfl rfl ?_
    exact ev_pick [0, 1, 2, 3, 5, 6, 7] rfl rfl h
  · replace h := h.2 (of_decide_eq_false hc)
    refine ev_lo (lo' := [(0, .inr (.inr (some 20))), (1, .inl x1), (2, .inl x2), (3, .inl x3), (5, .inl x5), (6, .inl x6), (7, .inl x7), (8, .inr (.inl x8)), (10, .inl x10)]) (st' := [.inl x6]) (pc' := 111) rfl rfl rfl rfl ?_
    refine ev_lo (lo' := [(0, .inr (.inr (some 20))), (1, .inl x1), (2, .inl x2), (3, .inl x3), (5, .inl x5), (6, .inl x6), (7, .inl x7), (8, .inr (.inl x8)), (10, .inl x10)]) (st' := [.inl x7, .inl x6]) (pc' := 113) rfl rfl rfl rfl ?_
    refine ev_lo (lo' := [(0, .inr (.inr (some 20))), (1, .inl x1), (2, .inl x2), (3, .inl x3), (5, .inl x5), (6, .inl x6), (7, .inl x7), (8, .inr (.inl x8)), (10, .inl x10)]) (st' := [.inl x10, .inl x7, .inl x6]) (pc' := 115) rfl rfl rfl rfl ?_
    refine ev_call (as := [.inl x6, .inl x7, .inl x10]) (r := []) (pc' := 118) rfl rfl (Nat.le_of_ble_eq_true rfl) (Nat.le_of_ble_eq_true rfl) ⟨rfl, rfl⟩ (Nat.le_of_ble_eq_true rfl) rfl rfl rfl rfl ?_
    refine ev.post h (fun v M1 h => ?_)
    obtain ⟨w1, rfl, h⟩ := h
    show ev 50 118 [(0, .inr (.inr (some 20))), (1, .inl x1), (2, .inl x2), (3, .inl x3), (5, .inl x5), (6, .inl x6), (7, .inl x7), (8, .inr (.inl x8)), (10, .inl x10)] [.inl w1] M1 _
    refine ev_lo (lo' := [(11, .inl w1), (0, .inr (.inr (some 20))), (1, .inl x1), (2, .inl x2), (3, .inl x3), (5, .inl x5), (6, .inl x6), (7, .inl x7), (8, .inr (.inl x8)), (10, .inl x10)]) (st' := []) (pc' := 120) rfl rfl rfl rfl ?_
    refine ev_lo (lo' := [(11, .inl w1), (0, .inr (.inr (some 20))), (1, .inl x1), (2, .inl x2), (3, .inl x3), (5, .inl x5), (6, .inl x6), (7, .inl x7), (8, .inr (.inl x8)), (10, .inl x10)]) (st' := [.inl x5]) (pc' := 122) rfl rfl rfl rfl ?_
    refine ev_pu (st' := [.inl 1, .inl x5]) (pc' := 123) rfl rfl rfl rfl ?_
    obtain ⟨hs, h⟩ := h
    refine ev_ii (f := fun a b => a + b) (pc' := 124) rfl rfl (fun _ => rfl) (tm_add hs) rfl ?_
    refine ev_pu (st' := [.inl 11, .inl (x5 + 1)]) (pc' := 126) rfl rfl rfl rfl ?_
    obtain ⟨hs, h⟩ := h
    refine ev_ii (f := fun a b => a * b) (pc' := 127) rfl rfl (fun _ => rfl) (tm_mul hs) rfl ?_
    refine ev_lo (lo' := [(11, .inl w1), (0, .inr (.inr (some 20))), (1, .inl x1), (2, .inl x2), (3, .inl x3), (5, .inl x5), (6, .inl x6), (7, .inl x7), (8, .inr (.inl x8)), (10, .inl x10)]) (st' := [.inl x10, .inl ((x5 + 1) * 11)]) (pc' := 129) rfl rfl rfl rfl ?_
    obtain ⟨hs, h⟩ := h
    refine ev_ii (f := fun a b => a + b) (pc' := 130) rfl rfl (fun _ => rfl) (tm_add hs) rfl ?_
    refine ev_lo (lo' := [(12, .inl (((x5 + 1) * 11) + x10)), (11, .inl w1), (0, .inr (.inr (some 20))), (1, .inl x1), (2, .inl x2), (3, .inl x3), (5, .inl x5), (6, .inl x6), (7, .inl x7), (8, .inr (.inl x8)), (10, .inl x10)]) (st' := []) (pc' := 132) rfl rfl rfl rfl ?_
    refine ev_lo (lo' := [(12, .inl (((x5 + 1) * 11) + x10)), (11, .inl w1), (0, .inr (.inr (some 20))), (1, .inl x1), (2, .inl x2), (3, .inl x3), (5, .inl x5), (6, .inl x6), (7, .inl x7), (8, .inr (.inl x8)), (10, .inl x10)]) (st' := [.inr (.inr (some 20))]) (pc' := 133) rfl rfl rfl rfl ?_
    refine ev_get (v := .inr (.inr (some 21))) (pc' := 136) rfl rfl rfl rfl ?_
    refine ev_lo (lo' := [(12, .inl (((x5 + 1) * 11) + x10)), (11, .inl w1), (0, .inr (.inr (some 20))), (1, .inl x1), (2, .inl x2), (3, .inl x3), (5, .inl x5), (6, .inl x6), (7, .inl x7), (8, .inr (.inl x8)), (10, .inl x10)]) (st' := [.inl w1, .inr (.inr (some 21))]) (pc' := 138) rfl rfl rfl rfl ?_
    obtain ⟨hs0, h⟩ := h
    refine ev_ald (t := 0) (n := 1210) (f := aT_count M1) (w := fun x => .inl x) (pc' := 139) rfl rfl (fun _ _ => rfl) rfl hs0 rfl ?_
    refine ev_pu (st' := [.inr (.inl (aT_count M1 (w1).toNat))]) (pc' := 140) rfl rfl rfl rfl ?_
    refine ev_lo (lo' := [(12, .inl (((x5 + 1) * 11) + x10)), (11, .inl w1), (0, .inr (.inr (some 20))), (1, .inl x1), (2, .inl x2), (3, .inl x3), (5, .inl x5), (6, .inl x6), (7, .inl x7), (8, .inr (.inl x8)), (10, .inl x10)]) (st' := [.inr (.inr (some 20)), .inr (.inl (aT_count M1 (w1).toNat))]) (pc' := 141) rfl rfl rfl rfl ?_
    refine ev_get (v := .inr (.inr (some 23))) (pc' := 144) rfl rfl rfl rfl ?_
    refine ev_lo (lo' := [(12, .inl (((x5 + 1) * 11) + x10)), (11, .inl w1), (0, .inr (.inr (some 20))), (1, .inl x1), (2, .inl x2), (3, .inl x3), (5, .inl x5), (6, .inl x6), (7, .inl x7), (8, .inr (.inl x8)), (10, .inl x10)]) (st' := [.inl (((x5 + 1) * 11) + x10), .inr (.inr (some 23)), .inr (.inl (aT_count M1 (w1).toNat))]) (pc' := 146) rfl rfl rfl rfl ?_
    obtain ⟨hs0, h⟩ := h
    refine ev_ald (t := 1) (n := 55) (f := aT_rest M1) (w := fun x => .inr (.inl x)) (pc' := 147) rfl rfl (fun _ _ => rfl) rfl hs0 rfl ?_
    obtain ⟨hs, h⟩ := h
    refine ev_ll (f := fun a b => a * b) (pc' := 148) rfl rfl (fun _ => rfl) (tm_lmul hs) rfl ?_
    refine ev_lo (lo' := [(13, .inr (.inl ((aT_count M1 (w1).toNat) * (aT_rest M1 (((x5 + 1) * 11) + x10).toNat)))), (12, .inl (((x5 + 1) * 11) + x10)), (11, .inl w1), (0, .inr (.inr (some 20))), (1, .inl x1), (2, .inl x2), (3, .inl x3), (5, .inl x5), (6, .inl x6), (7, .inl x7), (8, .inr (.inl x8)), (10, .inl x10)]) (st' := []) (pc' := 150) rfl rfl rfl rfl ?_
    refine ev_lo (lo' := [(13, .inr (.inl ((aT_count M1 (w1).toNat) * (aT_rest M1 (((x5 + 1) * 11) + x10).toNat)))), (12, .inl (((x5 + 1) * 11) + x10)), (11, .inl w1), (0, .inr (.inr (some 20))), (1, .inl x1), (2, .inl x2), (3, .inl x3), (5, .inl x5), (6, .inl x6), (7, .inl x7), (8, .inr (.inl x8)), (10, .inl x10)]) (st' := [.inr (.inl x8)]) (pc' := 152) rfl rfl rfl rfl ?_
    refine ev_pu (st' := [.inr (.inl 0), .inr (.inl x8)]) (pc' := 153) rfl rfl rfl rfl ?_
    refine ev_lcmp (pc1 := 154) (pc' := 192) (pc2 := 157) rfl rfl rfl (by decide) rfl rfl (fun hc => ?_) (fun hc => ?_)
    · replace h := h.1 (of_decide_eq_true hc)
      exact ev_pick [0, 1, 2, 3, 5, 6, 7, 8, 10, 13] rfl rfl h
    · replace h := h.2 (of_decide_eq_false hc)
      refine ev_lo (lo' := [(13, .inr (.inl ((aT_count M1 (w1).toNat) * (aT_rest M1 (((x5 + 1) * 11) + x10).toNat)))), (12, .inl (((x5 + 1) * 11) + x10)), (11, .inl w1), (0, .inr (.inr (some 20))), (1, .inl x1), (2, .inl x2), (3, .inl x3), (5, .inl x5), (6, .inl x6), (7, .inl x7), (8, .inr (.inl x8)), (10, .inl x10)]) (st' := [.inr (.inl ((aT_count M1 (w1).toNat) * (aT_rest M1 (((x5 + 1) * 11) + x10).toNat)))]) (pc' := 159) rfl rfl rfl rfl ?_
      refine ev_pu (st' := [.inr (.inl 0), .inr (.inl ((aT_count M1 (w1).toNat) * (aT_rest M1 (((x5 + 1) * 11) + x10).toNat)))]) (pc' := 160) rfl rfl rfl rfl ?_
      refine ev_lcmp (pc1 := 161) (pc' := 192) (pc2 := 164) rfl rfl rfl (by decide) rfl rfl (fun hc => ?_) (fun hc => ?_)
      · replace h := h.1 (of_decide_eq_true hc)
        exact ev_pick [0, 1, 2, 3, 5, 6, 7, 8, 10, 13] rfl rfl h
      · replace h := h.2 (of_decide_eq_false hc)
        refine ev_lo (lo' := [(13, .inr (.inl ((aT_count M1 (w1).toNat) * (aT_rest M1 (((x5 + 1) * 11) + x10).toNat)))), (12, .inl (((x5 + 1) * 11) + x10)), (11, .inl w1), (0, .inr (.inr (some 20))), (1, .inl x1), (2, .inl x2), (3, .inl x3), (5, .inl x5), (6, .inl x6), (7, .inl x7), (8, .inr (.inl x8)), (10, .inl x10)]) (st' := [.inr (.inr (some 20))]) (pc' := 165) rfl rfl rfl rfl ?_
        refine ev_get (v := .inr (.inr (some 24))) (pc' := 168) rfl rfl rfl rfl ?_
        refine ev_lo (lo' := [(13, .inr (.inl ((aT_count M1 (w1).toNat) * (aT_rest M1 (((x5 + 1) * 11) + x10).toNat)))), (12, .inl (((x5 + 1) * 11) + x10)), (11, .inl w1), (0, .inr (.inr (some 20))), (1, .inl x1), (2, .inl x2), (3, .inl x3), (5, .inl x5), (6, .inl x6), (7, .inl x7), (8, .inr (.inl x8)), (10, .inl x10)]) (st' := [.inl x5, .inr (.inr (some 24))]) (pc' := 170) rfl rfl rfl rfl ?_
        refine ev_pu (st' := [.inl 11, .inl x5, .inr (.inr (some 24))]) (pc' := 172) rfl rfl rfl rfl ?_
        obtain ⟨hs, h⟩ := h
        refine ev_ii (f := fun a b => a * b) (pc' := 173) rfl rfl (fun _ => rfl) (tm_mul hs) rfl ?_
        refine ev_lo (lo' := [(13, .inr (.inl ((aT_count M1 (w1).toNat) * (aT_rest M1 (((x5 + 1) * 11) + x10).toNat)))), (12, .inl (((x5 + 1) * 11) + x10)), (11, .inl w1), (0, .inr (.inr (some 20))), (1, .inl x1), (2, .inl x2), (3, .inl x3), (5, .inl x5), (6, .inl x6), (7, .inl x7), (8, .inr (.inl x8)), (10, .inl x10)]) (st' := [.inl x7, .inl (x5 * 11), .inr (.inr (some 24))]) (pc' := 175) rfl rfl rfl rfl ?_
        obtain ⟨hs, h⟩ := h
        refine ev_ii (f := fun a b => a + b) (pc' := 176) rfl rfl (fun _ => rfl) (tm_add hs) rfl ?_
        refine ev_lo (lo' := [(13, .inr (.inl ((aT_count M1 (w1).toNat) * (aT_rest M1 (((x5 + 1) * 11) + x10).toNat)))), (12, .inl (((x5 + 1) * 11) + x10)), (11, .inl w1), (0, .inr (.inr (some 20))), (1, .inl x1), (2, .inl x2), (3, .inl x3), (5, .inl x5), (6, .inl x6), (7, .inl x7), (8, .inr (.inl x8)), (10, .inl x10)]) (st' := [.inr (.inr (some 20)), .inl ((x5 * 11) + x7), .inr (.inr (some 24))]) (pc' := 177) rfl rfl rfl rfl ?_
        refine ev_get (v := .inr (.inr (some 22))) (pc' := 180) rfl rfl rfl rfl ?_
        refine ev_lo (lo' := [(13, .inr (.inl ((aT_count M1 (w1).toNat) * (aT_rest M1 (((x5 + 1) * 11) + x10).toNat)))), (12, .inl (((x5 + 1) * 11) + x10)), (11, .inl w1), (0, .inr (.inr (some 20))), (1, .inl x1), (2, .inl x2), (3, .inl x3), (5, .inl x5), (6, .inl x6), (7, .inl x7), (8, .inr (.inl x8)), (10, .inl x10)]) (st' := [.inl w1, .inr (.inr (some 22)), .inl ((x5 * 11) + x7), .inr (.inr (some 24))]) (pc' := 182) rfl rfl rfl rfl ?_
        obtain ⟨hs0, h⟩ := h
        refine ev_ald (t := 0) (n := 1210) (f := aT_firstLength M1) (w := fun x => .inl x) (pc' := 183) rfl rfl (fun _ _ => rfl) rfl hs0 rfl ?_
        refine ev_lo (lo' := [(13, .inr (.inl ((aT_count M1 (w1).toNat) * (aT_rest M1 (((x5 + 1) * 11) + x10).toNat)))), (12, .inl (((x5 + 1) * 11) + x10)), (11, .inl w1), (0, .inr (.inr (some 20))), (1, .inl x1), (2, .inl x2), (3, .inl x3), (5, .inl x5), (6, .inl x6), (7, .inl x7), (8, .inr (.inl x8)), (10, .inl x10)]) (st' := [.inr (.inr (some 20)), .inl (aT_firstLength M1 (w1).toNat), .inl ((x5 * 11) + x7), .inr (.inr (some 24))]) (pc' := 184) rfl rfl rfl rfl ?_
        refine ev_get (v := .inr (.inr (some 24))) (pc' := 187) rfl rfl rfl rfl ?_
        refine ev_lo (lo' := [(13, .inr (.inl ((aT_count M1 (w1).toNat) * (aT_rest M1 (((x5 + 1) * 11) + x10).toNat)))), (12, .inl (((x5 + 1) * 11) + x10)), (11, .inl w1), (0, .inr (.inr (some 20))), (1, .inl x1), (2, .inl x2), (3, .inl x3), (5, .inl x5), (6, .inl x6), (7, .inl x7), (8, .inr (.inl x8)), (10, .inl x10)]) (st' := [.inl (((x5 + 1) * 11) + x10), .inr (.inr (some 24)), .inl (aT_firstLength M1 (w1).toNat), .inl ((x5 * 11) + x7), .inr (.inr (some 24))]) (pc' := 189) rfl rfl rfl rfl ?_
        obtain ⟨hs0, h⟩ := h
        refine ev_ald (t := 0) (n := 55) (f := aT_firstRest M1) (w := fun x => .inl x) (pc' := 190) rfl rfl (fun _ _ => rfl) rfl hs0 rfl ?_
        obtain ⟨hs, h⟩ := h
        refine ev_ii (f := fun a b => a + b) (pc' := 191) rfl rfl (fun _ => rfl) (tm_add hs) rfl ?_
        obtain ⟨hs0, h⟩ := h
        refine ev_iast (n := 55) (f := aT_firstRest M1) (M' := ev_sA M1 24 ((x5 * 11) + x7).toNat ((aT_firstLength M1 (w1).toNat) + (aT_firstRest M1 (((x5 + 1) * 11) + x10).toNat))) (pc' := 192) rfl rfl hs0 (hp_a24 _ _ _) rfl ?_
        exact ev_pick [0, 1, 2, 3, 5, 6, 7, 8, 10, 13] rfl rfl h
set_option maxRecDepth 10000 in
theorem b50_192 {x1 x2 x3 x5 x6 x7 x8 x10 x13 : Int} {M : ev_M} {Q : Int → ev_M → Prop}
    (h : tm_iL (x8 + x13) ∧ (m49 (x8 + x13) M (fun w1 M1 => tm_iI (x10 + 1) ∧ (c50_103 x1 x2 x3 x5 x6 x7 w1 (x10 + 1) M1 Q)))) : c50_192 x1 x2 x3 x5 x6 x7 x8 x10 x13 M Q := by
  unfold c50_192
  refine ev_lo (lo' := [(0, .inr (.inr (some 20))), (1, .inl x1), (2, .inl x2), (3, .inl x3), (5, .inl x5), (6, .inl x6), (7, .inl x7), (8, .inr (.inl x8)), (10, .inl x10), (13, .inr (.inl x13))]) (st' := [.inr (.inl x8)]) (pc' := 194) rfl rfl rfl rfl ?_
  refine ev_lo (lo' := [(0, .inr (.inr (some 20))), (1, .inl x1), (2, .inl x2), (3, .inl x3), (5, .inl x5), (6, .inl x6), (7, .inl x7), (8, .inr (.inl x8)), (10, .inl x10), (13, .inr (.inl x13))]) (st' := [.inr (.inl x13), .inr (.inl x8)]) (pc' := 196) rfl rfl rfl rfl ?_
  obtain ⟨hs, h⟩ := h
  refine ev_ll (f := fun a b => a + b) (pc' := 197) rfl rfl (fun _ => rfl) (tm_ladd hs) rfl ?_
  refine ev_call (as := [.inr (.inl (x8 + x13))]) (r := []) (pc' := 200) rfl rfl (Nat.le_of_ble_eq_true rfl) (Nat.le_of_ble_eq_true rfl) ⟨rfl, rfl⟩ (Nat.le_of_ble_eq_true rfl) rfl rfl rfl rfl ?_
  refine ev.post h (fun v M1 h => ?_)
  obtain ⟨w1, rfl, h⟩ := h
  show ev 50 200 [(0, .inr (.inr (some 20))), (1, .inl x1), (2, .inl x2), (3, .inl x3), (5, .inl x5), (6, .inl x6), (7, .inl x7), (8, .inr (.inl x8)), (10, .inl x10), (13, .inr (.inl x13))] [.inr (.inl w1)] M1 _
  refine ev_lo (lo' := [(8, .inr (.inl w1)), (0, .inr (.inr (some 20))), (1, .inl x1), (2, .inl x2), (3, .inl x3), (5, .inl x5), (6, .inl x6), (7, .inl x7), (10, .inl x10), (13, .inr (.inl x13))]) (st' := []) (pc' := 202) rfl rfl rfl rfl ?_
  obtain ⟨hs, h⟩ := h
  refine ev_iinc (lo' := [(10, .inl (x10 + 1)), (8, .inr (.inl w1)), (0, .inr (.inr (some 20))), (1, .inl x1), (2, .inl x2), (3, .inl x3), (5, .inl x5), (6, .inl x6), (7, .inl x7), (13, .inr (.inl x13))]) (pc' := 205) rfl rfl (by decide) (tm_add hs) rfl rfl ?_
  refine ev_br (pc' := 103) (st' := []) rfl rfl rfl ?_
  exact ev_pick [0, 1, 2, 3, 5, 6, 7, 8, 10] rfl rfl h
/-! NulledForest$Forest.countNode(III)V -/
def m51 (x1 x2 x3 : Int) (M : ev_M) (Q : ev_M → Prop) : Prop := ev 51 0 [(0, .inr (.inr (some 20))), (1, .inl x1), (2, .inl x2), (3, .inl x3)] [] M (fun v M1 => v = none ∧ Q M1)
def c51_14 (x1 x2 x3 x4 x5 x7 : Int) (M : ev_M) (Q : ev_M → Prop) : Prop := ev 51 14 [(0, .inr (.inr (some 20))), (1, .inl x1), (2, .inl x2), (3, .inl x3), (4, .inl x4), (5, .inr (.inl x5)), (7, .inl x7)] [] M (fun v M1 => v = none ∧ Q M1)
def c51_52 (x1 x2 x3 x4 x5 x7 t0 : Int) (M : ev_M) (Q : ev_M → Prop) : Prop := ev 51 52 [(0, .inr (.inr (some 20))), (1, .inl x1), (2, .inl x2), (3, .inl x3), (4, .inl x4), (5, .inr (.inl x5)), (7, .inl x7)] [.inr (.inl t0)] M (fun v M1 => v = none ∧ Q M1)
def c51_83 (x1 x2 x3 x4 x5 x7 x8 : Int) (M : ev_M) (Q : ev_M → Prop) : Prop := ev 51 83 [(0, .inr (.inr (some 20))), (1, .inl x1), (2, .inl x2), (3, .inl x3), (4, .inl x4), (5, .inr (.inl x5)), (7, .inl x7), (8, .inr (.inl x8))] [] M (fun v M1 => v = none ∧ Q M1)
set_option maxRecDepth 10000 in
theorem b51 {x1 x2 x3 : Int} {M : ev_M} {Q : ev_M → Prop}
    (h : m46 x1 x2 x3 M (fun w1 M1 => c51_14 x1 x2 x3 w1 0 0 M1 Q)) : m51 x1 x2 x3 M Q := by
  unfold m51
  refine ev_lo (lo' := [(0, .inr (.inr (some 20))), (1, .inl x1), (2, .inl x2), (3, .inl x3)]) (st' := [.inl x1]) (pc' := 1) rfl rfl rfl rfl ?_
  refine ev_lo (lo' := [(0, .inr (.inr (some 20))), (1, .inl x1), (2, .inl x2), (3, .inl x3)]) (st' := [.inl x2, .inl x1]) (pc' := 2) rfl rfl rfl rfl ?_
  refine ev_lo (lo' := [(0, .inr (.inr (some 20))), (1, .inl x1), (2, .inl x2), (3, .inl x3)]) (st' := [.inl x3, .inl x2, .inl x1]) (pc' := 3) rfl rfl rfl rfl ?_
  refine ev_call (as := [.inl x1, .inl x2, .inl x3]) (r := []) (pc' := 6) rfl rfl (Nat.le_of_ble_eq_true rfl) (Nat.le_of_ble_eq_true rfl) ⟨rfl, rfl⟩ (Nat.le_of_ble_eq_true rfl) rfl rfl rfl rfl ?_
  refine ev.post h (fun v M1 h => ?_)
  obtain ⟨w1, rfl, h⟩ := h
  show ev 51 6 [(0, .inr (.inr (some 20))), (1, .inl x1), (2, .inl x2), (3, .inl x3)] [.inl w1] M1 _
  refine ev_lo (lo' := [(4, .inl w1), (0, .inr (.inr (some 20))), (1, .inl x1), (2, .inl x2), (3, .inl x3)]) (st' := []) (pc' := 8) rfl rfl rfl rfl ?_
  refine ev_pu (st' := [.inr (.inl 0)]) (pc' := 9) rfl rfl rfl rfl ?_
  refine ev_lo (lo' := [(5, .inr (.inl 0)), (4, .inl w1), (0, .inr (.inr (some 20))), (1, .inl x1), (2, .inl x2), (3, .inl x3)]) (st' := []) (pc' := 11) rfl rfl rfl rfl ?_
  refine ev_pu (st' := [.inl 0]) (pc' := 12) rfl rfl rfl rfl ?_
  refine ev_lo (lo' := [(7, .inl 0), (5, .inr (.inl 0)), (4, .inl w1), (0, .inr (.inr (some 20))), (1, .inl x1), (2, .inl x2), (3, .inl x3)]) (st' := []) (pc' := 14) rfl rfl rfl rfl ?_
  exact ev_pick [0, 1, 2, 3, 4, 5, 7] rfl rfl h
set_option maxRecDepth 10000 in
theorem b51_14 {x1 x2 x3 x4 x5 x7 : Int} {M : ev_M} {Q : ev_M → Prop}
    (h : ((sG_count M) ≤ x7 → (tm_iI x5 ∧ ((0 ≤ x4 ∧ x4 < 1210) ∧ (Q (ev_sA M 21 (x4).toNat x5))))) ∧ (¬ ((sG_count M) ≤ x7) → ((0 ≤ x7 ∧ x7 < 14) ∧ ((¬ (aG_left M (x7).toNat) = x1 → (c51_52 x1 x2 x3 x4 x5 x7 0 M Q)) ∧ (¬ (¬ (aG_left M (x7).toNat) = x1) → (m50 x7 x2 x3 M (fun w1 M1 => c51_52 x1 x2 x3 x4 x5 x7 w1 M1 Q))))))) : c51_14 x1 x2 x3 x4 x5 x7 M Q := by
  unfold c51_14
  refine ev_lo (lo' := [(0, .inr (.inr (some 20))), (1, .inl x1), (2, .inl x2), (3, .inl x3), (4, .inl x4), (5, .inr (.inl x5)), (7, .inl x7)]) (st' := [.inl x7]) (pc' := 16) rfl rfl rfl rfl ?_
  refine ev_lo (lo' := [(0, .inr (.inr (some 20))), (1, .inl x1), (2, .inl x2), (3, .inl x3), (4, .inl x4), (5, .inr (.inl x5)), (7, .inl x7)]) (st' := [.inr (.inr (some 20)), .inl x7]) (pc' := 17) rfl rfl rfl rfl ?_
  refine ev_get (v := .inr (.inr (some 1))) (pc' := 20) rfl rfl rfl rfl ?_
  refine ev_get (v := .inl (sG_count M)) (pc' := 23) rfl rfl rfl rfl ?_
  refine ev_icmp (pc' := 99) (pc2 := 26) rfl (by decide) rfl rfl (fun hc => ?_) (fun hc => ?_)
  · replace h := h.1 (of_decide_eq_true hc)
    refine ev_lo (lo' := [(0, .inr (.inr (some 20))), (1, .inl x1), (2, .inl x2), (3, .inl x3), (4, .inl x4), (5, .inr (.inl x5)), (7, .inl x7)]) (st' := [.inr (.inr (some 20))]) (pc' := 100) rfl rfl rfl rfl ?_
    refine ev_get (v := .inr (.inr (some 21))) (pc' := 103) rfl rfl rfl rfl ?_
    refine ev_lo (lo' := [(0, .inr (.inr (some 20))), (1, .inl x1), (2, .inl x2), (3, .inl x3), (4, .inl x4), (5, .inr (.inl x5)), (7, .inl x7)]) (st' := [.inl x4, .inr (.inr (some 21))]) (pc' := 105) rfl rfl rfl rfl ?_
    refine ev_lo (lo' := [(0, .inr (.inr (some 20))), (1, .inl x1), (2, .inl x2), (3, .inl x3), (4, .inl x4), (5, .inr (.inl x5)), (7, .inl x7)]) (st' := [.inr (.inl x5), .inl x4, .inr (.inr (some 21))]) (pc' := 107) rfl rfl rfl rfl ?_
    obtain ⟨hs, h⟩ := h
    refine ev_l2i (pc' := 108) rfl hs rfl ?_
    obtain ⟨hs0, h⟩ := h
    refine ev_iast (n := 1210) (f := aT_count M) (M' := ev_sA M 21 (x4).toNat x5) (pc' := 109) rfl rfl hs0 (hp_a21 _ _ _) rfl ?_
    exact ev_rt rfl rfl rfl ⟨rfl, h⟩
  · replace h := h.2 (of_decide_eq_false hc)
    refine ev_lo (lo' := [(0, .inr (.inr (some 20))), (1, .inl x1), (2, .inl x2), (3, .inl x3), (4, .inl x4), (5, .inr (.inl x5)), (7, .inl x7)]) (st' := [.inr (.inr (some 20))]) (pc' := 27) rfl rfl rfl rfl ?_
    refine ev_get (v := .inr (.inr (some 1))) (pc' := 30) rfl rfl rfl rfl ?_
    refine ev_get (v := .inr (.inr (some 2))) (pc' := 33) rfl rfl rfl rfl ?_
    refine ev_lo (lo' := [(0, .inr (.inr (some 20))), (1, .inl x1), (2, .inl x2), (3, .inl x3), (4, .inl x4), (5, .inr (.inl x5)), (7, .inl x7)]) (st' := [.inl x7, .inr (.inr (some 2))]) (pc' := 35) rfl rfl rfl rfl ?_
    obtain ⟨hs0, h⟩ := h
    refine ev_ald (t := 0) (n := 14) (f := aG_left M) (w := fun x => .inl x) (pc' := 36) rfl rfl (fun _ _ => rfl) rfl hs0 rfl ?_
    refine ev_lo (lo' := [(0, .inr (.inr (some 20))), (1, .inl x1), (2, .inl x2), (3, .inl x3), (4, .inl x4), (5, .inr (.inl x5)), (7, .inl x7)]) (st' := [.inl x1, .inl (aG_left M (x7).toNat)]) (pc' := 37) rfl rfl rfl rfl ?_
    refine ev_icmp (pc' := 51) (pc2 := 40) rfl (by decide) rfl rfl (fun hc => ?_) (fun hc => ?_)
    · replace h := h.1 (of_decide_eq_true hc)
      refine ev_pu (st' := [.inr (.inl 0)]) (pc' := 52) rfl rfl rfl rfl ?_
      exact ev_pick [0, 1, 2, 3, 4, 5, 7] rfl rfl h
    · replace h := h.2 (of_decide_eq_false hc)
      refine ev_lo (lo' := [(0, .inr (.inr (some 20))), (1, .inl x1), (2, .inl x2), (3, .inl x3), (4, .inl x4), (5, .inr (.inl x5)), (7, .inl x7)]) (st' := [.inr (.inr (some 20))]) (pc' := 41) rfl rfl rfl rfl ?_
      refine ev_lo (lo' := [(0, .inr (.inr (some 20))), (1, .inl x1), (2, .inl x2), (3, .inl x3), (4, .inl x4), (5, .inr (.inl x5)), (7, .inl x7)]) (st' := [.inl x7, .inr (.inr (some 20))]) (pc' := 43) rfl rfl rfl rfl ?_
      refine ev_lo (lo' := [(0, .inr (.inr (some 20))), (1, .inl x1), (2, .inl x2), (3, .inl x3), (4, .inl x4), (5, .inr (.inl x5)), (7, .inl x7)]) (st' := [.inl x2, .inl x7, .inr (.inr (some 20))]) (pc' := 44) rfl rfl rfl rfl ?_
      refine ev_lo (lo' := [(0, .inr (.inr (some 20))), (1, .inl x1), (2, .inl x2), (3, .inl x3), (4, .inl x4), (5, .inr (.inl x5)), (7, .inl x7)]) (st' := [.inl x3, .inl x2, .inl x7, .inr (.inr (some 20))]) (pc' := 45) rfl rfl rfl rfl ?_
      refine ev_call (as := [.inr (.inr (some 20)), .inl x7, .inl x2, .inl x3]) (r := []) (pc' := 48) rfl rfl (Nat.le_of_ble_eq_true rfl) (Nat.le_of_ble_eq_true rfl) ⟨rfl, rfl⟩ (Nat.le_of_ble_eq_true rfl) rfl rfl rfl rfl ?_
      refine ev.post h (fun v M1 h => ?_)
      obtain ⟨w1, rfl, h⟩ := h
      show ev 51 48 [(0, .inr (.inr (some 20))), (1, .inl x1), (2, .inl x2), (3, .inl x3), (4, .inl x4), (5, .inr (.inl x5)), (7, .inl x7)] [.inr (.inl w1)] M1 _
      refine ev_br (pc' := 52) (st' := [.inr (.inl w1)]) rfl rfl rfl ?_
      exact ev_pick [0, 1, 2, 3, 4, 5, 7] rfl rfl h
set_option maxRecDepth 10000 in
theorem b51_52 {x1 x2 x3 x4 x5 x7 t0 : Int} {M : ev_M} {Q : ev_M → Prop}
    (h : (¬ x5 = 0 → (c51_83 x1 x2 x3 x4 x5 x7 t0 M Q)) ∧ (¬ (¬ x5 = 0) → ((t0 ≤ 0 → (c51_83 x1 x2 x3 x4 x5 x7 t0 M Q)) ∧ (¬ (t0 ≤ 0) → ((0 ≤ x2 ∧ x2 < 55) ∧ (tm_iI (1 + (aT_firstRest M (x2).toNat)) ∧ ((0 ≤ x4 ∧ x4 < 1210) ∧ (c51_83 x1 x2 x3 x4 x5 x7 t0 (ev_sA M 22 (x4).toNat (1 + (aT_firstRest M (x2).toNat))) Q)))))))) : c51_52 x1 x2 x3 x4 x5 x7 t0 M Q := by
  unfold c51_52
  refine ev_lo (lo' := [(8, .inr (.inl t0)), (0, .inr (.inr (some 20))), (1, .inl x1), (2, .inl x2), (3, .inl x3), (4, .inl x4), (5, .inr (.inl x5)), (7, .inl x7)]) (st' := []) (pc' := 54) rfl rfl rfl rfl ?_
  refine ev_lo (lo' := [(8, .inr (.inl t0)), (0, .inr (.inr (some 20))), (1, .inl x1), (2, .inl x2), (3, .inl x3), (4, .inl x4), (5, .inr (.inl x5)), (7, .inl x7)]) (st' := [.inr (.inl x5)]) (pc' := 56) rfl rfl rfl rfl ?_
  refine ev_pu (st' := [.inr (.inl 0), .inr (.inl x5)]) (pc' := 57) rfl rfl rfl rfl ?_
  refine ev_lcmp (pc1 := 58) (pc' := 83) (pc2 := 61) rfl rfl rfl (by decide) rfl rfl (fun hc => ?_) (fun hc => ?_)
  · replace h := h.1 (of_decide_eq_true hc)
    exact ev_pick [0, 1, 2, 3, 4, 5, 7, 8] rfl rfl h
  · replace h := h.2 (of_decide_eq_false hc)
    refine ev_lo (lo' := [(8, .inr (.inl t0)), (0, .inr (.inr (some 20))), (1, .inl x1), (2, .inl x2), (3, .inl x3), (4, .inl x4), (5, .inr (.inl x5)), (7, .inl x7)]) (st' := [.inr (.inl t0)]) (pc' := 63) rfl rfl rfl rfl ?_
    refine ev_pu (st' := [.inr (.inl 0), .inr (.inl t0)]) (pc' := 64) rfl rfl rfl rfl ?_
    refine ev_lcmp (pc1 := 65) (pc' := 83) (pc2 := 68) rfl rfl rfl (by decide) rfl rfl (fun hc => ?_) (fun hc => ?_)
    · replace h := h.1 (of_decide_eq_true hc)
      exact ev_pick [0, 1, 2, 3, 4, 5, 7, 8] rfl rfl h
    · replace h := h.2 (of_decide_eq_false hc)
      refine ev_lo (lo' := [(8, .inr (.inl t0)), (0, .inr (.inr (some 20))), (1, .inl x1), (2, .inl x2), (3, .inl x3), (4, .inl x4), (5, .inr (.inl x5)), (7, .inl x7)]) (st' := [.inr (.inr (some 20))]) (pc' := 69) rfl rfl rfl rfl ?_
      refine ev_get (v := .inr (.inr (some 22))) (pc' := 72) rfl rfl rfl rfl ?_
      refine ev_lo (lo' := [(8, .inr (.inl t0)), (0, .inr (.inr (some 20))), (1, .inl x1), (2, .inl x2), (3, .inl x3), (4, .inl x4), (5, .inr (.inl x5)), (7, .inl x7)]) (st' := [.inl x4, .inr (.inr (some 22))]) (pc' := 74) rfl rfl rfl rfl ?_
      refine ev_pu (st' := [.inl 1, .inl x4, .inr (.inr (some 22))]) (pc' := 75) rfl rfl rfl rfl ?_
      refine ev_lo (lo' := [(8, .inr (.inl t0)), (0, .inr (.inr (some 20))), (1, .inl x1), (2, .inl x2), (3, .inl x3), (4, .inl x4), (5, .inr (.inl x5)), (7, .inl x7)]) (st' := [.inr (.inr (some 20)), .inl 1, .inl x4, .inr (.inr (some 22))]) (pc' := 76) rfl rfl rfl rfl ?_
      refine ev_get (v := .inr (.inr (some 24))) (pc' := 79) rfl rfl rfl rfl ?_
      refine ev_lo (lo' := [(8, .inr (.inl t0)), (0, .inr (.inr (some 20))), (1, .inl x1), (2, .inl x2), (3, .inl x3), (4, .inl x4), (5, .inr (.inl x5)), (7, .inl x7)]) (st' := [.inl x2, .inr (.inr (some 24)), .inl 1, .inl x4, .inr (.inr (some 22))]) (pc' := 80) rfl rfl rfl rfl ?_
      obtain ⟨hs0, h⟩ := h
      refine ev_ald (t := 0) (n := 55) (f := aT_firstRest M) (w := fun x => .inl x) (pc' := 81) rfl rfl (fun _ _ => rfl) rfl hs0 rfl ?_
      obtain ⟨hs, h⟩ := h
      refine ev_ii (f := fun a b => a + b) (pc' := 82) rfl rfl (fun _ => rfl) (tm_add hs) rfl ?_
      obtain ⟨hs0, h⟩ := h
      refine ev_iast (n := 1210) (f := aT_firstLength M) (M' := ev_sA M 22 (x4).toNat (1 + (aT_firstRest M (x2).toNat))) (pc' := 83) rfl rfl hs0 (hp_a22 _ _ _) rfl ?_
      exact ev_pick [0, 1, 2, 3, 4, 5, 7, 8] rfl rfl h
set_option maxRecDepth 10000 in
theorem b51_83 {x1 x2 x3 x4 x5 x7 x8 : Int} {M : ev_M} {Q : ev_M → Prop}
    (h : tm_iL (x5 + x8) ∧ (m49 (x5 + x8) M (fun w1 M1 => tm_iI (x7 + 1) ∧ (c51_14 x1 x2 x3 x4 w1 (x7 + 1) M1 Q)))) : c51_83 x1 x2 x3 x4 x5 x7 x8 M Q := by
  unfold c51_83
  refine ev_lo (lo' := [(0, .inr (.inr (some 20))), (1, .inl x1), (2, .inl x2), (3, .inl x3), (4, .inl x4), (5, .inr (.inl x5)), (7, .inl x7), (8, .inr (.inl x8))]) (st' := [.inr (.inl x5)]) (pc' := 85) rfl rfl rfl rfl ?_
  refine ev_lo (lo' := [(0, .inr (.inr (some 20))), (1, .inl x1), (2, .inl x2), (3, .inl x3), (4, .inl x4), (5, .inr (.inl x5)), (7, .inl x7), (8, .inr (.inl x8))]) (st' := [.inr (.inl x8), .inr (.inl x5)]) (pc' := 87) rfl rfl rfl rfl ?_
  obtain ⟨hs, h⟩ := h
  refine ev_ll (f := fun a b => a + b) (pc' := 88) rfl rfl (fun _ => rfl) (tm_ladd hs) rfl ?_
  refine ev_call (as := [.inr (.inl (x5 + x8))]) (r := []) (pc' := 91) rfl rfl (Nat.le_of_ble_eq_true rfl) (Nat.le_of_ble_eq_true rfl) ⟨rfl, rfl⟩ (Nat.le_of_ble_eq_true rfl) rfl rfl rfl rfl ?_
  refine ev.post h (fun v M1 h => ?_)
  obtain ⟨w1, rfl, h⟩ := h
  show ev 51 91 [(0, .inr (.inr (some 20))), (1, .inl x1), (2, .inl x2), (3, .inl x3), (4, .inl x4), (5, .inr (.inl x5)), (7, .inl x7), (8, .inr (.inl x8))] [.inr (.inl w1)] M1 _
  refine ev_lo (lo' := [(5, .inr (.inl w1)), (0, .inr (.inr (some 20))), (1, .inl x1), (2, .inl x2), (3, .inl x3), (4, .inl x4), (7, .inl x7), (8, .inr (.inl x8))]) (st' := []) (pc' := 93) rfl rfl rfl rfl ?_
  obtain ⟨hs, h⟩ := h
  refine ev_iinc (lo' := [(7, .inl (x7 + 1)), (5, .inr (.inl w1)), (0, .inr (.inr (some 20))), (1, .inl x1), (2, .inl x2), (3, .inl x3), (4, .inl x4), (8, .inr (.inl x8))]) (pc' := 96) rfl rfl (by decide) (tm_add hs) rfl rfl ?_
  refine ev_br (pc' := 14) (st' := []) rfl rfl rfl ?_
  exact ev_pick [0, 1, 2, 3, 4, 5, 7] rfl rfl h
/-! NulledForest$Forest.countPart(II)Z -/
def m52 (x1 x2 : Int) (M : ev_M) (Q : Int → ev_M → Prop) : Prop := ev 52 0 [(0, .inr (.inr (some 20))), (1, .inl x1), (2, .inl x2)] [] M (fun v M1 => ∃ w : Int, v = some (.inl w) ∧ Q w M1)
def c52_5 (x1 x2 x3 x4 : Int) (M : ev_M) (Q : Int → ev_M → Prop) : Prop := ev 52 5 [(0, .inr (.inr (some 20))), (1, .inl x1), (2, .inl x2), (3, .inl x3), (4, .inl x4)] [] M (fun v M1 => ∃ w : Int, v = some (.inl w) ∧ Q w M1)
def c52_35 (x1 x2 x4 t0 t1 : Int) (M : ev_M) (Q : Int → ev_M → Prop) : Prop := ev 52 35 [(0, .inr (.inr (some 20))), (1, .inl x1), (2, .inl x2), (4, .inl x4)] [.inl t1, .inl t0] M (fun v M1 => ∃ w : Int, v = some (.inl w) ∧ Q w M1)
def c52_46 (x1 x2 x3 x4 : Int) (M : ev_M) (Q : Int → ev_M → Prop) : Prop := ev 52 46 [(0, .inr (.inr (some 20))), (1, .inl x1), (2, .inl x2), (3, .inl x3), (4, .inl x4)] [] M (fun v M1 => ∃ w : Int, v = some (.inl w) ∧ Q w M1)
def c52_60 (x1 x2 x3 x4 x5 : Int) (M : ev_M) (Q : Int → ev_M → Prop) : Prop := ev 52 60 [(0, .inr (.inr (some 20))), (1, .inl x1), (2, .inl x2), (3, .inl x3), (4, .inl x4), (5, .inl x5)] [] M (fun v M1 => ∃ w : Int, v = some (.inl w) ∧ Q w M1)
def c52_106 (x1 x2 x3 x4 x5 : Int) (M : ev_M) (Q : Int → ev_M → Prop) : Prop := ev 52 106 [(0, .inr (.inr (some 20))), (1, .inl x1), (2, .inl x2), (3, .inl x3), (4, .inl x4), (5, .inl x5)] [] M (fun v M1 => ∃ w : Int, v = some (.inl w) ∧ Q w M1)
def c52_118 (x3 : Int) (M : ev_M) (Q : Int → ev_M → Prop) : Prop := ev 52 118 [(3, .inl x3)] [] M (fun v M1 => ∃ w : Int, v = some (.inl w) ∧ Q w M1)
def c52_127 (t0 : Int) (M : ev_M) (Q : Int → ev_M → Prop) : Prop := ev 52 127 [] [.inl t0] M (fun v M1 => ∃ w : Int, v = some (.inl w) ∧ Q w M1)
set_option maxRecDepth 10000 in
theorem b52 {x1 x2 : Int} {M : ev_M} {Q : Int → ev_M → Prop}
    (h : c52_5 x1 x2 0 0 M Q) : m52 x1 x2 M Q := by
  unfold m52
  refine ev_pu (st' := [.inl 0]) (pc' := 1) rfl rfl rfl rfl ?_
  refine ev_lo (lo' := [(3, .inl 0), (0, .inr (.inr (some 20))), (1, .inl x1), (2, .inl x2)]) (st' := []) (pc' := 2) rfl rfl rfl rfl ?_
  refine ev_pu (st' := [.inl 0]) (pc' := 3) rfl rfl rfl rfl ?_
  refine ev_lo (lo' := [(4, .inl 0), (3, .inl 0), (0, .inr (.inr (some 20))), (1, .inl x1), (2, .inl x2)]) (st' := []) (pc' := 5) rfl rfl rfl rfl ?_
  exact ev_pick [0, 1, 2, 3, 4] rfl rfl h
set_option maxRecDepth 10000 in
theorem b52_5 {x1 x2 x3 x4 : Int} {M : ev_M} {Q : Int → ev_M → Prop}
    (h : (6 ≤ x4 → (c52_46 x1 x2 x3 0 M Q)) ∧ (¬ (6 ≤ x4) → (m34 x4 x1 x2 M (fun w1 M1 => (w1 = 0 → (c52_35 x1 x2 x4 x3 0 M1 Q)) ∧ (¬ (w1 = 0) → ((0 ≤ x4 ∧ x4 < 32) ∧ (1 : Int) * 2 ^ (x4).toNat < 2147483648 ∧ (c52_35 x1 x2 x4 x3 (tm_sl 1 x4) M1 Q))))))) : c52_5 x1 x2 x3 x4 M Q := by
  unfold c52_5
  refine ev_lo (lo' := [(0, .inr (.inr (some 20))), (1, .inl x1), (2, .inl x2), (3, .inl x3), (4, .inl x4)]) (st' := [.inl x4]) (pc' := 7) rfl rfl rfl rfl ?_
  refine ev_pu (st' := [.inl 6, .inl x4]) (pc' := 9) rfl rfl rfl rfl ?_
  refine ev_icmp (pc' := 43) (pc2 := 12) rfl (by decide) rfl rfl (fun hc => ?_) (fun hc => ?_)
  · replace h := h.1 (of_decide_eq_true hc)
    refine ev_pu (st' := [.inl 0]) (pc' := 44) rfl rfl rfl rfl ?_
    refine ev_lo (lo' := [(4, .inl 0), (0, .inr (.inr (some 20))), (1, .inl x1), (2, .inl x2), (3, .inl x3)]) (st' := []) (pc' := 46) rfl rfl rfl rfl ?_
    exact ev_pick [0, 1, 2, 3, 4] rfl rfl h
  · replace h := h.2 (of_decide_eq_false hc)
    refine ev_lo (lo' := [(0, .inr (.inr (some 20))), (1, .inl x1), (2, .inl x2), (3, .inl x3), (4, .inl x4)]) (st' := [.inl x3]) (pc' := 13) rfl rfl rfl rfl ?_
    refine ev_lo (lo' := [(0, .inr (.inr (some 20))), (1, .inl x1), (2, .inl x2), (3, .inl x3), (4, .inl x4)]) (st' := [.inr (.inr (some 20)), .inl x3]) (pc' := 14) rfl rfl rfl rfl ?_
    refine ev_get (v := .inr (.inr (some 15))) (pc' := 17) rfl rfl rfl rfl ?_
    refine ev_lo (lo' := [(0, .inr (.inr (some 20))), (1, .inl x1), (2, .inl x2), (3, .inl x3), (4, .inl x4)]) (st' := [.inl x4, .inr (.inr (some 15)), .inl x3]) (pc' := 19) rfl rfl rfl rfl ?_
    refine ev_lo (lo' := [(0, .inr (.inr (some 20))), (1, .inl x1), (2, .inl x2), (3, .inl x3), (4, .inl x4)]) (st' := [.inl x1, .inl x4, .inr (.inr (some 15)), .inl x3]) (pc' := 20) rfl rfl rfl rfl ?_
    refine ev_lo (lo' := [(0, .inr (.inr (some 20))), (1, .inl x1), (2, .inl x2), (3, .inl x3), (4, .inl x4)]) (st' := [.inl x2, .inl x1, .inl x4, .inr (.inr (some 15)), .inl x3]) (pc' := 21) rfl rfl rfl rfl ?_
    refine ev_call (as := [.inr (.inr (some 15)), .inl x4, .inl x1, .inl x2]) (r := [.inl x3]) (pc' := 24) rfl rfl (Nat.le_of_ble_eq_true rfl) (Nat.le_of_ble_eq_true rfl) ⟨rfl, rfl⟩ (Nat.le_of_ble_eq_true rfl) rfl rfl rfl rfl ?_
    refine ev.post h (fun v M1 h => ?_)
    obtain ⟨w1, rfl, h⟩ := h
    show ev 52 24 [(0, .inr (.inr (some 20))), (1, .inl x1), (2, .inl x2), (3, .inl x3), (4, .inl x4)] [.inl w1, .inl x3] M1 _
    refine ev_ifT (pc' := 34) (pc2 := 27) rfl (by decide) rfl rfl (fun hc => ?_) (fun hc => ?_)
    · replace h := h.1 (of_decide_eq_true hc)
      refine ev_pu (st' := [.inl 0, .inl x3]) (pc' := 35) rfl rfl rfl rfl ?_
      exact ev_pick [0, 1, 2, 4] rfl rfl h
    · replace h := h.2 (of_decide_eq_false hc)
      refine ev_pu (st' := [.inl 1, .inl x3]) (pc' := 28) rfl rfl rfl rfl ?_
      refine ev_lo (lo' := [(0, .inr (.inr (some 20))), (1, .inl x1), (2, .inl x2), (3, .inl x3), (4, .inl x4)]) (st' := [.inl x4, .inl 1, .inl x3]) (pc' := 30) rfl rfl rfl rfl ?_
      obtain ⟨hs1, hs2, h⟩ := h
      refine ev_ii (f := fun a b => a <<< (b &&& 31)) (pc' := 31) rfl rfl (fun _ => rfl) (tm_sl_eq (by decide) hs1 hs2) rfl ?_
      refine ev_br (pc' := 35) (st' := [.inl (tm_sl 1 x4), .inl x3]) rfl rfl rfl ?_
      exact ev_pick [0, 1, 2, 4] rfl rfl h
set_option maxRecDepth 10000 in
theorem b52_35 {x1 x2 x4 t0 t1 : Int} {M : ev_M} {Q : Int → ev_M → Prop}
    (h : (0 ≤ t0 ∧ t0 < 2147483648) ∧ (0 ≤ t1 ∧ t1 < 2147483648) ∧ (tm_iI (x4 + 1) ∧ (c52_5 x1 x2 (tm_or t0 t1) (x4 + 1) M Q))) : c52_35 x1 x2 x4 t0 t1 M Q := by
  unfold c52_35
  obtain ⟨hs0, hs1, h⟩ := h
  refine ev_ii (f := fun a b => a ||| b) (pc' := 36) rfl rfl (fun _ => rfl) (tm_or_eq hs0 hs1) rfl ?_
  refine ev_lo (lo' := [(3, .inl (tm_or t0 t1)), (0, .inr (.inr (some 20))), (1, .inl x1), (2, .inl x2), (4, .inl x4)]) (st' := []) (pc' := 37) rfl rfl rfl rfl ?_
  obtain ⟨hs, h⟩ := h
  refine ev_iinc (lo' := [(4, .inl (x4 + 1)), (3, .inl (tm_or t0 t1)), (0, .inr (.inr (some 20))), (1, .inl x1), (2, .inl x2)]) (pc' := 40) rfl rfl (by decide) (tm_add hs) rfl rfl ?_
  refine ev_br (pc' := 5) (st' := []) rfl rfl rfl ?_
  exact ev_pick [0, 1, 2, 3, 4] rfl rfl h
set_option maxRecDepth 10000 in
theorem b52_46 {x1 x2 x3 x4 : Int} {M : ev_M} {Q : Int → ev_M → Prop}
    (h : (6 ≤ x4 → (c52_118 x3 M Q)) ∧ (¬ (6 ≤ x4) → ((x3 = 0 → (c52_118 x3 M Q)) ∧ (¬ (x3 = 0) → (c52_60 x1 x2 x3 x4 0 M Q))))) : c52_46 x1 x2 x3 x4 M Q := by
  unfold c52_46
  refine ev_lo (lo' := [(0, .inr (.inr (some 20))), (1, .inl x1), (2, .inl x2), (3, .inl x3), (4, .inl x4)]) (st' := [.inl x4]) (pc' := 48) rfl rfl rfl rfl ?_
  refine ev_pu (st' := [.inl 6, .inl x4]) (pc' := 50) rfl rfl rfl rfl ?_
  refine ev_icmp (pc' := 118) (pc2 := 53) rfl (by decide) rfl rfl (fun hc => ?_) (fun hc => ?_)
  · replace h := h.1 (of_decide_eq_true hc)
    exact ev_pick [3] rfl rfl h
  · replace h := h.2 (of_decide_eq_false hc)
    refine ev_lo (lo' := [(0, .inr (.inr (some 20))), (1, .inl x1), (2, .inl x2), (3, .inl x3), (4, .inl x4)]) (st' := [.inl x3]) (pc' := 54) rfl rfl rfl rfl ?_
    refine ev_ifT (pc' := 118) (pc2 := 57) rfl (by decide) rfl rfl (fun hc => ?_) (fun hc => ?_)
    · replace h := h.1 (of_decide_eq_true hc)
      exact ev_pick [3] rfl rfl h
    · replace h := h.2 (of_decide_eq_false hc)
      refine ev_pu (st' := [.inl 0]) (pc' := 58) rfl rfl rfl rfl ?_
      refine ev_lo (lo' := [(5, .inl 0), (0, .inr (.inr (some 20))), (1, .inl x1), (2, .inl x2), (3, .inl x3), (4, .inl x4)]) (st' := []) (pc' := 60) rfl rfl rfl rfl ?_
      exact ev_pick [0, 1, 2, 3, 4, 5] rfl rfl h
set_option maxRecDepth 10000 in
theorem b52_60 {x1 x2 x3 x4 x5 : Int} {M : ev_M} {Q : Int → ev_M → Prop}
    (h : (6 ≤ x5 → (tm_iI (x4 + 1) ∧ (c52_46 x1 x2 x3 (x4 + 1) M Q))) ∧ (¬ (6 ≤ x5) → ((0 ≤ x3 ∧ x3 < 2147483648) ∧ (0 ≤ x5 ∧ x5 < 32) ∧ ((0 ≤ (tm_sr x3 x5) ∧ (tm_sr x3 x5) < 2147483648) ∧ (((tm_an (tm_sr x3 x5) 1) = 0 → (c52_106 x1 x2 x3 x4 x5 M Q)) ∧ (¬ ((tm_an (tm_sr x3 x5) 1) = 0) → (m48 x5 x1 x2 M (fun w1 M1 => (0 ≤ x3 ∧ x3 < 2147483648) ∧ (0 ≤ w1 ∧ w1 < 2147483648) ∧ ((¬ (tm_an x3 w1) = 0 → (c52_106 x1 x2 x3 x4 x5 M1 Q)) ∧ (¬ (¬ (tm_an x3 w1) = 0) → (m51 x5 x1 x2 M1 (fun M2 => (0 ≤ x5 ∧ x5 < 32) ∧ (1 : Int) * 2 ^ (x5).toNat < 2147483648 ∧ (c52_106 x1 x2 (tm_i2 (fun a b => a &&& b) x3 (tm_i2 (fun a b => a ^^^ b) (tm_sl 1 x5) (-1))) x4 x5 M2 Q))))))))))))) : c52_60 x1 x2 x3 x4 x5 M Q := by
  unfold c52_60
  refine ev_lo (lo' := [(0, .inr (.inr (some 20))), (1, .inl x1), (2, .inl x2), (3, .inl x3), (4, .inl x4), (5, .inl x5)]) (st' := [.inl x5]) (pc' := 62) rfl rfl rfl rfl ?_
  refine ev_pu (st' := [.inl 6, .inl x5]) (pc' := 64) rfl rfl rfl rfl ?_
  refine ev_icmp (pc' := 112) (pc2 := 67) rfl (by decide) rfl rfl (fun hc => ?_) (fun hc => ?_)
  · replace h := h.1 (of_decide_eq_true hc)
    obtain ⟨hs, h⟩ := h
    refine ev_iinc (lo' := [(4, .inl (x4 + 1)), (0, .inr (.inr (some 20))), (1, .inl x1), (2, .inl x2), (3, .inl x3), (5, .inl x5)]) (pc' := 115) rfl rfl (by decide) (tm_add hs) rfl rfl ?_
    refine ev_br (pc' := 46) (st' := []) rfl rfl rfl ?_
    exact ev_pick [0, 1, 2, 3, 4] rfl rfl h
  · replace h := h.2 (of_decide_eq_false hc)
    refine ev_lo (lo' := [(0, .inr (.inr (some 20))), (1, .inl x1), (2, .inl x2), (3, .inl x3), (4, .inl x4), (5, .inl x5)]) (st' := [.inl x3]) (pc' := 68) rfl rfl rfl rfl ?_
    refine ev_lo (lo' := [(0, .inr (.inr (some 20))), (1, .inl x1), (2, .inl x2), (3, .inl x3), (4, .inl x4), (5, .inl x5)]) (st' := [.inl x5, .inl x3]) (pc' := 70) rfl rfl rfl rfl ?_
    obtain ⟨hs0, hs1, h⟩ := h
    refine ev_ii (f := fun a b => a >>> (b &&& 31)) (pc' := 71) rfl rfl (fun _ => rfl) (tm_sr_eq hs0 hs1) rfl ?_
    refine ev_pu (st' := [.inl 1, .inl (tm_sr x3 x5)]) (pc' := 72) rfl rfl rfl rfl ?_
    obtain ⟨hs0, h⟩ := h
    refine ev_ii (f := fun a b => a &&& b) (pc' := 73) rfl rfl (fun _ => rfl) (tm_an_eq hs0 (by decide)) rfl ?_
    refine ev_ifT (pc' := 106) (pc2 := 76) rfl (by decide) rfl rfl (fun hc => ?_) (fun hc => ?_)
    · replace h := h.1 (of_decide_eq_true hc)
      exact ev_pick [0, 1, 2, 3, 4, 5] rfl rfl h
    · replace h := h.2 (of_decide_eq_false hc)
      refine ev_lo (lo' := [(0, .inr (.inr (some 20))), (1, .inl x1), (2, .inl x2), (3, .inl x3), (4, .inl x4), (5, .inl x5)]) (st' := [.inl x3]) (pc' := 77) rfl rfl rfl rfl ?_
      refine ev_lo (lo' := [(0, .inr (.inr (some 20))), (1, .inl x1), (2, .inl x2), (3, .inl x3), (4, .inl x4), (5, .inl x5)]) (st' := [.inr (.inr (some 20)), .inl x3]) (pc' := 78) rfl rfl rfl rfl ?_
      refine ev_lo (lo' := [(0, .inr (.inr (some 20))), (1, .inl x1), (2, .inl x2), (3, .inl x3), (4, .inl x4), (5, .inl x5)]) (st' := [.inl x5, .inr (.inr (some 20)), .inl x3]) (pc' := 80) rfl rfl rfl rfl ?_
      refine ev_lo (lo' := [(0, .inr (.inr (some 20))), (1, .inl x1), (2, .inl x2), (3, .inl x3), (4, .inl x4), (5, .inl x5)]) (st' := [.inl x1, .inl x5, .inr (.inr (some 20)), .inl x3]) (pc' := 81) rfl rfl rfl rfl ?_
      refine ev_lo (lo' := [(0, .inr (.inr (some 20))), (1, .inl x1), (2, .inl x2), (3, .inl x3), (4, .inl x4), (5, .inl x5)]) (st' := [.inl x2, .inl x1, .inl x5, .inr (.inr (some 20)), .inl x3]) (pc' := 82) rfl rfl rfl rfl ?_
      refine ev_call (as := [.inr (.inr (some 20)), .inl x5, .inl x1, .inl x2]) (r := [.inl x3]) (pc' := 85) rfl rfl (Nat.le_of_ble_eq_true rfl) (Nat.le_of_ble_eq_true rfl) ⟨rfl, rfl⟩ (Nat.le_of_ble_eq_true rfl) rfl rfl rfl rfl ?_
      refine ev.post h (fun v M1 h => ?_)
      obtain ⟨w1, rfl, h⟩ := h
      show ev 52 85 [(0, .inr (.inr (some 20))), (1, .inl x1), (2, .inl x2), (3, .inl x3), (4, .inl x4), (5, .inl x5)] [.inl w1, .inl x3] M1 _
      obtain ⟨hs0, hs1, h⟩ := h
      refine ev_ii (f := fun a b => a &&& b) (pc' := 86) rfl rfl (fun _ => rfl) (tm_an_eq hs0 hs1) rfl ?_
      refine ev_ifT (pc' := 106) (pc2 := 89) rfl (by decide) rfl rfl (fun hc => ?_) (fun hc => ?_)
      · replace h := h.1 (of_decide_eq_true hc)
        exact ev_pick [0, 1, 2, 3, 4, 5] rfl rfl h
      · replace h := h.2 (of_decide_eq_false hc)
        refine ev_lo (lo' := [(0, .inr (.inr (some 20))), (1, .inl x1), (2, .inl x2), (3, .inl x3), (4, .inl x4), (5, .inl x5)]) (st' := [.inr (.inr (some 20))]) (pc' := 90) rfl rfl rfl rfl ?_
        refine ev_lo (lo' := [(0, .inr (.inr (some 20))), (1, .inl x1), (2, .inl x2), (3, .inl x3), (4, .inl x4), (5, .inl x5)]) (st' := [.inl x5, .inr (.inr (some 20))]) (pc' := 92) rfl rfl rfl rfl ?_
        refine ev_lo (lo' := [(0, .inr (.inr (some 20))), (1, .inl x1), (2, .inl x2), (3, .inl x3), (4, .inl x4), (5, .inl x5)]) (st' := [.inl x1, .inl x5, .inr (.inr (some 20))]) (pc' := 93) rfl rfl rfl rfl ?_
        refine ev_lo (lo' := [(0, .inr (.inr (some 20))), (1, .inl x1), (2, .inl x2), (3, .inl x3), (4, .inl x4), (5, .inl x5)]) (st' := [.inl x2, .inl x1, .inl x5, .inr (.inr (some 20))]) (pc' := 94) rfl rfl rfl rfl ?_
        refine ev_call (as := [.inr (.inr (some 20)), .inl x5, .inl x1, .inl x2]) (r := []) (pc' := 97) rfl rfl (Nat.le_of_ble_eq_true rfl) (Nat.le_of_ble_eq_true rfl) ⟨rfl, rfl⟩ (Nat.le_of_ble_eq_true rfl) rfl rfl rfl rfl ?_
        refine ev.post h (fun v M2 h => ?_)
        obtain ⟨rfl, h⟩ := h
        show ev 52 97 [(0, .inr (.inr (some 20))), (1, .inl x1), (2, .inl x2), (3, .inl x3), (4, .inl x4), (5, .inl x5)] [] M2 _
        refine ev_lo (lo' := [(0, .inr (.inr (some 20))), (1, .inl x1), (2, .inl x2), (3, .inl x3), (4, .inl x4), (5, .inl x5)]) (st' := [.inl x3]) (pc' := 98) rfl rfl rfl rfl ?_
        refine ev_pu (st' := [.inl 1, .inl x3]) (pc' := 99) rfl rfl rfl rfl ?_
        refine ev_lo (lo' := [(0, .inr (.inr (some 20))), (1, .inl x1), (2, .inl x2), (3, .inl x3), (4, .inl x4), (5, .inl x5)]) (st' := [.inl x5, .inl 1, .inl x3]) (pc' := 101) rfl rfl rfl rfl ?_
        obtain ⟨hs1, hs2, h⟩ := h
        refine ev_ii (f := fun a b => a <<< (b &&& 31)) (pc' := 102) rfl rfl (fun _ => rfl) (tm_sl_eq (by decide) hs1 hs2) rfl ?_
        refine ev_pu (st' := [.inl (-1), .inl (tm_sl 1 x5), .inl x3]) (pc' := 103) rfl rfl rfl rfl ?_
        refine ev_ii (f := fun a b => a ^^^ b) (pc' := 104) rfl rfl (fun _ => rfl) rfl rfl ?_
        refine ev_ii (f := fun a b => a &&& b) (pc' := 105) rfl rfl (fun _ => rfl) rfl rfl ?_
        refine ev_lo (lo' := [(3, .inl (tm_i2 (fun a b => a &&& b) x3 (tm_i2 (fun a b => a ^^^ b) (tm_sl 1 x5) (-1)))), (0, .inr (.inr (some 20))), (1, .inl x1), (2, .inl x2), (4, .inl x4), (5, .inl x5)]) (st' := []) (pc' := 106) rfl rfl rfl rfl ?_
        exact ev_pick [0, 1, 2, 3, 4, 5] rfl rfl h
set_option maxRecDepth 10000 in
theorem b52_106 {x1 x2 x3 x4 x5 : Int} {M : ev_M} {Q : Int → ev_M → Prop}
    (h : tm_iI (x5 + 1) ∧ (c52_60 x1 x2 x3 x4 (x5 + 1) M Q)) : c52_106 x1 x2 x3 x4 x5 M Q := by
  unfold c52_106
  obtain ⟨hs, h⟩ := h
  refine ev_iinc (lo' := [(5, .inl (x5 + 1)), (0, .inr (.inr (some 20))), (1, .inl x1), (2, .inl x2), (3, .inl x3), (4, .inl x4)]) (pc' := 109) rfl rfl (by decide) (tm_add hs) rfl rfl ?_
  refine ev_br (pc' := 60) (st' := []) rfl rfl rfl ?_
  exact ev_pick [0, 1, 2, 3, 4, 5] rfl rfl h
set_option maxRecDepth 10000 in
theorem b52_118 {x3 : Int} {M : ev_M} {Q : Int → ev_M → Prop}
    (h : (¬ x3 = 0 → (c52_127 0 M Q)) ∧ (¬ (¬ x3 = 0) → (c52_127 1 M Q))) : c52_118 x3 M Q := by
  unfold c52_118
  refine ev_lo (lo' := [(3, .inl x3)]) (st' := [.inl x3]) (pc' := 119) rfl rfl rfl rfl ?_
  refine ev_ifT (pc' := 126) (pc2 := 122) rfl (by decide) rfl rfl (fun hc => ?_) (fun hc => ?_)
  · replace h := h.1 (of_decide_eq_true hc)
    refine ev_pu (st' := [.inl 0]) (pc' := 127) rfl rfl rfl rfl ?_
    exact ev_pick [] rfl rfl h
  · replace h := h.2 (of_decide_eq_false hc)
    refine ev_pu (st' := [.inl 1]) (pc' := 123) rfl rfl rfl rfl ?_
    refine ev_br (pc' := 127) (st' := [.inl 1]) rfl rfl rfl ?_
    exact ev_pick [] rfl rfl h
set_option maxRecDepth 10000 in
theorem b52_127 {t0 : Int} {M : ev_M} {Q : Int → ev_M → Prop}
    (h : (t0 = 0 ∨ t0 = 1) ∧ Q t0 M) : c52_127 t0 M Q := by
  unfold c52_127
  obtain ⟨hs, h⟩ := h
  exact ev_rtZ rfl rfl hs ⟨_, rfl, h⟩
/-! NulledForest$Forest.grow()V -/
def m53 (M : ev_M) (Q : ev_M → Prop) : Prop := ev 53 0 [(0, .inr (.inr (some 20)))] [] M (fun v M1 => v = none ∧ Q M1)
def c53_10 (x1 : Int) (M : ev_M) (Q : ev_M → Prop) : Prop := ev 53 10 [(0, .inr (.inr (some 20))), (1, .inl x1)] [] M (fun v M1 => v = none ∧ Q M1)
def c53_56 (x1 : Int) (M : ev_M) (Q : ev_M → Prop) : Prop := ev 53 56 [(0, .inr (.inr (some 20))), (1, .inl x1)] [] M (fun v M1 => v = none ∧ Q M1)
def c53_76 (x1 x2 : Int) (M : ev_M) (Q : ev_M → Prop) : Prop := ev 53 76 [(0, .inr (.inr (some 20))), (1, .inl x1), (2, .inl x2)] [] M (fun v M1 => v = none ∧ Q M1)
def c53_113 (x1 x2 t1 : Int) (M : ev_M) (Q : ev_M → Prop) : Prop := ev 53 113 [(0, .inr (.inr (some 20))), (1, .inl x1), (2, .inl x2)] [.inl t1, .inr (.inr (some 20))] M (fun v M1 => v = none ∧ Q M1)
def c53_122 (x1 : Int) (M : ev_M) (Q : ev_M → Prop) : Prop := ev 53 122 [(0, .inr (.inr (some 20))), (1, .inl x1)] [] M (fun v M1 => v = none ∧ Q M1)
def c53_128 (M : ev_M) (Q : ev_M → Prop) : Prop := ev 53 128 [] [] M (fun v M1 => v = none ∧ Q M1)
set_option maxRecDepth 10000 in
theorem b53 {M : ev_M} {Q : ev_M → Prop}
    (h : m1 21 0 M (fun M1 => c53_10 0 M1 Q)) : m53 M Q := by
  unfold m53
  refine ev_lo (lo' := [(0, .inr (.inr (some 20)))]) (st' := [.inr (.inr (some 20))]) (pc' := 1) rfl rfl rfl rfl ?_
  refine ev_get (v := .inr (.inr (some 21))) (pc' := 4) rfl rfl rfl rfl ?_
  refine ev_pu (st' := [.inl 0, .inr (.inr (some 21))]) (pc' := 5) rfl rfl rfl rfl ?_
  refine ev_call (as := [.inr (.inr (some 21)), .inl 0]) (r := []) (pc' := 8) rfl rfl (Nat.le_of_ble_eq_true rfl) (Nat.le_of_ble_eq_true rfl) ⟨rfl, rfl⟩ (Nat.le_of_ble_eq_true rfl) rfl rfl rfl rfl ?_
  refine ev.post h (fun v M1 h => ?_)
  obtain ⟨rfl, h⟩ := h
  show ev 53 8 [(0, .inr (.inr (some 20)))] [] M1 _
  refine ev_pu (st' := [.inl 0]) (pc' := 9) rfl rfl rfl rfl ?_
  refine ev_lo (lo' := [(1, .inl 0), (0, .inr (.inr (some 20)))]) (st' := []) (pc' := 10) rfl rfl rfl rfl ?_
  exact ev_pick [0, 1] rfl rfl h
set_option maxRecDepth 10000 in
theorem b53_10 {x1 : Int} {M : ev_M} {Q : ev_M → Prop}
    (h : ((sC_size M) ≤ x1 → (c53_56 0 (ev_sS M 7 0) Q)) ∧ (¬ ((sC_size M) ≤ x1) → ((0 ≤ x1 ∧ x1 < 10) ∧ (tm_iI (x1 + 1) ∧ (m46 (aC_text M (x1).toNat) x1 (x1 + 1) M (fun w1 M1 => (0 ≤ w1 ∧ w1 < 1210) ∧ (tm_iI (x1 + 1) ∧ (c53_10 (x1 + 1) (ev_sA M1 21 (w1).toNat 1) Q)))))))) : c53_10 x1 M Q := by
  unfold c53_10
  refine ev_lo (lo' := [(0, .inr (.inr (some 20))), (1, .inl x1)]) (st' := [.inl x1]) (pc' := 11) rfl rfl rfl rfl ?_
  refine ev_lo (lo' := [(0, .inr (.inr (some 20))), (1, .inl x1)]) (st' := [.inr (.inr (some 20)), .inl x1]) (pc' := 12) rfl rfl rfl rfl ?_
  refine ev_get (v := .inr (.inr (some 10))) (pc' := 15) rfl rfl rfl rfl ?_
  refine ev_get (v := .inl (sC_size M)) (pc' := 18) rfl rfl rfl rfl ?_
  refine ev_icmp (pc' := 49) (pc2 := 21) rfl (by decide) rfl rfl (fun hc => ?_) (fun hc => ?_)
  · replace h := h.1 (of_decide_eq_true hc)
    refine ev_lo (lo' := [(0, .inr (.inr (some 20))), (1, .inl x1)]) (st' := [.inr (.inr (some 20))]) (pc' := 50) rfl rfl rfl rfl ?_
    refine ev_pu (st' := [.inl 0, .inr (.inr (some 20))]) (pc' := 51) rfl rfl rfl rfl ?_
    refine ev_put (M' := ev_sS M 7 0) (pc' := 54) rfl rfl (Nat.le_of_ble_eq_true rfl) rfl (hp_s7 _ _) rfl ?_
    refine ev_pu (st' := [.inl 0]) (pc' := 55) rfl rfl rfl rfl ?_
    refine ev_lo (lo' := [(1, .inl 0), (0, .inr (.inr (some 20)))]) (st' := []) (pc' := 56) rfl rfl rfl rfl ?_
    exact ev_pick [0, 1] rfl rfl h
  · replace h := h.2 (of_decide_eq_false hc)
    refine ev_lo (lo' := [(0, .inr (.inr (some 20))), (1, .inl x1)]) (st' := [.inr (.inr (some 20))]) (pc' := 22) rfl rfl rfl rfl ?_
    refine ev_get (v := .inr (.inr (some 21))) (pc' := 25) rfl rfl rfl rfl ?_
    refine ev_lo (lo' := [(0, .inr (.inr (some 20))), (1, .inl x1)]) (st' := [.inr (.inr (some 20)), .inr (.inr (some 21))]) (pc' := 26) rfl rfl rfl rfl ?_
    refine ev_get (v := .inr (.inr (some 10))) (pc' := 29) rfl rfl rfl rfl ?_
    refine ev_get (v := .inr (.inr (some 11))) (pc' := 32) rfl rfl rfl rfl ?_
    refine ev_lo (lo' := [(0, .inr (.inr (some 20))), (1, .inl x1)]) (st' := [.inl x1, .inr (.inr (some 11)), .inr (.inr (some 21))]) (pc' := 33) rfl rfl rfl rfl ?_
    obtain ⟨hs0, h⟩ := h
    refine ev_ald (t := 0) (n := 10) (f := aC_text M) (w := fun x => .inl x) (pc' := 34) rfl rfl (fun _ _ => rfl) rfl hs0 rfl ?_
    refine ev_lo (lo' := [(0, .inr (.inr (some 20))), (1, .inl x1)]) (st' := [.inl x1, .inl (aC_text M (x1).toNat), .inr (.inr (some 21))]) (pc' := 35) rfl rfl rfl rfl ?_
    refine ev_lo (lo' := [(0, .inr (.inr (some 20))), (1, .inl x1)]) (st' := [.inl x1, .inl x1, .inl (aC_text M (x1).toNat), .inr (.inr (some 21))]) (pc' := 36) rfl rfl rfl rfl ?_
    refine ev_pu (st' := [.inl 1, .inl x1, .inl x1, .inl (aC_text M (x1).toNat), .inr (.inr (some 21))]) (pc' := 37) rfl rfl rfl rfl ?_
    obtain ⟨hs, h⟩ := h
    refine ev_ii (f := fun a b => a + b) (pc' := 38) rfl rfl (fun _ => rfl) (tm_add hs) rfl ?_
    refine ev_call (as := [.inl (aC_text M (x1).toNat), .inl x1, .inl (x1 + 1)]) (r := [.inr (.inr (some 21))]) (pc' := 41) rfl rfl (Nat.le_of_ble_eq_true rfl) (Nat.le_of_ble_eq_true rfl) ⟨rfl, rfl⟩ (Nat.le_of_ble_eq_true rfl) rfl rfl rfl rfl ?_
    refine ev.post h (fun v M1 h => ?_)
    obtain ⟨w1, rfl, h⟩ := h
    show ev 53 41 [(0, .inr (.inr (some 20))), (1, .inl x1)] [.inl w1, .inr (.inr (some 21))] M1 _
    refine ev_pu (st' := [.inl 1, .inl w1, .inr (.inr (some 21))]) (pc' := 42) rfl rfl rfl rfl ?_
    obtain ⟨hs0, h⟩ := h
    refine ev_iast (n := 1210) (f := aT_count M1) (M' := ev_sA M1 21 (w1).toNat 1) (pc' := 43) rfl rfl hs0 (hp_a21 _ _ _) rfl ?_
    obtain ⟨hs, h⟩ := h
    refine ev_iinc (lo' := [(1, .inl (x1 + 1)), (0, .inr (.inr (some 20)))]) (pc' := 46) rfl rfl (by decide) (tm_add hs) rfl rfl ?_
    refine ev_br (pc' := 10) (st' := []) rfl rfl rfl ?_
    exact ev_pick [0, 1] rfl rfl h
set_option maxRecDepth 10000 in
theorem b53_56 {x1 : Int} {M : ev_M} {Q : ev_M → Prop}
    (h : ((sC_size M) < x1 → (c53_128 M Q)) ∧ (¬ ((sC_size M) < x1) → ((¬ (sT_endless M) = 0 → (c53_128 M Q)) ∧ (¬ (¬ (sT_endless M) = 0) → (c53_76 x1 0 M Q))))) : c53_56 x1 M Q := by
  unfold c53_56
  refine ev_lo (lo' := [(0, .inr (.inr (some 20))), (1, .inl x1)]) (st' := [.inl x1]) (pc' := 57) rfl rfl rfl rfl ?_
  refine ev_lo (lo' := [(0, .inr (.inr (some 20))), (1, .inl x1)]) (st' := [.inr (.inr (some 20)), .inl x1]) (pc' := 58) rfl rfl rfl rfl ?_
  refine ev_get (v := .inr (.inr (some 10))) (pc' := 61) rfl rfl rfl rfl ?_
  refine ev_get (v := .inl (sC_size M)) (pc' := 64) rfl rfl rfl rfl ?_
  refine ev_icmp (pc' := 128) (pc2 := 67) rfl (by decide) rfl rfl (fun hc => ?_) (fun hc => ?_)
  · replace h := h.1 (of_decide_eq_true hc)
    exact ev_pick [] rfl rfl h
  · replace h := h.2 (of_decide_eq_false hc)
    refine ev_lo (lo' := [(0, .inr (.inr (some 20))), (1, .inl x1)]) (st' := [.inr (.inr (some 20))]) (pc' := 68) rfl rfl rfl rfl ?_
    refine ev_get (v := .inl (sT_endless M)) (pc' := 71) rfl rfl rfl rfl ?_
    refine ev_ifT (pc' := 128) (pc2 := 74) rfl (by decide) rfl rfl (fun hc => ?_) (fun hc => ?_)
    · replace h := h.1 (of_decide_eq_true hc)
      exact ev_pick [] rfl rfl h
    · replace h := h.2 (of_decide_eq_false hc)
      refine ev_pu (st' := [.inl 0]) (pc' := 75) rfl rfl rfl rfl ?_
      refine ev_lo (lo' := [(2, .inl 0), (0, .inr (.inr (some 20))), (1, .inl x1)]) (st' := []) (pc' := 76) rfl rfl rfl rfl ?_
      exact ev_pick [0, 1, 2] rfl rfl h
set_option maxRecDepth 10000 in
theorem b53_76 {x1 x2 : Int} {M : ev_M} {Q : ev_M → Prop}
    (h : tm_iI (x2 + x1) ∧ (((sC_size M) < (x2 + x1) → (c53_122 x1 M Q)) ∧ (¬ ((sC_size M) < (x2 + x1)) → ((¬ (sT_endless M) = 0 → (c53_122 x1 M Q)) ∧ (¬ (¬ (sT_endless M) = 0) → (tm_iI (x2 + x1) ∧ (m52 x2 (x2 + x1) M (fun w1 M1 => (¬ w1 = 0 → (c53_113 x1 x2 0 M1 Q)) ∧ (¬ (¬ w1 = 0) → (c53_113 x1 x2 1 M1 Q)))))))))) : c53_76 x1 x2 M Q := by
  unfold c53_76
  refine ev_lo (lo' := [(0, .inr (.inr (some 20))), (1, .inl x1), (2, .inl x2)]) (st' := [.inl x2]) (pc' := 77) rfl rfl rfl rfl ?_
  refine ev_lo (lo' := [(0, .inr (.inr (some 20))), (1, .inl x1), (2, .inl x2)]) (st' := [.inl x1, .inl x2]) (pc' := 78) rfl rfl rfl rfl ?_
  obtain ⟨hs, h⟩ := h
  refine ev_ii (f := fun a b => a + b) (pc' := 79) rfl rfl (fun _ => rfl) (tm_add hs) rfl ?_
  refine ev_lo (lo' := [(0, .inr (.inr (some 20))), (1, .inl x1), (2, .inl x2)]) (st' := [.inr (.inr (some 20)), .inl (x2 + x1)]) (pc' := 80) rfl rfl rfl rfl ?_
  refine ev_get (v := .inr (.inr (some 10))) (pc' := 83) rfl rfl rfl rfl ?_
  refine ev_get (v := .inl (sC_size M)) (pc' := 86) rfl rfl rfl rfl ?_
  refine ev_icmp (pc' := 122) (pc2 := 89) rfl (by decide) rfl rfl (fun hc => ?_) (fun hc => ?_)
  · replace h := h.1 (of_decide_eq_true hc)
    exact ev_pick [0, 1] rfl rfl h
  · replace h := h.2 (of_decide_eq_false hc)
    refine ev_lo (lo' := [(0, .inr (.inr (some 20))), (1, .inl x1), (2, .inl x2)]) (st' := [.inr (.inr (some 20))]) (pc' := 90) rfl rfl rfl rfl ?_
    refine ev_get (v := .inl (sT_endless M)) (pc' := 93) rfl rfl rfl rfl ?_
    refine ev_ifT (pc' := 122) (pc2 := 96) rfl (by decide) rfl rfl (fun hc => ?_) (fun hc => ?_)
    · replace h := h.1 (of_decide_eq_true hc)
      exact ev_pick [0, 1] rfl rfl h
    · replace h := h.2 (of_decide_eq_false hc)
      refine ev_lo (lo' := [(0, .inr (.inr (some 20))), (1, .inl x1), (2, .inl x2)]) (st' := [.inr (.inr (some 20))]) (pc' := 97) rfl rfl rfl rfl ?_
      refine ev_lo (lo' := [(0, .inr (.inr (some 20))), (1, .inl x1), (2, .inl x2)]) (st' := [.inr (.inr (some 20)), .inr (.inr (some 20))]) (pc' := 98) rfl rfl rfl rfl ?_
      refine ev_lo (lo' := [(0, .inr (.inr (some 20))), (1, .inl x1), (2, .inl x2)]) (st' := [.inl x2, .inr (.inr (some 20)), .inr (.inr (some 20))]) (pc' := 99) rfl rfl rfl rfl ?_
      refine ev_lo (lo' := [(0, .inr (.inr (some 20))), (1, .inl x1), (2, .inl x2)]) (st' := [.inl x2, .inl x2, .inr (.inr (some 20)), .inr (.inr (some 20))]) (pc' := 100) rfl rfl rfl rfl ?_
      refine ev_lo (lo' := [(0, .inr (.inr (some 20))), (1, .inl x1), (2, .inl x2)]) (st' := [.inl x1, .inl x2, .inl x2, .inr (.inr (some 20)), .inr (.inr (some 20))]) (pc' := 101) rfl rfl rfl rfl ?_
      obtain ⟨hs, h⟩ := h
      refine ev_ii (f := fun a b => a + b) (pc' := 102) rfl rfl (fun _ => rfl) (tm_add hs) rfl ?_
      refine ev_call (as := [.inr (.inr (some 20)), .inl x2, .inl (x2 + x1)]) (r := [.inr (.inr (some 20))]) (pc' := 105) rfl rfl (Nat.le_of_ble_eq_true rfl) (Nat.le_of_ble_eq_true rfl) ⟨rfl, rfl⟩ (Nat.le_of_ble_eq_true rfl) rfl rfl rfl rfl ?_
      refine ev.post h (fun v M1 h => ?_)
      obtain ⟨w1, rfl, h⟩ := h
      show ev 53 105 [(0, .inr (.inr (some 20))), (1, .inl x1), (2, .inl x2)] [.inl w1, .inr (.inr (some 20))] M1 _
      refine ev_ifT (pc' := 112) (pc2 := 108) rfl (by decide) rfl rfl (fun hc => ?_) (fun hc => ?_)
      · replace h := h.1 (of_decide_eq_true hc)
        refine ev_pu (st' := [.inl 0, .inr (.inr (some 20))]) (pc' := 113) rfl rfl rfl rfl ?_
        exact ev_pick [0, 1, 2] rfl rfl h
      · replace h := h.2 (of_decide_eq_false hc)
        refine ev_pu (st' := [.inl 1, .inr (.inr (some 20))]) (pc' := 109) rfl rfl rfl rfl ?_
        refine ev_br (pc' := 113) (st' := [.inl 1, .inr (.inr (some 20))]) rfl rfl rfl ?_
        exact ev_pick [0, 1, 2] rfl rfl h
set_option maxRecDepth 10000 in
theorem b53_113 {x1 x2 t1 : Int} {M : ev_M} {Q : ev_M → Prop}
    (h : (t1 = 0 ∨ t1 = 1) ∧ (tm_iI (x2 + 1) ∧ (c53_76 x1 (x2 + 1) (ev_sS M 7 t1) Q))) : c53_113 x1 x2 t1 M Q := by
  unfold c53_113
  obtain ⟨hs, h⟩ := h
  refine ev_put (M' := ev_sS M 7 t1) (pc' := 116) rfl rfl (Nat.le_of_ble_eq_true rfl) (tm_fitZ hs) (hp_s7 _ _) rfl ?_
  obtain ⟨hs, h⟩ := h
  refine ev_iinc (lo' := [(2, .inl (x2 + 1)), (0, .inr (.inr (some 20))), (1, .inl x1)]) (pc' := 119) rfl rfl (by decide) (tm_add hs) rfl rfl ?_
  refine ev_br (pc' := 76) (st' := []) rfl rfl rfl ?_
  exact ev_pick [0, 1, 2] rfl rfl h
set_option maxRecDepth 10000 in
theorem b53_122 {x1 : Int} {M : ev_M} {Q : ev_M → Prop}
    (h : tm_iI (x1 + 1) ∧ (c53_56 (x1 + 1) M Q)) : c53_122 x1 M Q := by
  unfold c53_122
  obtain ⟨hs, h⟩ := h
  refine ev_iinc (lo' := [(1, .inl (x1 + 1)), (0, .inr (.inr (some 20)))]) (pc' := 125) rfl rfl (by decide) (tm_add hs) rfl rfl ?_
  refine ev_br (pc' := 56) (st' := []) rfl rfl rfl ?_
  exact ev_pick [0, 1] rfl rfl h
set_option maxRecDepth 10000 in
theorem b53_128 {M : ev_M} {Q : ev_M → Prop}
    (h : Q M) : c53_128 M Q := by
  unfold c53_128
  exact ev_rt rfl rfl rfl ⟨rfl, h⟩
