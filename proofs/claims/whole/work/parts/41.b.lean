/-! Block rules, written by wip/whole/gen3.py -/
/-! NulledForest$Automaton.next(II)I -/
def m13 (x1 x2 : Int) (M : ev_M) (Q : Int → ev_M → Prop) : Prop := ev 13 0 [(0, .inr (.inr (some 5))), (1, .inl x1), (2, .inl x2)] [] M (fun v M1 => ∃ w : Int, v = some (.inl w) ∧ Q w M1)
set_option maxRecDepth 10000 in
theorem b13 {x1 x2 : Int} {M : ev_M} {Q : Int → ev_M → Prop}
    (h : tm_iI (x1 * 10) ∧ (tm_iI ((x1 * 10) + x2) ∧ ((0 ≤ ((x1 * 10) + x2) ∧ ((x1 * 10) + x2) < 600) ∧ (Q (aA_goal M ((x1 * 10) + x2).toNat) M)))) : m13 x1 x2 M Q := by
  unfold m13
  refine ev_lo (lo' := [(0, .inr (.inr (some 5))), (1, .inl x1), (2, .inl x2)]) (st' := [.inr (.inr (some 5))]) (pc' := 1) rfl rfl rfl rfl ?_
  refine ev_get (v := .inr (.inr (some 8))) (pc' := 4) rfl rfl rfl rfl ?_
  refine ev_lo (lo' := [(0, .inr (.inr (some 5))), (1, .inl x1), (2, .inl x2)]) (st' := [.inl x1, .inr (.inr (some 8))]) (pc' := 5) rfl rfl rfl rfl ?_
  refine ev_pu (st' := [.inl 10, .inl x1, .inr (.inr (some 8))]) (pc' := 7) rfl rfl rfl rfl ?_
  obtain ⟨hs, h⟩ := h
  refine ev_ii (f := fun a b => a * b) (pc' := 8) rfl rfl (fun _ => rfl) (tm_mul hs) rfl ?_
  refine ev_lo (lo' := [(0, .inr (.inr (some 5))), (1, .inl x1), (2, .inl x2)]) (st' := [.inl x2, .inl (x1 * 10), .inr (.inr (some 8))]) (pc' := 9) rfl rfl rfl rfl ?_
  obtain ⟨hs, h⟩ := h
  refine ev_ii (f := fun a b => a + b) (pc' := 10) rfl rfl (fun _ => rfl) (tm_add hs) rfl ?_
  obtain ⟨hs0, h⟩ := h
  refine ev_ald (t := 0) (n := 600) (f := aA_goal M) (w := fun x => .inl x) (pc' := 11) rfl rfl (fun _ _ => rfl) rfl hs0 rfl ?_
  exact ev_rt rfl rfl rfl ⟨_, rfl, h⟩
/-! NulledForest$Automaton.item(II)J -/
def m14 (x0 x1 : Int) (M : ev_M) (Q : Int → ev_M → Prop) : Prop := ev 14 0 [(0, .inl x0), (1, .inl x1)] [] M (fun v M1 => ∃ w : Int, v = some (.inr (.inl w)) ∧ Q w M1)
set_option maxRecDepth 10000 in
theorem b14 {x0 x1 : Int} {M : ev_M} {Q : Int → ev_M → Prop}
    (h : tm_iI (x0 * 4) ∧ (tm_iI ((x0 * 4) + x1) ∧ (tm_iI (((x0 * 4) + x1) - 1) ∧ ((0 ≤ (((x0 * 4) + x1) - 1) ∧ (((x0 * 4) + x1) - 1) < 64) ∧ (1 : Int) * 2 ^ (((x0 * 4) + x1) - 1).toNat < 9223372036854775808 ∧ (Q (tm_sl 1 (((x0 * 4) + x1) - 1)) M))))) : m14 x0 x1 M Q := by
  unfold m14
  refine ev_pu (st' := [.inr (.inl 1)]) (pc' := 1) rfl rfl rfl rfl ?_
  refine ev_lo (lo' := [(0, .inl x0), (1, .inl x1)]) (st' := [.inl x0, .inr (.inl 1)]) (pc' := 2) rfl rfl rfl rfl ?_
  refine ev_pu (st' := [.inl 4, .inl x0, .inr (.inl 1)]) (pc' := 3) rfl rfl rfl rfl ?_
  obtain ⟨hs, h⟩ := h
  refine ev_ii (f := fun a b => a * b) (pc' := 4) rfl rfl (fun _ => rfl) (tm_mul hs) rfl ?_
  refine ev_lo (lo' := [(0, .inl x0), (1, .inl x1)]) (st' := [.inl x1, .inl (x0 * 4), .inr (.inl 1)]) (pc' := 5) rfl rfl rfl rfl ?_
  obtain ⟨hs, h⟩ := h
  refine ev_ii (f := fun a b => a + b) (pc' := 6) rfl rfl (fun _ => rfl) (tm_add hs) rfl ?_
  refine ev_pu (st' := [.inl 1, .inl ((x0 * 4) + x1), .inr (.inl 1)]) (pc' := 7) rfl rfl rfl rfl ?_
  obtain ⟨hs, h⟩ := h
  refine ev_ii (f := fun a b => a - b) (pc' := 8) rfl rfl (fun _ => rfl) (tm_sub' hs) rfl ?_
  obtain ⟨hs1, hs2, h⟩ := h
  refine ev_lshl (pc' := 9) rfl (tm_lsl_eq (by decide) hs1 hs2) rfl ?_
  exact ev_rt rfl rfl rfl ⟨_, rfl, h⟩
/-! NulledForest$Automaton.holds(III)Z -/
def m15 (x1 x2 x3 : Int) (M : ev_M) (Q : Int → ev_M → Prop) : Prop := ev 15 0 [(0, .inr (.inr (some 5))), (1, .inl x1), (2, .inl x2), (3, .inl x3)] [] M (fun v M1 => ∃ w : Int, v = some (.inl w) ∧ Q w M1)
def c15_30 (t0 : Int) (M : ev_M) (Q : Int → ev_M → Prop) : Prop := ev 15 30 [] [.inl t0] M (fun v M1 => ∃ w : Int, v = some (.inl w) ∧ Q w M1)
def c15_53 (t0 : Int) (M : ev_M) (Q : Int → ev_M → Prop) : Prop := ev 15 53 [] [.inl t0] M (fun v M1 => ∃ w : Int, v = some (.inl w) ∧ Q w M1)
set_option maxRecDepth 10000 in
theorem b15 {x1 x2 x3 : Int} {M : ev_M} {Q : Int → ev_M → Prop}
    (h : (¬ x3 = 0 → ((0 ≤ x1 ∧ x1 < 60) ∧ (m14 x2 x3 M (fun w1 M1 => (0 ≤ (aA_kernel M (x1).toNat) ∧ (aA_kernel M (x1).toNat) < 9223372036854775808) ∧ (0 ≤ w1 ∧ w1 < 9223372036854775808) ∧ (((tm_an (aA_kernel M (x1).toNat) w1) = 0 → (c15_53 0 M1 Q)) ∧ (¬ ((tm_an (aA_kernel M (x1).toNat) w1) = 0) → (c15_53 1 M1 Q))))))) ∧ (¬ (¬ x3 = 0) → ((0 ≤ x1 ∧ x1 < 60) ∧ ((0 ≤ x2 ∧ x2 < 14) ∧ ((0 ≤ (aA_awaited M (x1).toNat) ∧ (aA_awaited M (x1).toNat) < 2147483648) ∧ (0 ≤ (aG_left M (x2).toNat) ∧ (aG_left M (x2).toNat) < 32) ∧ ((0 ≤ (tm_sr (aA_awaited M (x1).toNat) (aG_left M (x2).toNat)) ∧ (tm_sr (aA_awaited M (x1).toNat) (aG_left M (x2).toNat)) < 2147483648) ∧ (((tm_an (tm_sr (aA_awaited M (x1).toNat) (aG_left M (x2).toNat)) 1) = 0 → (c15_30 0 M Q)) ∧ (¬ ((tm_an (tm_sr (aA_awaited M (x1).toNat) (aG_left M (x2).toNat)) 1) = 0) → (c15_30 1 M Q))))))))) : m15 x1 x2 x3 M Q := by
  unfold m15
  refine ev_lo (lo' := [(0, .inr (.inr (some 5))), (1, .inl x1), (2, .inl x2), (3, .inl x3)]) (st' := [.inl x3]) (pc' := 1) rfl rfl rfl rfl ?_
  refine ev_ifT (pc' := 31) (pc2 := 4) rfl (by decide) rfl rfl (fun hc => ?_) (fun hc => ?_)
  · replace h := h.1 (of_decide_eq_true hc)
    refine ev_lo (lo' := [(0, .inr (.inr (some 5))), (1, .inl x1), (2, .inl x2), (3, .inl x3)]) (st' := [.inr (.inr (some 5))]) (pc' := 32) rfl rfl rfl rfl ?_
    refine ev_get (v := .inr (.inr (some 6))) (pc' := 35) rfl rfl rfl rfl ?_
    refine ev_lo (lo' := [(0, .inr (.inr (some 5))), (1, .inl x1), (2, .inl x2), (3, .inl x3)]) (st' := [.inl x1, .inr (.inr (some 6))]) (pc' := 36) rfl rfl rfl rfl ?_
    obtain ⟨hs0, h⟩ := h
    refine ev_ald (t := 1) (n := 60) (f := aA_kernel M) (w := fun x => .inr (.inl x)) (pc' := 37) rfl rfl (fun _ _ => rfl) rfl hs0 rfl ?_
    refine ev_lo (lo' := [(0, .inr (.inr (some 5))), (1, .inl x1), (2, .inl x2), (3, .inl x3)]) (st' := [.inl x2, .inr (.inl (aA_kernel M (x1).toNat))]) (pc' := 38) rfl rfl rfl rfl ?_
    refine ev_lo (lo' := [(0, .inr (.inr (some 5))), (1, .inl x1), (2, .inl x2), (3, .inl x3)]) (st' := [.inl x3, .inl x2, .inr (.inl (aA_kernel M (x1).toNat))]) (pc' := 39) rfl rfl rfl rfl ?_
    refine ev_call (as := [.inl x2, .inl x3]) (r := [.inr (.inl (aA_kernel M (x1).toNat))]) (pc' := 42) rfl rfl (Nat.le_of_ble_eq_true rfl) (Nat.le_of_ble_eq_true rfl) ⟨rfl, rfl⟩ (Nat.le_of_ble_eq_true rfl) rfl rfl rfl rfl ?_
    refine ev.post h (fun v M1 h => ?_)
    obtain ⟨w1, rfl, h⟩ := h
    show ev 15 42 [(0, .inr (.inr (some 5))), (1, .inl x1), (2, .inl x2), (3, .inl x3)] [.inr (.inl w1), .inr (.inl (aA_kernel M (x1).toNat))] M1 _
    obtain ⟨hs0, hs1, h⟩ := h
    refine ev_ll (f := fun a b => a &&& b) (pc' := 43) rfl rfl (fun _ => rfl) (tm_lan_eq hs0 hs1) rfl ?_
    refine ev_pu (st' := [.inr (.inl 0), .inr (.inl (tm_an (aA_kernel M (x1).toNat) w1))]) (pc' := 44) rfl rfl rfl rfl ?_
    refine ev_lcmp (pc1 := 45) (pc' := 52) (pc2 := 48) rfl rfl rfl (by decide) rfl rfl (fun hc => ?_) (fun hc => ?_)
    · replace h := h.1 (of_decide_eq_true hc)
      refine ev_pu (st' := [.inl 0]) (pc' := 53) rfl rfl rfl rfl ?_
      exact ev_pick [] rfl rfl h
    · replace h := h.2 (of_decide_eq_false hc)
      refine ev_pu (st' := [.inl 1]) (pc' := 49) rfl rfl rfl rfl ?_
      refine ev_br (pc' := 53) (st' := [.inl 1]) rfl rfl rfl ?_
      exact ev_pick [] rfl rfl h
  · replace h := h.2 (of_decide_eq_false hc)
    refine ev_lo (lo' := [(0, .inr (.inr (some 5))), (1, .inl x1), (2, .inl x2), (3, .inl x3)]) (st' := [.inr (.inr (some 5))]) (pc' := 5) rfl rfl rfl rfl ?_
    refine ev_get (v := .inr (.inr (some 7))) (pc' := 8) rfl rfl rfl rfl ?_
    refine ev_lo (lo' := [(0, .inr (.inr (some 5))), (1, .inl x1), (2, .inl x2), (3, .inl x3)]) (st' := [.inl x1, .inr (.inr (some 7))]) (pc' := 9) rfl rfl rfl rfl ?_
    obtain ⟨hs0, h⟩ := h
    refine ev_ald (t := 0) (n := 60) (f := aA_awaited M) (w := fun x => .inl x) (pc' := 10) rfl rfl (fun _ _ => rfl) rfl hs0 rfl ?_
    refine ev_lo (lo' := [(0, .inr (.inr (some 5))), (1, .inl x1), (2, .inl x2), (3, .inl x3)]) (st' := [.inr (.inr (some 5)), .inl (aA_awaited M (x1).toNat)]) (pc' := 11) rfl rfl rfl rfl ?_
    refine ev_get (v := .inr (.inr (some 1))) (pc' := 14) rfl rfl rfl rfl ?_
    refine ev_get (v := .inr (.inr (some 2))) (pc' := 17) rfl rfl rfl rfl ?_
    refine ev_lo (lo' := [(0, .inr (.inr (some 5))), (1, .inl x1), (2, .inl x2), (3, .inl x3)]) (st' := [.inl x2, .inr (.inr (some 2)), .inl (aA_awaited M (x1).toNat)]) (pc' := 18) rfl rfl rfl rfl ?_
    obtain ⟨hs0, h⟩ := h
    refine ev_ald (t := 0) (n := 14) (f := aG_left M) (w := fun x => .inl x) (pc' := 19) rfl rfl (fun _ _ => rfl) rfl hs0 rfl ?_
    obtain ⟨hs0, hs1, h⟩ := h
    refine ev_ii (f := fun a b => a >>> (b &&& 31)) (pc' := 20) rfl rfl (fun _ => rfl) (tm_sr_eq hs0 hs1) rfl ?_
    refine ev_pu (st' := [.inl 1, .inl (tm_sr (aA_awaited M (x1).toNat) (aG_left M (x2).toNat))]) (pc' := 21) rfl rfl rfl rfl ?_
    obtain ⟨hs0, h⟩ := h
    refine ev_ii (f := fun a b => a &&& b) (pc' := 22) rfl rfl (fun _ => rfl) (tm_an_eq hs0 (by decide)) rfl ?_
    refine ev_ifT (pc' := 29) (pc2 := 25) rfl (by decide) rfl rfl (fun hc => ?_) (fun hc => ?_)
    · replace h := h.1 (of_decide_eq_true hc)
      refine ev_pu (st' := [.inl 0]) (pc' := 30) rfl rfl rfl rfl ?_
      exact ev_pick [] rfl rfl h
    · replace h := h.2 (of_decide_eq_false hc)
      refine ev_pu (st' := [.inl 1]) (pc' := 26) rfl rfl rfl rfl ?_
      refine ev_br (pc' := 30) (st' := [.inl 1]) rfl rfl rfl ?_
      exact ev_pick [] rfl rfl h
set_option maxRecDepth 10000 in
theorem b15_30 {t0 : Int} {M : ev_M} {Q : Int → ev_M → Prop}
    (h : (t0 = 0 ∨ t0 = 1) ∧ Q t0 M) : c15_30 t0 M Q := by
  unfold c15_30
  obtain ⟨hs, h⟩ := h
  exact ev_rtZ rfl rfl hs ⟨_, rfl, h⟩
set_option maxRecDepth 10000 in
theorem b15_53 {t0 : Int} {M : ev_M} {Q : Int → ev_M → Prop}
    (h : (t0 = 0 ∨ t0 = 1) ∧ Q t0 M) : c15_53 t0 M Q := by
  unfold c15_53
  obtain ⟨hs, h⟩ := h
  exact ev_rtZ rfl rfl hs ⟨_, rfl, h⟩
/-! NulledForest$Automaton.close(I)V -/
def m16 (x1 : Int) (M : ev_M) (Q : ev_M → Prop) : Prop := ev 16 0 [(0, .inr (.inr (some 5))), (1, .inl x1)] [] M (fun v M1 => v = none ∧ Q M1)
def c16_23 (x1 t1 t2 : Int) (M : ev_M) (Q : ev_M → Prop) : Prop := ev 16 23 [(0, .inr (.inr (some 5))), (1, .inl x1)] [.inl t2, .inl t1, .inr (.inr (some 7))] M (fun v M1 => v = none ∧ Q M1)
def c16_28 (x1 x2 x3 : Int) (M : ev_M) (Q : ev_M → Prop) : Prop := ev 16 28 [(0, .inr (.inr (some 5))), (1, .inl x1), (2, .inl x2), (3, .inl x3)] [] M (fun v M1 => v = none ∧ Q M1)
def c16_49 (x1 x3 x4 x5 : Int) (M : ev_M) (Q : ev_M → Prop) : Prop := ev 16 49 [(0, .inr (.inr (some 5))), (1, .inl x1), (3, .inl x3), (4, .inl x4), (5, .inl x5)] [] M (fun v M1 => v = none ∧ Q M1)
def c16_64 (x1 x3 x4 x5 x6 : Int) (M : ev_M) (Q : ev_M → Prop) : Prop := ev 16 64 [(0, .inr (.inr (some 5))), (1, .inl x1), (3, .inl x3), (4, .inl x4), (5, .inl x5), (6, .inl x6)] [] M (fun v M1 => v = none ∧ Q M1)
def c16_125 (x1 x3 x4 x5 x6 : Int) (M : ev_M) (Q : ev_M → Prop) : Prop := ev 16 125 [(0, .inr (.inr (some 5))), (1, .inl x1), (3, .inl x3), (4, .inl x4), (5, .inl x5), (6, .inl x6)] [] M (fun v M1 => v = none ∧ Q M1)
def c16_153 (x1 x3 t0 : Int) (M : ev_M) (Q : ev_M → Prop) : Prop := ev 16 153 [(0, .inr (.inr (some 5))), (1, .inl x1), (3, .inl x3)] [.inl t0] M (fun v M1 => v = none ∧ Q M1)
def c16_160 (M : ev_M) (Q : ev_M → Prop) : Prop := ev 16 160 [] [] M (fun v M1 => v = none ∧ Q M1)
set_option maxRecDepth 10000 in
theorem b16 {x1 : Int} {M : ev_M} {Q : ev_M → Prop}
    (h : (0 ≤ x1 ∧ x1 < 60) ∧ ((¬ (aA_kernel M (x1).toNat) = 72057594037927936 → (c16_23 x1 x1 0 M Q)) ∧ (¬ (¬ (aA_kernel M (x1).toNat) = 72057594037927936) → (c16_23 x1 x1 1 M Q)))) : m16 x1 M Q := by
  unfold m16
  refine ev_lo (lo' := [(0, .inr (.inr (some 5))), (1, .inl x1)]) (st' := [.inr (.inr (some 5))]) (pc' := 1) rfl rfl rfl rfl ?_
  refine ev_get (v := .inr (.inr (some 7))) (pc' := 4) rfl rfl rfl rfl ?_
  refine ev_lo (lo' := [(0, .inr (.inr (some 5))), (1, .inl x1)]) (st' := [.inl x1, .inr (.inr (some 7))]) (pc' := 5) rfl rfl rfl rfl ?_
  refine ev_lo (lo' := [(0, .inr (.inr (some 5))), (1, .inl x1)]) (st' := [.inr (.inr (some 5)), .inl x1, .inr (.inr (some 7))]) (pc' := 6) rfl rfl rfl rfl ?_
  refine ev_get (v := .inr (.inr (some 6))) (pc' := 9) rfl rfl rfl rfl ?_
  refine ev_lo (lo' := [(0, .inr (.inr (some 5))), (1, .inl x1)]) (st' := [.inl x1, .inr (.inr (some 6)), .inl x1, .inr (.inr (some 7))]) (pc' := 10) rfl rfl rfl rfl ?_
  obtain ⟨hs0, h⟩ := h
  refine ev_ald (t := 1) (n := 60) (f := aA_kernel M) (w := fun x => .inr (.inl x)) (pc' := 11) rfl rfl (fun _ _ => rfl) rfl hs0 rfl ?_
  refine ev_kc (st' := [.inr (.inl 72057594037927936), .inr (.inl (aA_kernel M (x1).toNat)), .inl x1, .inr (.inr (some 7))]) (pc' := 14) rfl rfl rfl rfl ?_
  refine ev_lcmp (pc1 := 15) (pc' := 22) (pc2 := 18) rfl rfl rfl (by decide) rfl rfl (fun hc => ?_) (fun hc => ?_)
  · replace h := h.1 (of_decide_eq_true hc)
    refine ev_pu (st' := [.inl 0, .inl x1, .inr (.inr (some 7))]) (pc' := 23) rfl rfl rfl rfl ?_
    exact ev_pick [0, 1] rfl rfl h
  · replace h := h.2 (of_decide_eq_false hc)
    refine ev_pu (st' := [.inl 1, .inl x1, .inr (.inr (some 7))]) (pc' := 19) rfl rfl rfl rfl ?_
    refine ev_br (pc' := 23) (st' := [.inl 1, .inl x1, .inr (.inr (some 7))]) rfl rfl rfl ?_
    exact ev_pick [0, 1] rfl rfl h
set_option maxRecDepth 10000 in
theorem b16_23 {x1 t1 t2 : Int} {M : ev_M} {Q : ev_M → Prop}
    (h : (0 ≤ t1 ∧ t1 < 60) ∧ (c16_28 x1 1 0 (ev_sA M 7 (t1).toNat t2) Q)) : c16_23 x1 t1 t2 M Q := by
  unfold c16_23
  obtain ⟨hs0, h⟩ := h
  refine ev_iast (n := 60) (f := aA_awaited M) (M' := ev_sA M 7 (t1).toNat t2) (pc' := 24) rfl rfl hs0 (hp_a7 _ _ _) rfl ?_
  refine ev_pu (st' := [.inl 1]) (pc' := 25) rfl rfl rfl rfl ?_
  refine ev_lo (lo' := [(2, .inl 1), (0, .inr (.inr (some 5))), (1, .inl x1)]) (st' := []) (pc' := 26) rfl rfl rfl rfl ?_
  refine ev_pu (st' := [.inl 0]) (pc' := 27) rfl rfl rfl rfl ?_
  refine ev_lo (lo' := [(3, .inl 0), (2, .inl 1), (0, .inr (.inr (some 5))), (1, .inl x1)]) (st' := []) (pc' := 28) rfl rfl rfl rfl ?_
  exact ev_pick [0, 1, 2, 3] rfl rfl h
set_option maxRecDepth 10000 in
theorem b16_28 {x1 x2 x3 : Int} {M : ev_M} {Q : ev_M → Prop}
    (h : (6 < x3 → (c16_160 M Q)) ∧ (¬ (6 < x3) → ((x2 = 0 → (c16_160 M Q)) ∧ (¬ (x2 = 0) → ((0 ≤ x1 ∧ x1 < 60) ∧ (c16_49 x1 x3 (aA_awaited M (x1).toNat) 0 M Q)))))) : c16_28 x1 x2 x3 M Q := by
  unfold c16_28
  refine ev_lo (lo' := [(0, .inr (.inr (some 5))), (1, .inl x1), (2, .inl x2), (3, .inl x3)]) (st' := [.inl x3]) (pc' := 29) rfl rfl rfl rfl ?_
  refine ev_pu (st' := [.inl 6, .inl x3]) (pc' := 31) rfl rfl rfl rfl ?_
  refine ev_icmp (pc' := 160) (pc2 := 34) rfl (by decide) rfl rfl (fun hc => ?_) (fun hc => ?_)
  · replace h := h.1 (of_decide_eq_true hc)
    exact ev_pick [] rfl rfl h
  · replace h := h.2 (of_decide_eq_false hc)
    refine ev_lo (lo' := [(0, .inr (.inr (some 5))), (1, .inl x1), (2, .inl x2), (3, .inl x3)]) (st' := [.inl x2]) (pc' := 35) rfl rfl rfl rfl ?_
    refine ev_ifT (pc' := 160) (pc2 := 38) rfl (by decide) rfl rfl (fun hc => ?_) (fun hc => ?_)
    · replace h := h.1 (of_decide_eq_true hc)
      exact ev_pick [] rfl rfl h
    · replace h := h.2 (of_decide_eq_false hc)
      refine ev_lo (lo' := [(0, .inr (.inr (some 5))), (1, .inl x1), (2, .inl x2), (3, .inl x3)]) (st' := [.inr (.inr (some 5))]) (pc' := 39) rfl rfl rfl rfl ?_
      refine ev_get (v := .inr (.inr (some 7))) (pc' := 42) rfl rfl rfl rfl ?_
      refine ev_lo (lo' := [(0, .inr (.inr (some 5))), (1, .inl x1), (2, .inl x2), (3, .inl x3)]) (st' := [.inl x1, .inr (.inr (some 7))]) (pc' := 43) rfl rfl rfl rfl ?_
      obtain ⟨hs0, h⟩ := h
      refine ev_ald (t := 0) (n := 60) (f := aA_awaited M) (w := fun x => .inl x) (pc' := 44) rfl rfl (fun _ _ => rfl) rfl hs0 rfl ?_
      refine ev_lo (lo' := [(4, .inl (aA_awaited M (x1).toNat)), (0, .inr (.inr (some 5))), (1, .inl x1), (2, .inl x2), (3, .inl x3)]) (st' := []) (pc' := 46) rfl rfl rfl rfl ?_
      refine ev_pu (st' := [.inl 0]) (pc' := 47) rfl rfl rfl rfl ?_
      refine ev_lo (lo' := [(5, .inl 0), (4, .inl (aA_awaited M (x1).toNat)), (0, .inr (.inr (some 5))), (1, .inl x1), (2, .inl x2), (3, .inl x3)]) (st' := []) (pc' := 49) rfl rfl rfl rfl ?_
      exact ev_pick [0, 1, 3, 4, 5] rfl rfl h
set_option maxRecDepth 10000 in
theorem b16_49 {x1 x3 x4 x5 : Int} {M : ev_M} {Q : ev_M → Prop}
    (h : ((sG_count M) ≤ x5 → ((0 ≤ x1 ∧ x1 < 60) ∧ (((aA_awaited M (x1).toNat) = x4 → (c16_153 x1 x3 0 M Q)) ∧ (¬ ((aA_awaited M (x1).toNat) = x4) → (c16_153 x1 x3 1 M Q))))) ∧ (¬ ((sG_count M) ≤ x5) → (c16_64 x1 x3 x4 x5 0 M Q))) : c16_49 x1 x3 x4 x5 M Q := by
  unfold c16_49
  refine ev_lo (lo' := [(0, .inr (.inr (some 5))), (1, .inl x1), (3, .inl x3), (4, .inl x4), (5, .inl x5)]) (st' := [.inl x5]) (pc' := 51) rfl rfl rfl rfl ?_
  refine ev_lo (lo' := [(0, .inr (.inr (some 5))), (1, .inl x1), (3, .inl x3), (4, .inl x4), (5, .inl x5)]) (st' := [.inr (.inr (some 5)), .inl x5]) (pc' := 52) rfl rfl rfl rfl ?_
  refine ev_get (v := .inr (.inr (some 1))) (pc' := 55) rfl rfl rfl rfl ?_
  refine ev_get (v := .inl (sG_count M)) (pc' := 58) rfl rfl rfl rfl ?_
  refine ev_icmp (pc' := 137) (pc2 := 61) rfl (by decide) rfl rfl (fun hc => ?_) (fun hc => ?_)
  · replace h := h.1 (of_decide_eq_true hc)
    refine ev_lo (lo' := [(0, .inr (.inr (some 5))), (1, .inl x1), (3, .inl x3), (4, .inl x4), (5, .inl x5)]) (st' := [.inr (.inr (some 5))]) (pc' := 138) rfl rfl rfl rfl ?_
    refine ev_get (v := .inr (.inr (some 7))) (pc' := 141) rfl rfl rfl rfl ?_
    refine ev_lo (lo' := [(0, .inr (.inr (some 5))), (1, .inl x1), (3, .inl x3), (4, .inl x4), (5, .inl x5)]) (st' := [.inl x1, .inr (.inr (some 7))]) (pc' := 142) rfl rfl rfl rfl ?_
    obtain ⟨hs0, h⟩ := h
    refine ev_ald (t := 0) (n := 60) (f := aA_awaited M) (w := fun x => .inl x) (pc' := 143) rfl rfl (fun _ _ => rfl) rfl hs0 rfl ?_
    refine ev_lo (lo' := [(0, .inr (.inr (some 5))), (1, .inl x1), (3, .inl x3), (4, .inl x4), (5, .inl x5)]) (st' := [.inl x4, .inl (aA_awaited M (x1).toNat)]) (pc' := 145) rfl rfl rfl rfl ?_
    refine ev_icmp (pc' := 152) (pc2 := 148) rfl (by decide) rfl rfl (fun hc => ?_) (fun hc => ?_)
    · replace h := h.1 (of_decide_eq_true hc)
      refine ev_pu (st' := [.inl 0]) (pc' := 153) rfl rfl rfl rfl ?_
      exact ev_pick [0, 1, 3] rfl rfl h
    · replace h := h.2 (of_decide_eq_false hc)
      refine ev_pu (st' := [.inl 1]) (pc' := 149) rfl rfl rfl rfl ?_
      refine ev_br (pc' := 153) (st' := [.inl 1]) rfl rfl rfl ?_
      exact ev_pick [0, 1, 3] rfl rfl h
  · replace h := h.2 (of_decide_eq_false hc)
    refine ev_pu (st' := [.inl 0]) (pc' := 62) rfl rfl rfl rfl ?_
    refine ev_lo (lo' := [(6, .inl 0), (0, .inr (.inr (some 5))), (1, .inl x1), (3, .inl x3), (4, .inl x4), (5, .inl x5)]) (st' := []) (pc' := 64) rfl rfl rfl rfl ?_
    exact ev_pick [0, 1, 3, 4, 5, 6] rfl rfl h
set_option maxRecDepth 10000 in
theorem b16_64 {x1 x3 x4 x5 x6 : Int} {M : ev_M} {Q : ev_M → Prop}
    (h : (0 ≤ x5 ∧ x5 < 14) ∧ (((aG_size M (x5).toNat) ≤ x6 → (tm_iI (x5 + 1) ∧ (c16_49 x1 x3 x4 (x5 + 1) M Q))) ∧ (¬ ((aG_size M (x5).toNat) ≤ x6) → (m4 x5 x6 M (fun w1 M1 => m5 w1 M1 (fun w2 M2 => (w2 = 0 → (c16_125 x1 x3 x4 x5 x6 M2 Q)) ∧ (¬ (w2 = 0) → (m15 x1 x5 x6 M2 (fun w3 M3 => (w3 = 0 → (c16_125 x1 x3 x4 x5 x6 M3 Q)) ∧ (¬ (w3 = 0) → ((0 ≤ x1 ∧ x1 < 60) ∧ ((0 ≤ w1 ∧ w1 < 32) ∧ (1 : Int) * 2 ^ (w1).toNat < 2147483648 ∧ ((0 ≤ (aA_awaited M3 (x1).toNat) ∧ (aA_awaited M3 (x1).toNat) < 2147483648) ∧ (0 ≤ (tm_sl 1 w1) ∧ (tm_sl 1 w1) < 2147483648) ∧ ((0 ≤ x1 ∧ x1 < 60) ∧ (c16_125 x1 x3 x4 x5 x6 (ev_sA M3 7 (x1).toNat (tm_or (aA_awaited M3 (x1).toNat) (tm_sl 1 w1))) Q))))))))))))))) : c16_64 x1 x3 x4 x5 x6 M Q := by
  unfold c16_64
  refine ev_lo (lo' := [(0, .inr (.inr (some 5))), (1, .inl x1), (3, .inl x3), (4, .inl x4), (5, .inl x5), (6, .inl x6)]) (st' := [.inl x6]) (pc' := 66) rfl rfl rfl rfl ?_
  refine ev_lo (lo' := [(0, .inr (.inr (some 5))), (1, .inl x1), (3, .inl x3), (4, .inl x4), (5, .inl x5), (6, .inl x6)]) (st' := [.inr (.inr (some 5)), .inl x6]) (pc' := 67) rfl rfl rfl rfl ?_
  refine ev_get (v := .inr (.inr (some 1))) (pc' := 70) rfl rfl rfl rfl ?_
  refine ev_get (v := .inr (.inr (some 3))) (pc' := 73) rfl rfl rfl rfl ?_
  refine ev_lo (lo' := [(0, .inr (.inr (some 5))), (1, .inl x1), (3, .inl x3), (4, .inl x4), (5, .inl x5), (6, .inl x6)]) (st' := [.inl x5, .inr (.inr (some 3)), .inl x6]) (pc' := 75) rfl rfl rfl rfl ?_
  obtain ⟨hs0, h⟩ := h
  refine ev_ald (t := 0) (n := 14) (f := aG_size M) (w := fun x => .inl x) (pc' := 76) rfl rfl (fun _ _ => rfl) rfl hs0 rfl ?_
  refine ev_icmp (pc' := 131) (pc2 := 79) rfl (by decide) rfl rfl (fun hc => ?_) (fun hc => ?_)
  · replace h := h.1 (of_decide_eq_true hc)
    obtain ⟨hs, h⟩ := h
    refine ev_iinc (lo' := [(5, .inl (x5 + 1)), (0, .inr (.inr (some 5))), (1, .inl x1), (3, .inl x3), (4, .inl x4), (6, .inl x6)]) (pc' := 134) rfl rfl (by decide) (tm_add hs) rfl rfl ?_
    refine ev_br (pc' := 49) (st' := []) rfl rfl rfl ?_
    exact ev_pick [0, 1, 3, 4, 5] rfl rfl h
  · replace h := h.2 (of_decide_eq_false hc)
    refine ev_lo (lo' := [(0, .inr (.inr (some 5))), (1, .inl x1), (3, .inl x3), (4, .inl x4), (5, .inl x5), (6, .inl x6)]) (st' := [.inr (.inr (some 5))]) (pc' := 80) rfl rfl rfl rfl ?_
    refine ev_get (v := .inr (.inr (some 1))) (pc' := 83) rfl rfl rfl rfl ?_
    refine ev_lo (lo' := [(0, .inr (.inr (some 5))), (1, .inl x1), (3, .inl x3), (4, .inl x4), (5, .inl x5), (6, .inl x6)]) (st' := [.inl x5, .inr (.inr (some 1))]) (pc' := 85) rfl rfl rfl rfl ?_
    refine ev_lo (lo' := [(0, .inr (.inr (some 5))), (1, .inl x1), (3, .inl x3), (4, .inl x4), (5, .inl x5), (6, .inl x6)]) (st' := [.inl x6, .inl x5, .inr (.inr (some 1))]) (pc' := 87) rfl rfl rfl rfl ?_
    refine ev_call (as := [.inr (.inr (some 1)), .inl x5, .inl x6]) (r := []) (pc' := 90) rfl rfl (Nat.le_of_ble_eq_true rfl) (Nat.le_of_ble_eq_true rfl) ⟨rfl, rfl⟩ (Nat.le_of_ble_eq_true rfl) rfl rfl rfl rfl ?_
    refine ev.post h (fun v M1 h => ?_)
    obtain ⟨w1, rfl, h⟩ := h
    show ev 16 90 [(0, .inr (.inr (some 5))), (1, .inl x1), (3, .inl x3), (4, .inl x4), (5, .inl x5), (6, .inl x6)] [.inl w1] M1 _
    refine ev_lo (lo' := [(7, .inl w1), (0, .inr (.inr (some 5))), (1, .inl x1), (3, .inl x3), (4, .inl x4), (5, .inl x5), (6, .inl x6)]) (st' := []) (pc' := 92) rfl rfl rfl rfl ?_
    refine ev_lo (lo' := [(7, .inl w1), (0, .inr (.inr (some 5))), (1, .inl x1), (3, .inl x3), (4, .inl x4), (5, .inl x5), (6, .inl x6)]) (st' := [.inl w1]) (pc' := 94) rfl rfl rfl rfl ?_
    refine ev_call (as := [.inl w1]) (r := []) (pc' := 97) rfl rfl (Nat.le_of_ble_eq_true rfl) (Nat.le_of_ble_eq_true rfl) ⟨rfl, rfl⟩ (Nat.le_of_ble_eq_true rfl) rfl rfl rfl rfl ?_
    refine ev.post h (fun v M2 h => ?_)
    obtain ⟨w2, rfl, h⟩ := h
    show ev 16 97 [(7, .inl w1), (0, .inr (.inr (some 5))), (1, .inl x1), (3, .inl x3), (4, .inl x4), (5, .inl x5), (6, .inl x6)] [.inl w2] M2 _
    refine ev_ifT (pc' := 125) (pc2 := 100) rfl (by decide) rfl rfl (fun hc => ?_) (fun hc => ?_)
    · replace h := h.1 (of_decide_eq_true hc)
      exact ev_pick [0, 1, 3, 4, 5, 6] rfl rfl h
    · replace h := h.2 (of_decide_eq_false hc)
      refine ev_lo (lo' := [(7, .inl w1), (0, .inr (.inr (some 5))), (1, .inl x1), (3, .inl x3), (4, .inl x4), (5, .inl x5), (6, .inl x6)]) (st' := [.inr (.inr (some 5))]) (pc' := 101) rfl rfl rfl rfl ?_
      refine ev_lo (lo' := [(7, .inl w1), (0, .inr (.inr (some 5))), (1, .inl x1), (3, .inl x3), (4, .inl x4), (5, .inl x5), (6, .inl x6)]) (st' := [.inl x1, .inr (.inr (some 5))]) (pc' := 102) rfl rfl rfl rfl ?_
      refine ev_lo (lo' := [(7, .inl w1), (0, .inr (.inr (some 5))), (1, .inl x1), (3, .inl x3), (4, .inl x4), (5, .inl x5), (6, .inl x6)]) (st' := [.inl x5, .inl x1, .inr (.inr (some 5))]) (pc' := 104) rfl rfl rfl rfl ?_
      refine ev_lo (lo' := [(7, .inl w1), (0, .inr (.inr (some 5))), (1, .inl x1), (3, .inl x3), (4, .inl x4), (5, .inl x5), (6, .inl x6)]) (st' := [.inl x6, .inl x5, .inl x1, .inr (.inr (some 5))]) (pc' := 106) rfl rfl rfl rfl ?_
      refine ev_call (as := [.inr (.inr (some 5)), .inl x1, .inl x5, .inl x6]) (r := []) (pc' := 109) rfl rfl (Nat.le_of_ble_eq_true rfl) (Nat.le_of_ble_eq_true rfl) ⟨rfl, rfl⟩ (Nat.le_of_ble_eq_true rfl) rfl rfl rfl rfl ?_
      refine ev.post h (fun v M3 h => ?_)
      obtain ⟨w3, rfl, h⟩ := h
      show ev 16 109 [(7, .inl w1), (0, .inr (.inr (some 5))), (1, .inl x1), (3, .inl x3), (4, .inl x4), (5, .inl x5), (6, .inl x6)] [.inl w3] M3 _
      refine ev_ifT (pc' := 125) (pc2 := 112) rfl (by decide) rfl rfl (fun hc => ?_) (fun hc => ?_)
      · replace h := h.1 (of_decide_eq_true hc)
        exact ev_pick [0, 1, 3, 4, 5, 6] rfl rfl h
      · replace h := h.2 (of_decide_eq_false hc)
        refine ev_lo (lo' := [(7, .inl w1), (0, .inr (.inr (some 5))), (1, .inl x1), (3, .inl x3), (4, .inl x4), (5, .inl x5), (6, .inl x6)]) (st' := [.inr (.inr (some 5))]) (pc' := 113) rfl rfl rfl rfl ?_
        refine ev_get (v := .inr (.inr (some 7))) (pc' := 116) rfl rfl rfl rfl ?_
        refine ev_lo (lo' := [(7, .inl w1), (0, .inr (.inr (some 5))), (1, .inl x1), (3, .inl x3), (4, .inl x4), (5, .inl x5), (6, .inl x6)]) (st' := [.inl x1, .inr (.inr (some 7))]) (pc' := 117) rfl rfl rfl rfl ?_
        refine ev_pu (st' := [.inl x1, .inr (.inr (some 7)), .inl x1, .inr (.inr (some 7))]) (pc' := 118) rfl rfl rfl rfl ?_
        obtain ⟨hs0, h⟩ := h
        refine ev_ald (t := 0) (n := 60) (f := aA_awaited M3) (w := fun x => .inl x) (pc' := 119) rfl rfl (fun _ _ => rfl) rfl hs0 rfl ?_
        refine ev_pu (st' := [.inl 1, .inl (aA_awaited M3 (x1).toNat), .inl x1, .inr (.inr (some 7))]) (pc' := 120) rfl rfl rfl rfl ?_
        refine ev_lo (lo' := [(7, .inl w1), (0, .inr (.inr (some 5))), (1, .inl x1), (3, .inl x3), (4, .inl x4), (5, .inl x5), (6, .inl x6)]) (st' := [.inl w1, .inl 1, .inl (aA_awaited M3 (x1).toNat), .inl x1, .inr (.inr (some 7))]) (pc' := 122) rfl rfl rfl rfl ?_
        obtain ⟨hs1, hs2, h⟩ := h
        refine ev_ii (f := fun a b => a <<< (b &&& 31)) (pc' := 123) rfl rfl (fun _ => rfl) (tm_sl_eq (by decide) hs1 hs2) rfl ?_
        obtain ⟨hs0, hs1, h⟩ := h
        refine ev_ii (f := fun a b => a ||| b) (pc' := 124) rfl rfl (fun _ => rfl) (tm_or_eq hs0 hs1) rfl ?_
        obtain ⟨hs0, h⟩ := h
        refine ev_iast (n := 60) (f := aA_awaited M3) (M' := ev_sA M3 7 (x1).toNat (tm_or (aA_awaited M3 (x1).toNat) (tm_sl 1 w1))) (pc' := 125) rfl rfl hs0 (hp_a7 _ _ _) rfl ?_
        exact ev_pick [0, 1, 3, 4, 5, 6] rfl rfl h
set_option maxRecDepth 10000 in
theorem b16_125 {x1 x3 x4 x5 x6 : Int} {M : ev_M} {Q : ev_M → Prop}
    (h : tm_iI (x6 + 1) ∧ (c16_64 x1 x3 x4 x5 (x6 + 1) M Q)) : c16_125 x1 x3 x4 x5 x6 M Q := by
  unfold c16_125
  obtain ⟨hs, h⟩ := h
  refine ev_iinc (lo' := [(6, .inl (x6 + 1)), (0, .inr (.inr (some 5))), (1, .inl x1), (3, .inl x3), (4, .inl x4), (5, .inl x5)]) (pc' := 128) rfl rfl (by decide) (tm_add hs) rfl rfl ?_
  refine ev_br (pc' := 64) (st' := []) rfl rfl rfl ?_
  exact ev_pick [0, 1, 3, 4, 5, 6] rfl rfl h
set_option maxRecDepth 10000 in
theorem b16_153 {x1 x3 t0 : Int} {M : ev_M} {Q : ev_M → Prop}
    (h : tm_iI (x3 + 1) ∧ (c16_28 x1 t0 (x3 + 1) M Q)) : c16_153 x1 x3 t0 M Q := by
  unfold c16_153
  refine ev_lo (lo' := [(2, .inl t0), (0, .inr (.inr (some 5))), (1, .inl x1), (3, .inl x3)]) (st' := []) (pc' := 154) rfl rfl rfl rfl ?_
  obtain ⟨hs, h⟩ := h
  refine ev_iinc (lo' := [(3, .inl (x3 + 1)), (2, .inl t0), (0, .inr (.inr (some 5))), (1, .inl x1)]) (pc' := 157) rfl rfl (by decide) (tm_add hs) rfl rfl ?_
  refine ev_br (pc' := 28) (st' := []) rfl rfl rfl ?_
  exact ev_pick [0, 1, 2, 3] rfl rfl h
set_option maxRecDepth 10000 in
theorem b16_160 {M : ev_M} {Q : ev_M → Prop}
    (h : Q M) : c16_160 M Q := by
  unfold c16_160
  exact ev_rt rfl rfl rfl ⟨rfl, h⟩
/-! NulledForest$Automaton.move(I)V -/
def m17 (x1 : Int) (M : ev_M) (Q : ev_M → Prop) : Prop := ev 17 0 [(0, .inr (.inr (some 5))), (1, .inl x1)] [] M (fun v M1 => v = none ∧ Q M1)
def c17_30 (x1 : Int) (M : ev_M) (Q : ev_M → Prop) : Prop := ev 17 30 [(0, .inr (.inr (some 5))), (1, .inl x1)] [] M (fun v M1 => v = none ∧ Q M1)
def c17_32 (x1 x2 : Int) (M : ev_M) (Q : ev_M → Prop) : Prop := ev 17 32 [(0, .inr (.inr (some 5))), (1, .inl x1), (2, .inl x2)] [] M (fun v M1 => v = none ∧ Q M1)
def c17_45 (x1 x2 x3 : Int) (M : ev_M) (Q : ev_M → Prop) : Prop := ev 17 45 [(0, .inr (.inr (some 5))), (1, .inl x1), (2, .inl x2), (3, .inl x3)] [] M (fun v M1 => v = none ∧ Q M1)
def c17_92 (x1 x2 x3 : Int) (M : ev_M) (Q : ev_M → Prop) : Prop := ev 17 92 [(0, .inr (.inr (some 5))), (1, .inl x1), (2, .inl x2), (3, .inl x3)] [] M (fun v M1 => v = none ∧ Q M1)
set_option maxRecDepth 10000 in
theorem b17 {x1 : Int} {M : ev_M} {Q : ev_M → Prop}
    (h : m2 9 0 M (fun M1 => (0 ≤ x1 ∧ x1 < 60) ∧ ((¬ (aA_kernel M1 (x1).toNat) = 72057594037927936 → (c17_30 x1 M1 Q)) ∧ (¬ (¬ (aA_kernel M1 (x1).toNat) = 72057594037927936) → (c17_30 x1 (ev_sA M1 9 0 144115188075855872) Q))))) : m17 x1 M Q := by
  unfold m17
  refine ev_lo (lo' := [(0, .inr (.inr (some 5))), (1, .inl x1)]) (st' := [.inr (.inr (some 5))]) (pc' := 1) rfl rfl rfl rfl ?_
  refine ev_get (v := .inr (.inr (some 9))) (pc' := 4) rfl rfl rfl rfl ?_
  refine ev_pu (st' := [.inr (.inl 0), .inr (.inr (some 9))]) (pc' := 5) rfl rfl rfl rfl ?_
  refine ev_call (as := [.inr (.inr (some 9)), .inr (.inl 0)]) (r := []) (pc' := 8) rfl rfl (Nat.le_of_ble_eq_true rfl) (Nat.le_of_ble_eq_true rfl) ⟨rfl, rfl⟩ (Nat.le_of_ble_eq_true rfl) rfl rfl rfl rfl ?_
  refine ev.post h (fun v M1 h => ?_)
  obtain ⟨rfl, h⟩ := h
  show ev 17 8 [(0, .inr (.inr (some 5))), (1, .inl x1)] [] M1 _
  refine ev_lo (lo' := [(0, .inr (.inr (some 5))), (1, .inl x1)]) (st' := [.inr (.inr (some 5))]) (pc' := 9) rfl rfl rfl rfl ?_
  refine ev_get (v := .inr (.inr (some 6))) (pc' := 12) rfl rfl rfl rfl ?_
  refine ev_lo (lo' := [(0, .inr (.inr (some 5))), (1, .inl x1)]) (st' := [.inl x1, .inr (.inr (some 6))]) (pc' := 13) rfl rfl rfl rfl ?_
  obtain ⟨hs0, h⟩ := h
  refine ev_ald (t := 1) (n := 60) (f := aA_kernel M1) (w := fun x => .inr (.inl x)) (pc' := 14) rfl rfl (fun _ _ => rfl) rfl hs0 rfl ?_
  refine ev_kc (st' := [.inr (.inl 72057594037927936), .inr (.inl (aA_kernel M1 (x1).toNat))]) (pc' := 17) rfl rfl rfl rfl ?_
  refine ev_lcmp (pc1 := 18) (pc' := 30) (pc2 := 21) rfl rfl rfl (by decide) rfl rfl (fun hc => ?_) (fun hc => ?_)
  · replace h := h.1 (of_decide_eq_true hc)
    exact ev_pick [0, 1] rfl rfl h
  · replace h := h.2 (of_decide_eq_false hc)
    refine ev_lo (lo' := [(0, .inr (.inr (some 5))), (1, .inl x1)]) (st' := [.inr (.inr (some 5))]) (pc' := 22) rfl rfl rfl rfl ?_
    refine ev_get (v := .inr (.inr (some 9))) (pc' := 25) rfl rfl rfl rfl ?_
    refine ev_pu (st' := [.inl 0, .inr (.inr (some 9))]) (pc' := 26) rfl rfl rfl rfl ?_
    refine ev_kc (st' := [.inr (.inl 144115188075855872), .inl 0, .inr (.inr (some 9))]) (pc' := 29) rfl rfl rfl rfl ?_
    refine ev_last (n := 10) (f := aA_moved M1) (M' := ev_sA M1 9 0 144115188075855872) (pc' := 30) rfl rfl (by decide) (hp_a9 _ _ _) rfl ?_
    exact ev_pick [0, 1] rfl rfl h
set_option maxRecDepth 10000 in
theorem b17_30 {x1 : Int} {M : ev_M} {Q : ev_M → Prop}
    (h : c17_32 x1 0 M Q) : c17_30 x1 M Q := by
  unfold c17_30
  refine ev_pu (st' := [.inl 0]) (pc' := 31) rfl rfl rfl rfl ?_
  refine ev_lo (lo' := [(2, .inl 0), (0, .inr (.inr (some 5))), (1, .inl x1)]) (st' := []) (pc' := 32) rfl rfl rfl rfl ?_
  exact ev_pick [0, 1, 2] rfl rfl h
set_option maxRecDepth 10000 in
theorem b17_32 {x1 x2 : Int} {M : ev_M} {Q : ev_M → Prop}
    (h : ((sG_count M) ≤ x2 → (Q M)) ∧ (¬ ((sG_count M) ≤ x2) → (c17_45 x1 x2 0 M Q))) : c17_32 x1 x2 M Q := by
  unfold c17_32
  refine ev_lo (lo' := [(0, .inr (.inr (some 5))), (1, .inl x1), (2, .inl x2)]) (st' := [.inl x2]) (pc' := 33) rfl rfl rfl rfl ?_
  refine ev_lo (lo' := [(0, .inr (.inr (some 5))), (1, .inl x1), (2, .inl x2)]) (st' := [.inr (.inr (some 5)), .inl x2]) (pc' := 34) rfl rfl rfl rfl ?_
  refine ev_get (v := .inr (.inr (some 1))) (pc' := 37) rfl rfl rfl rfl ?_
  refine ev_get (v := .inl (sG_count M)) (pc' := 40) rfl rfl rfl rfl ?_
  refine ev_icmp (pc' := 104) (pc2 := 43) rfl (by decide) rfl rfl (fun hc => ?_) (fun hc => ?_)
  · replace h := h.1 (of_decide_eq_true hc)
    exact ev_rt rfl rfl rfl ⟨rfl, h⟩
  · replace h := h.2 (of_decide_eq_false hc)
    refine ev_pu (st' := [.inl 0]) (pc' := 44) rfl rfl rfl rfl ?_
    refine ev_lo (lo' := [(3, .inl 0), (0, .inr (.inr (some 5))), (1, .inl x1), (2, .inl x2)]) (st' := []) (pc' := 45) rfl rfl rfl rfl ?_
    exact ev_pick [0, 1, 2, 3] rfl rfl h
set_option maxRecDepth 10000 in
theorem b17_45 {x1 x2 x3 : Int} {M : ev_M} {Q : ev_M → Prop}
    (h : (0 ≤ x2 ∧ x2 < 14) ∧ (((aG_size M (x2).toNat) ≤ x3 → (tm_iI (x2 + 1) ∧ (c17_32 x1 (x2 + 1) M Q))) ∧ (¬ ((aG_size M (x2).toNat) ≤ x3) → (m15 x1 x2 x3 M (fun w1 M1 => (w1 = 0 → (c17_92 x1 x2 x3 M1 Q)) ∧ (¬ (w1 = 0) → (m4 x2 x3 M1 (fun w2 M2 => (0 ≤ w2 ∧ w2 < 10) ∧ (tm_iI (x3 + 1) ∧ (m14 x2 (x3 + 1) M2 (fun w3 M3 => (0 ≤ (aA_moved M2 (w2).toNat) ∧ (aA_moved M2 (w2).toNat) < 9223372036854775808) ∧ (0 ≤ w3 ∧ w3 < 9223372036854775808) ∧ ((0 ≤ w2 ∧ w2 < 10) ∧ (c17_92 x1 x2 x3 (ev_sA M3 9 (w2).toNat (tm_or (aA_moved M2 (w2).toNat) w3)) Q))))))))))))) : c17_45 x1 x2 x3 M Q := by
  unfold c17_45
  refine ev_lo (lo' := [(0, .inr (.inr (some 5))), (1, .inl x1), (2, .inl x2), (3, .inl x3)]) (st' := [.inl x3]) (pc' := 46) rfl rfl rfl rfl ?_
  refine ev_lo (lo' := [(0, .inr (.inr (some 5))), (1, .inl x1), (2, .inl x2), (3, .inl x3)]) (st' := [.inr (.inr (some 5)), .inl x3]) (pc' := 47) rfl rfl rfl rfl ?_
  refine ev_get (v := .inr (.inr (some 1))) (pc' := 50) rfl rfl rfl rfl ?_
  refine ev_get (v := .inr (.inr (some 3))) (pc' := 53) rfl rfl rfl rfl ?_
  refine ev_lo (lo' := [(0, .inr (.inr (some 5))), (1, .inl x1), (2, .inl x2), (3, .inl x3)]) (st' := [.inl x2, .inr (.inr (some 3)), .inl x3]) (pc' := 54) rfl rfl rfl rfl ?_
  obtain ⟨hs0, h⟩ := h
  refine ev_ald (t := 0) (n := 14) (f := aG_size M) (w := fun x => .inl x) (pc' := 55) rfl rfl (fun _ _ => rfl) rfl hs0 rfl ?_
  refine ev_icmp (pc' := 98) (pc2 := 58) rfl (by decide) rfl rfl (fun hc => ?_) (fun hc => ?_)
  · replace h := h.1 (of_decide_eq_true hc)
    obtain ⟨hs, h⟩ := h
    refine ev_iinc (lo' := [(2, .inl (x2 + 1)), (0, .inr (.inr (some 5))), (1, .inl x1), (3, .inl x3)]) (pc' := 101) rfl rfl (by decide) (tm_add hs) rfl rfl ?_
    refine ev_br (pc' := 32) (st' := []) rfl rfl rfl ?_
    exact ev_pick [0, 1, 2] rfl rfl h
  · replace h := h.2 (of_decide_eq_false hc)
    refine ev_lo (lo' := [(0, .inr (.inr (some 5))), (1, .inl x1), (2, .inl x2), (3, .inl x3)]) (st' := [.inr (.inr (some 5))]) (pc' := 59) rfl rfl rfl rfl ?_
    refine ev_lo (lo' := [(0, .inr (.inr (some 5))), (1, .inl x1), (2, .inl x2), (3, .inl x3)]) (st' := [.inl x1, .inr (.inr (some 5))]) (pc' := 60) rfl rfl rfl rfl ?_
    refine ev_lo (lo' := [(0, .inr (.inr (some 5))), (1, .inl x1), (2, .inl x2), (3, .inl x3)]) (st' := [.inl x2, .inl x1, .inr (.inr (some 5))]) (pc' := 61) rfl rfl rfl rfl ?_
    refine ev_lo (lo' := [(0, .inr (.inr (some 5))), (1, .inl x1), (2, .inl x2), (3, .inl x3)]) (st' := [.inl x3, .inl x2, .inl x1, .inr (.inr (some 5))]) (pc' := 62) rfl rfl rfl rfl ?_
    refine ev_call (as := [.inr (.inr (some 5)), .inl x1, .inl x2, .inl x3]) (r := []) (pc' := 65) rfl rfl (Nat.le_of_ble_eq_true rfl) (Nat.le_of_ble_eq_true rfl) ⟨rfl, rfl⟩ (Nat.le_of_ble_eq_true rfl) rfl rfl rfl rfl ?_
    refine ev.post h (fun v M1 h => ?_)
    obtain ⟨w1, rfl, h⟩ := h
    show ev 17 65 [(0, .inr (.inr (some 5))), (1, .inl x1), (2, .inl x2), (3, .inl x3)] [.inl w1] M1 _
    refine ev_ifT (pc' := 92) (pc2 := 68) rfl (by decide) rfl rfl (fun hc => ?_) (fun hc => ?_)
    · replace h := h.1 (of_decide_eq_true hc)
      exact ev_pick [0, 1, 2, 3] rfl rfl h
    · replace h := h.2 (of_decide_eq_false hc)
      refine ev_lo (lo' := [(0, .inr (.inr (some 5))), (1, .inl x1), (2, .inl x2), (3, .inl x3)]) (st' := [.inr (.inr (some 5))]) (pc' := 69) rfl rfl rfl rfl ?_
      refine ev_get (v := .inr (.inr (some 9))) (pc' := 72) rfl rfl rfl rfl ?_
      refine ev_lo (lo' := [(0, .inr (.inr (some 5))), (1, .inl x1), (2, .inl x2), (3, .inl x3)]) (st' := [.inr (.inr (some 5)), .inr (.inr (some 9))]) (pc' := 73) rfl rfl rfl rfl ?_
      refine ev_get (v := .inr (.inr (some 1))) (pc' := 76) rfl rfl rfl rfl ?_
      refine ev_lo (lo' := [(0, .inr (.inr (some 5))), (1, .inl x1), (2, .inl x2), (3, .inl x3)]) (st' := [.inl x2, .inr (.inr (some 1)), .inr (.inr (some 9))]) (pc' := 77) rfl rfl rfl rfl ?_
      refine ev_lo (lo' := [(0, .inr (.inr (some 5))), (1, .inl x1), (2, .inl x2), (3, .inl x3)]) (st' := [.inl x3, .inl x2, .inr (.inr (some 1)), .inr (.inr (some 9))]) (pc' := 78) rfl rfl rfl rfl ?_
      refine ev_call (as := [.inr (.inr (some 1)), .inl x2, .inl x3]) (r := [.inr (.inr (some 9))]) (pc' := 81) rfl rfl (Nat.le_of_ble_eq_true rfl) (Nat.le_of_ble_eq_true rfl) ⟨rfl, rfl⟩ (Nat.le_of_ble_eq_true rfl) rfl rfl rfl rfl ?_
      refine ev.post h (fun v M2 h => ?_)
      obtain ⟨w2, rfl, h⟩ := h
      show ev 17 81 [(0, .inr (.inr (some 5))), (1, .inl x1), (2, .inl x2), (3, .inl x3)] [.inl w2, .inr (.inr (some 9))] M2 _
      refine ev_pu (st' := [.inl w2, .inr (.inr (some 9)), .inl w2, .inr (.inr (some 9))]) (pc' := 82) rfl rfl rfl rfl ?_
      obtain ⟨hs0, h⟩ := h
      refine ev_ald (t := 1) (n := 10) (f := aA_moved M2) (w := fun x => .inr (.inl x)) (pc' := 83) rfl rfl (fun _ _ => rfl) rfl hs0 rfl ?_
      refine ev_lo (lo' := [(0, .inr (.inr (some 5))), (1, .inl x1), (2, .inl x2), (3, .inl x3)]) (st' := [.inl x2, .inr (.inl (aA_moved M2 (w2).toNat)), .inl w2, .inr (.inr (some 9))]) (pc' := 84) rfl rfl rfl rfl ?_
      refine ev_lo (lo' := [(0, .inr (.inr (some 5))), (1, .inl x1), (2, .inl x2), (3, .inl x3)]) (st' := [.inl x3, .inl x2, .inr (.inl (aA_moved M2 (w2).toNat)), .inl w2, .inr (.inr (some 9))]) (pc' := 85) rfl rfl rfl rfl ?_
      refine ev_pu (st' := [.inl 1, .inl x3, .inl x2, .inr (.inl (aA_moved M2 (w2).toNat)), .inl w2, .inr (.inr (some 9))]) (pc' := 86) rfl rfl rfl rfl ?_
      obtain ⟨hs, h⟩ := h
      refine ev_ii (f := fun a b => a + b) (pc' := 87) rfl rfl (fun _ => rfl) (tm_add hs) rfl ?_
      refine ev_call (as := [.inl x2, .inl (x3 + 1)]) (r := [.inr (.inl (aA_moved M2 (w2).toNat)), .inl w2, .inr (.inr (some 9))]) (pc' := 90) rfl rfl (Nat.le_of_ble_eq_true rfl) (Nat.le_of_ble_eq_true rfl) ⟨rfl, rfl⟩ (Nat.le_of_ble_eq_true rfl) rfl rfl rfl rfl ?_
      refine ev.post h (fun v M3 h => ?_)
      obtain ⟨w3, rfl, h⟩ := h
      show ev 17 90 [(0, .inr (.inr (some 5))), (1, .inl x1), (2, .inl x2), (3, .inl x3)] [.inr (.inl w3), .inr (.inl (aA_moved M2 (w2).toNat)), .inl w2, .inr (.inr (some 9))] M3 _
      obtain ⟨hs0, hs1, h⟩ := h
      refine ev_ll (f := fun a b => a ||| b) (pc' := 91) rfl rfl (fun _ => rfl) (tm_lor_eq hs0 hs1) rfl ?_
      obtain ⟨hs0, h⟩ := h
      refine ev_last (n := 10) (f := aA_moved M3) (M' := ev_sA M3 9 (w2).toNat (tm_or (aA_moved M2 (w2).toNat) w3)) (pc' := 92) rfl rfl hs0 (hp_a9 _ _ _) rfl ?_
      exact ev_pick [0, 1, 2, 3] rfl rfl h
set_option maxRecDepth 10000 in
theorem b17_92 {x1 x2 x3 : Int} {M : ev_M} {Q : ev_M → Prop}
    (h : tm_iI (x3 + 1) ∧ (c17_45 x1 x2 (x3 + 1) M Q)) : c17_92 x1 x2 x3 M Q := by
  unfold c17_92
  obtain ⟨hs, h⟩ := h
  refine ev_iinc (lo' := [(3, .inl (x3 + 1)), (0, .inr (.inr (some 5))), (1, .inl x1), (2, .inl x2)]) (pc' := 95) rfl rfl (by decide) (tm_add hs) rfl rfl ?_
  refine ev_br (pc' := 45) (st' := []) rfl rfl rfl ?_
  exact ev_pick [0, 1, 2, 3] rfl rfl h
/-! NulledForest$Automaton.stateOf(J)I -/
def m18 (x1 : Int) (M : ev_M) (Q : Int → ev_M → Prop) : Prop := ev 18 0 [(0, .inr (.inr (some 5))), (1, .inr (.inl x1))] [] M (fun v M1 => ∃ w : Int, v = some (.inl w) ∧ Q w M1)
def c18_2 (x1 x3 : Int) (M : ev_M) (Q : Int → ev_M → Prop) : Prop := ev 18 2 [(0, .inr (.inr (some 5))), (1, .inr (.inl x1)), (3, .inl x3)] [] M (fun v M1 => ∃ w : Int, v = some (.inl w) ∧ Q w M1)
set_option maxRecDepth 10000 in
theorem b18 {x1 : Int} {M : ev_M} {Q : Int → ev_M → Prop}
    (h : c18_2 x1 0 M Q) : m18 x1 M Q := by
  unfold m18
  refine ev_pu (st' := [.inl 0]) (pc' := 1) rfl rfl rfl rfl ?_
  refine ev_lo (lo' := [(3, .inl 0), (0, .inr (.inr (some 5))), (1, .inr (.inl x1))]) (st' := []) (pc' := 2) rfl rfl rfl rfl ?_
  exact ev_pick [0, 1, 3] rfl rfl h
set_option maxRecDepth 10000 in
theorem b18_2 {x1 x3 : Int} {M : ev_M} {Q : Int → ev_M → Prop}
    (h : ((sA_count M) ≤ x3 → (((sA_count M) < 60 → ((0 ≤ (sA_count M) ∧ (sA_count M) < 60) ∧ (tm_iI ((sA_count M) + 1) ∧ (tm_iI (((sA_count M) + 1) - 1) ∧ (Q (((sA_count M) + 1) - 1) (ev_sS (ev_sA M 6 (sA_count M).toNat x1) 4 ((sA_count M) + 1))))))) ∧ (¬ ((sA_count M) < 60) → (Q 60 M)))) ∧ (¬ ((sA_count M) ≤ x3) → ((0 ≤ x3 ∧ x3 < 60) ∧ ((¬ (aA_kernel M (x3).toNat) = x1 → (tm_iI (x3 + 1) ∧ (c18_2 x1 (x3 + 1) M Q))) ∧ (¬ (¬ (aA_kernel M (x3).toNat) = x1) → (Q x3 M)))))) : c18_2 x1 x3 M Q := by
  unfold c18_2
  refine ev_lo (lo' := [(0, .inr (.inr (some 5))), (1, .inr (.inl x1)), (3, .inl x3)]) (st' := [.inl x3]) (pc' := 3) rfl rfl rfl rfl ?_
  refine ev_lo (lo' := [(0, .inr (.inr (some 5))), (1, .inr (.inl x1)), (3, .inl x3)]) (st' := [.inr (.inr (some 5)), .inl x3]) (pc' := 4) rfl rfl rfl rfl ?_
  refine ev_get (v := .inl (sA_count M)) (pc' := 7) rfl rfl rfl rfl ?_
  refine ev_icmp (pc' := 29) (pc2 := 10) rfl (by decide) rfl rfl (fun hc => ?_) (fun hc => ?_)
  · replace h := h.1 (of_decide_eq_true hc)
    refine ev_lo (lo' := [(0, .inr (.inr (some 5))), (1, .inr (.inl x1)), (3, .inl x3)]) (st' := [.inr (.inr (some 5))]) (pc' := 30) rfl rfl rfl rfl ?_
    refine ev_get (v := .inl (sA_count M)) (pc' := 33) rfl rfl rfl rfl ?_
    refine ev_pu (st' := [.inl 60, .inl (sA_count M)]) (pc' := 35) rfl rfl rfl rfl ?_
    refine ev_icmp (pc' := 41) (pc2 := 38) rfl (by decide) rfl rfl (fun hc => ?_) (fun hc => ?_)
    · replace h := h.1 (of_decide_eq_true hc)
      refine ev_lo (lo' := [(0, .inr (.inr (some 5))), (1, .inr (.inl x1)), (3, .inl x3)]) (st' := [.inr (.inr (some 5))]) (pc' := 42) rfl rfl rfl rfl ?_
      refine ev_get (v := .inr (.inr (some 6))) (pc' := 45) rfl rfl rfl rfl ?_
      refine ev_lo (lo' := [(0, .inr (.inr (some 5))), (1, .inr (.inl x1)), (3, .inl x3)]) (st' := [.inr (.inr (some 5)), .inr (.inr (some 6))]) (pc' := 46) rfl rfl rfl rfl ?_
      refine ev_get (v := .inl (sA_count M)) (pc' := 49) rfl rfl rfl rfl ?_
      refine ev_lo (lo' := [(0, .inr (.inr (some 5))), (1, .inr (.inl x1)), (3, .inl x3)]) (st' := [.inr (.inl x1), .inl (sA_count M), .inr (.inr (some 6))]) (pc' := 50) rfl rfl rfl rfl ?_
      obtain ⟨hs0, h⟩ := h
      refine ev_last (n := 60) (f := aA_kernel M) (M' := ev_sA M 6 (sA_count M).toNat x1) (pc' := 51) rfl rfl hs0 (hp_a6 _ _ _) rfl ?_
      refine ev_lo (lo' := [(0, .inr (.inr (some 5))), (1, .inr (.inl x1)), (3, .inl x3)]) (st' := [.inr (.inr (some 5))]) (pc' := 52) rfl rfl rfl rfl ?_
      refine ev_pu (st' := [.inr (.inr (some 5)), .inr (.inr (some 5))]) (pc' := 53) rfl rfl rfl rfl ?_
      refine ev_get (v := .inl (sA_count M)) (pc' := 56) rfl rfl rfl rfl ?_
      refine ev_pu (st' := [.inl 1, .inl (sA_count M), .inr (.inr (some 5))]) (pc' := 57) rfl rfl rfl rfl ?_
      obtain ⟨hs, h⟩ := h
      refine ev_ii (f := fun a b => a + b) (pc' := 58) rfl rfl (fun _ => rfl) (tm_add hs) rfl ?_
      refine ev_put (M' := ev_sS (ev_sA M 6 (sA_count M).toNat x1) 4 ((sA_count M) + 1)) (pc' := 61) rfl rfl (Nat.le_of_ble_eq_true rfl) rfl (hp_s4 _ _) rfl ?_
      refine ev_lo (lo' := [(0, .inr (.inr (some 5))), (1, .inr (.inl x1)), (3, .inl x3)]) (st' := [.inr (.inr (some 5))]) (pc' := 62) rfl rfl rfl rfl ?_
      refine ev_get (v := .inl ((sA_count M) + 1)) (pc' := 65) rfl rfl rfl rfl ?_
      refine ev_pu (st' := [.inl 1, .inl ((sA_count M) + 1)]) (pc' := 66) rfl rfl rfl rfl ?_
      obtain ⟨hs, h⟩ := h
      refine ev_ii (f := fun a b => a - b) (pc' := 67) rfl rfl (fun _ => rfl) (tm_sub' hs) rfl ?_
      exact ev_rt rfl rfl rfl ⟨_, rfl, h⟩
    · replace h := h.2 (of_decide_eq_false hc)
      refine ev_pu (st' := [.inl 60]) (pc' := 40) rfl rfl rfl rfl ?_
      exact ev_rt rfl rfl rfl ⟨_, rfl, h⟩
  · replace h := h.2 (of_decide_eq_false hc)
    refine ev_lo (lo' := [(0, .inr (.inr (some 5))), (1, .inr (.inl x1)), (3, .inl x3)]) (st' := [.inr (.inr (some 5))]) (pc' := 11) rfl rfl rfl rfl ?_
    refine ev_get (v := .inr (.inr (some 6))) (pc' := 14) rfl rfl rfl rfl ?_
    refine ev_lo (lo' := [(0, .inr (.inr (some 5))), (1, .inr (.inl x1)), (3, .inl x3)]) (st' := [.inl x3, .inr (.inr (some 6))]) (pc' := 15) rfl rfl rfl rfl ?_
    obtain ⟨hs0, h⟩ := h
    refine ev_ald (t := 1) (n := 60) (f := aA_kernel M) (w := fun x => .inr (.inl x)) (pc' := 16) rfl rfl (fun _ _ => rfl) rfl hs0 rfl ?_
    refine ev_lo (lo' := [(0, .inr (.inr (some 5))), (1, .inr (.inl x1)), (3, .inl x3)]) (st' := [.inr (.inl x1), .inr (.inl (aA_kernel M (x3).toNat))]) (pc' := 17) rfl rfl rfl rfl ?_
    refine ev_lcmp (pc1 := 18) (pc' := 23) (pc2 := 21) rfl rfl rfl (by decide) rfl rfl (fun hc => ?_) (fun hc => ?_)
    · replace h := h.1 (of_decide_eq_true hc)
      obtain ⟨hs, h⟩ := h
      refine ev_iinc (lo' := [(3, .inl (x3 + 1)), (0, .inr (.inr (some 5))), (1, .inr (.inl x1))]) (pc' := 26) rfl rfl (by decide) (tm_add hs) rfl rfl ?_
      refine ev_br (pc' := 2) (st' := []) rfl rfl rfl ?_
      exact ev_pick [0, 1, 3] rfl rfl h
    · replace h := h.2 (of_decide_eq_false hc)
      refine ev_lo (lo' := [(0, .inr (.inr (some 5))), (1, .inr (.inl x1)), (3, .inl x3)]) (st' := [.inl x3]) (pc' := 22) rfl rfl rfl rfl ?_
      exact ev_rt rfl rfl rfl ⟨_, rfl, h⟩
/-! NulledForest$Automaton.build()Z -/
def m19 (M : ev_M) (Q : Int → ev_M → Prop) : Prop := ev 19 0 [(0, .inr (.inr (some 5)))] [] M (fun v M1 => ∃ w : Int, v = some (.inl w) ∧ Q w M1)
def c19_16 (x1 : Int) (M : ev_M) (Q : Int → ev_M → Prop) : Prop := ev 19 16 [(0, .inr (.inr (some 5))), (1, .inl x1)] [] M (fun v M1 => ∃ w : Int, v = some (.inl w) ∧ Q w M1)
def c19_42 (x1 x2 : Int) (M : ev_M) (Q : Int → ev_M → Prop) : Prop := ev 19 42 [(0, .inr (.inr (some 5))), (1, .inl x1), (2, .inl x2)] [] M (fun v M1 => ∃ w : Int, v = some (.inl w) ∧ Q w M1)
def c19_73 (x1 x2 t0 : Int) (M : ev_M) (Q : Int → ev_M → Prop) : Prop := ev 19 73 [(0, .inr (.inr (some 5))), (1, .inl x1), (2, .inl x2)] [.inl t0] M (fun v M1 => ∃ w : Int, v = some (.inl w) ∧ Q w M1)
def c19_106 (M : ev_M) (Q : Int → ev_M → Prop) : Prop := ev 19 106 [] [] M (fun v M1 => ∃ w : Int, v = some (.inl w) ∧ Q w M1)
set_option maxRecDepth 10000 in
theorem b19 {M : ev_M} {Q : Int → ev_M → Prop}
    (h : c19_16 0 (ev_sS (ev_sA M 6 0 72057594037927936) 4 1) Q) : m19 M Q := by
  unfold m19
  refine ev_lo (lo' := [(0, .inr (.inr (some 5)))]) (st' := [.inr (.inr (some 5))]) (pc' := 1) rfl rfl rfl rfl ?_
  refine ev_get (v := .inr (.inr (some 6))) (pc' := 4) rfl rfl rfl rfl ?_
  refine ev_pu (st' := [.inl 0, .inr (.inr (some 6))]) (pc' := 5) rfl rfl rfl rfl ?_
  refine ev_kc (st' := [.inr (.inl 72057594037927936), .inl 0, .inr (.inr (some 6))]) (pc' := 8) rfl rfl rfl rfl ?_
  refine ev_last (n := 60) (f := aA_kernel M) (M' := ev_sA M 6 0 72057594037927936) (pc' := 9) rfl rfl (by decide) (hp_a6 _ _ _) rfl ?_
  refine ev_lo (lo' := [(0, .inr (.inr (some 5)))]) (st' := [.inr (.inr (some 5))]) (pc' := 10) rfl rfl rfl rfl ?_
  refine ev_pu (st' := [.inl 1, .inr (.inr (some 5))]) (pc' := 11) rfl rfl rfl rfl ?_
  refine ev_put (M' := ev_sS (ev_sA M 6 0 72057594037927936) 4 1) (pc' := 14) rfl rfl (Nat.le_of_ble_eq_true rfl) rfl (hp_s4 _ _) rfl ?_
  refine ev_pu (st' := [.inl 0]) (pc' := 15) rfl rfl rfl rfl ?_
  refine ev_lo (lo' := [(1, .inl 0), (0, .inr (.inr (some 5)))]) (st' := []) (pc' := 16) rfl rfl rfl rfl ?_
  exact ev_pick [0, 1] rfl rfl h
set_option maxRecDepth 10000 in
theorem b19_16 {x1 : Int} {M : ev_M} {Q : Int → ev_M → Prop}
    (h : ((sA_count M) ≤ x1 → (c19_106 M Q)) ∧ (¬ ((sA_count M) ≤ x1) → ((60 ≤ x1 → (c19_106 M Q)) ∧ (¬ (60 ≤ x1) → (m16 x1 M (fun M1 => m17 x1 M1 (fun M2 => c19_42 x1 0 M2 Q))))))) : c19_16 x1 M Q := by
  unfold c19_16
  refine ev_lo (lo' := [(0, .inr (.inr (some 5))), (1, .inl x1)]) (st' := [.inl x1]) (pc' := 17) rfl rfl rfl rfl ?_
  refine ev_lo (lo' := [(0, .inr (.inr (some 5))), (1, .inl x1)]) (st' := [.inr (.inr (some 5)), .inl x1]) (pc' := 18) rfl rfl rfl rfl ?_
  refine ev_get (v := .inl (sA_count M)) (pc' := 21) rfl rfl rfl rfl ?_
  refine ev_icmp (pc' := 106) (pc2 := 24) rfl (by decide) rfl rfl (fun hc => ?_) (fun hc => ?_)
  · replace h := h.1 (of_decide_eq_true hc)
    exact ev_pick [] rfl rfl h
  · replace h := h.2 (of_decide_eq_false hc)
    refine ev_lo (lo' := [(0, .inr (.inr (some 5))), (1, .inl x1)]) (st' := [.inl x1]) (pc' := 25) rfl rfl rfl rfl ?_
    refine ev_pu (st' := [.inl 60, .inl x1]) (pc' := 27) rfl rfl rfl rfl ?_
    refine ev_icmp (pc' := 106) (pc2 := 30) rfl (by decide) rfl rfl (fun hc => ?_) (fun hc => ?_)
    · replace h := h.1 (of_decide_eq_true hc)
      exact ev_pick [] rfl rfl h
    · replace h := h.2 (of_decide_eq_false hc)
      refine ev_lo (lo' := [(0, .inr (.inr (some 5))), (1, .inl x1)]) (st' := [.inr (.inr (some 5))]) (pc' := 31) rfl rfl rfl rfl ?_
      refine ev_lo (lo' := [(0, .inr (.inr (some 5))), (1, .inl x1)]) (st' := [.inl x1, .inr (.inr (some 5))]) (pc' := 32) rfl rfl rfl rfl ?_
      refine ev_call (as := [.inr (.inr (some 5)), .inl x1]) (r := []) (pc' := 35) rfl rfl (Nat.le_of_ble_eq_true rfl) (Nat.le_of_ble_eq_true rfl) ⟨rfl, rfl⟩ (Nat.le_of_ble_eq_true rfl) rfl rfl rfl rfl ?_
      refine ev.post h (fun v M1 h => ?_)
      obtain ⟨rfl, h⟩ := h
      show ev 19 35 [(0, .inr (.inr (some 5))), (1, .inl x1)] [] M1 _
      refine ev_lo (lo' := [(0, .inr (.inr (some 5))), (1, .inl x1)]) (st' := [.inr (.inr (some 5))]) (pc' := 36) rfl rfl rfl rfl ?_
      refine ev_lo (lo' := [(0, .inr (.inr (some 5))), (1, .inl x1)]) (st' := [.inl x1, .inr (.inr (some 5))]) (pc' := 37) rfl rfl rfl rfl ?_
      refine ev_call (as := [.inr (.inr (some 5)), .inl x1]) (r := []) (pc' := 40) rfl rfl (Nat.le_of_ble_eq_true rfl) (Nat.le_of_ble_eq_true rfl) ⟨rfl, rfl⟩ (Nat.le_of_ble_eq_true rfl) rfl rfl rfl rfl ?_
      refine ev.post h (fun v M2 h => ?_)
      obtain ⟨rfl, h⟩ := h
      show ev 19 40 [(0, .inr (.inr (some 5))), (1, .inl x1)] [] M2 _
      refine ev_pu (st' := [.inl 0]) (pc' := 41) rfl rfl rfl rfl ?_
      refine ev_lo (lo' := [(2, .inl 0), (0, .inr (.inr (some 5))), (1, .inl x1)]) (st' := []) (pc' := 42) rfl rfl rfl rfl ?_
      exact ev_pick [0, 1, 2] rfl rfl h
set_option maxRecDepth 10000 in
theorem b19_42 {x1 x2 : Int} {M : ev_M} {Q : Int → ev_M → Prop}
    (h : (10 ≤ x2 → (tm_iI (x1 + 1) ∧ (c19_16 (x1 + 1) M Q))) ∧ (¬ (10 ≤ x2) → ((0 ≤ x2 ∧ x2 < 10) ∧ ((¬ (aA_moved M (x2).toNat) = 0 → ((0 ≤ x2 ∧ x2 < 10) ∧ (m18 (aA_moved M (x2).toNat) M (fun w1 M1 => c19_73 x1 x2 w1 M1 Q)))) ∧ (¬ (¬ (aA_moved M (x2).toNat) = 0) → (c19_73 x1 x2 (-1) M Q)))))) : c19_42 x1 x2 M Q := by
  unfold c19_42
  refine ev_lo (lo' := [(0, .inr (.inr (some 5))), (1, .inl x1), (2, .inl x2)]) (st' := [.inl x2]) (pc' := 43) rfl rfl rfl rfl ?_
  refine ev_pu (st' := [.inl 10, .inl x2]) (pc' := 45) rfl rfl rfl rfl ?_
  refine ev_icmp (pc' := 100) (pc2 := 48) rfl (by decide) rfl rfl (fun hc => ?_) (fun hc => ?_)
  · replace h := h.1 (of_decide_eq_true hc)
    obtain ⟨hs, h⟩ := h
    refine ev_iinc (lo' := [(1, .inl (x1 + 1)), (0, .inr (.inr (some 5))), (2, .inl x2)]) (pc' := 103) rfl rfl (by decide) (tm_add hs) rfl rfl ?_
    refine ev_br (pc' := 16) (st' := []) rfl rfl rfl ?_
    exact ev_pick [0, 1] rfl rfl h
  · replace h := h.2 (of_decide_eq_false hc)
    refine ev_lo (lo' := [(0, .inr (.inr (some 5))), (1, .inl x1), (2, .inl x2)]) (st' := [.inr (.inr (some 5))]) (pc' := 49) rfl rfl rfl rfl ?_
    refine ev_get (v := .inr (.inr (some 9))) (pc' := 52) rfl rfl rfl rfl ?_
    refine ev_lo (lo' := [(0, .inr (.inr (some 5))), (1, .inl x1), (2, .inl x2)]) (st' := [.inl x2, .inr (.inr (some 9))]) (pc' := 53) rfl rfl rfl rfl ?_
    obtain ⟨hs0, h⟩ := h
    refine ev_ald (t := 1) (n := 10) (f := aA_moved M) (w := fun x => .inr (.inl x)) (pc' := 54) rfl rfl (fun _ _ => rfl) rfl hs0 rfl ?_
    refine ev_pu (st' := [.inr (.inl 0), .inr (.inl (aA_moved M (x2).toNat))]) (pc' := 55) rfl rfl rfl rfl ?_
    refine ev_lcmp (pc1 := 56) (pc' := 63) (pc2 := 59) rfl rfl rfl (by decide) rfl rfl (fun hc => ?_) (fun hc => ?_)
    · replace h := h.1 (of_decide_eq_true hc)
      refine ev_lo (lo' := [(0, .inr (.inr (some 5))), (1, .inl x1), (2, .inl x2)]) (st' := [.inr (.inr (some 5))]) (pc' := 64) rfl rfl rfl rfl ?_
      refine ev_lo (lo' := [(0, .inr (.inr (some 5))), (1, .inl x1), (2, .inl x2)]) (st' := [.inr (.inr (some 5)), .inr (.inr (some 5))]) (pc' := 65) rfl rfl rfl rfl ?_
      refine ev_get (v := .inr (.inr (some 9))) (pc' := 68) rfl rfl rfl rfl ?_
      refine ev_lo (lo' := [(0, .inr (.inr (some 5))), (1, .inl x1), (2, .inl x2)]) (st' := [.inl x2, .inr (.inr (some 9)), .inr (.inr (some 5))]) (pc' := 69) rfl rfl rfl rfl ?_
      obtain ⟨hs0, h⟩ := h
      refine ev_ald (t := 1) (n := 10) (f := aA_moved M) (w := fun x => .inr (.inl x)) (pc' := 70) rfl rfl (fun _ _ => rfl) rfl hs0 rfl ?_
      refine ev_call (as := [.inr (.inr (some 5)), .inr (.inl (aA_moved M (x2).toNat))]) (r := []) (pc' := 73) rfl rfl (Nat.le_of_ble_eq_true rfl) (Nat.le_of_ble_eq_true rfl) ⟨rfl, rfl⟩ (Nat.le_of_ble_eq_true rfl) rfl rfl rfl rfl ?_
      refine ev.post h (fun v M1 h => ?_)
      obtain ⟨w1, rfl, h⟩ := h
      show ev 19 73 [(0, .inr (.inr (some 5))), (1, .inl x1), (2, .inl x2)] [.inl w1] M1 _
      exact ev_pick [0, 1, 2] rfl rfl h
    · replace h := h.2 (of_decide_eq_false hc)
      refine ev_pu (st' := [.inl (-1)]) (pc' := 60) rfl rfl rfl rfl ?_
      refine ev_br (pc' := 73) (st' := [.inl (-1)]) rfl rfl rfl ?_
      exact ev_pick [0, 1, 2] rfl rfl h
set_option maxRecDepth 10000 in
theorem b19_73 {x1 x2 t0 : Int} {M : ev_M} {Q : Int → ev_M → Prop}
    (h : (¬ t0 = 60 → (tm_iI (x1 * 10) ∧ (tm_iI ((x1 * 10) + x2) ∧ ((0 ≤ ((x1 * 10) + x2) ∧ ((x1 * 10) + x2) < 600) ∧ (tm_iI (x2 + 1) ∧ (c19_42 x1 (x2 + 1) (ev_sA M 8 ((x1 * 10) + x2).toNat t0) Q)))))) ∧ (¬ (¬ t0 = 60) → (Q 0 M))) : c19_73 x1 x2 t0 M Q := by
  unfold c19_73
  refine ev_lo (lo' := [(3, .inl t0), (0, .inr (.inr (some 5))), (1, .inl x1), (2, .inl x2)]) (st' := []) (pc' := 74) rfl rfl rfl rfl ?_
  refine ev_lo (lo' := [(3, .inl t0), (0, .inr (.inr (some 5))), (1, .inl x1), (2, .inl x2)]) (st' := [.inl t0]) (pc' := 75) rfl rfl rfl rfl ?_
  refine ev_pu (st' := [.inl 60, .inl t0]) (pc' := 77) rfl rfl rfl rfl ?_
  refine ev_icmp (pc' := 82) (pc2 := 80) rfl (by decide) rfl rfl (fun hc => ?_) (fun hc => ?_)
  · replace h := h.1 (of_decide_eq_true hc)
    refine ev_lo (lo' := [(3, .inl t0), (0, .inr (.inr (some 5))), (1, .inl x1), (2, .inl x2)]) (st' := [.inr (.inr (some 5))]) (pc' := 83) rfl rfl rfl rfl ?_
    refine ev_get (v := .inr (.inr (some 8))) (pc' := 86) rfl rfl rfl rfl ?_
    refine ev_lo (lo' := [(3, .inl t0), (0, .inr (.inr (some 5))), (1, .inl x1), (2, .inl x2)]) (st' := [.inl x1, .inr (.inr (some 8))]) (pc' := 87) rfl rfl rfl rfl ?_
    refine ev_pu (st' := [.inl 10, .inl x1, .inr (.inr (some 8))]) (pc' := 89) rfl rfl rfl rfl ?_
    obtain ⟨hs, h⟩ := h
    refine ev_ii (f := fun a b => a * b) (pc' := 90) rfl rfl (fun _ => rfl) (tm_mul hs) rfl ?_
    refine ev_lo (lo' := [(3, .inl t0), (0, .inr (.inr (some 5))), (1, .inl x1), (2, .inl x2)]) (st' := [.inl x2, .inl (x1 * 10), .inr (.inr (some 8))]) (pc' := 91) rfl rfl rfl rfl ?_
    obtain ⟨hs, h⟩ := h
    refine ev_ii (f := fun a b => a + b) (pc' := 92) rfl rfl (fun _ => rfl) (tm_add hs) rfl ?_
    refine ev_lo (lo' := [(3, .inl t0), (0, .inr (.inr (some 5))), (1, .inl x1), (2, .inl x2)]) (st' := [.inl t0, .inl ((x1 * 10) + x2), .inr (.inr (some 8))]) (pc' := 93) rfl rfl rfl rfl ?_
    obtain ⟨hs0, h⟩ := h
    refine ev_iast (n := 600) (f := aA_goal M) (M' := ev_sA M 8 ((x1 * 10) + x2).toNat t0) (pc' := 94) rfl rfl hs0 (hp_a8 _ _ _) rfl ?_
    obtain ⟨hs, h⟩ := h
    refine ev_iinc (lo' := [(2, .inl (x2 + 1)), (3, .inl t0), (0, .inr (.inr (some 5))), (1, .inl x1)]) (pc' := 97) rfl rfl (by decide) (tm_add hs) rfl rfl ?_
    refine ev_br (pc' := 42) (st' := []) rfl rfl rfl ?_
    exact ev_pick [0, 1, 2] rfl rfl h
  · replace h := h.2 (of_decide_eq_false hc)
    refine ev_pu (st' := [.inl 0]) (pc' := 81) rfl rfl rfl rfl ?_
    exact ev_rt rfl rfl rfl ⟨_, rfl, h⟩
set_option maxRecDepth 10000 in
theorem b19_106 {M : ev_M} {Q : Int → ev_M → Prop}
    (h : Q 1 M) : c19_106 M Q := by
  unfold c19_106
  refine ev_pu (st' := [.inl 1]) (pc' := 107) rfl rfl rfl rfl ?_
  exact ev_rt rfl rfl rfl ⟨_, rfl, h⟩
