/-! Block rules, written by wip/whole/gen3.py -/
/-! NulledForest$Chart.empties(I)Z -/
def m20 (x1 : Int) (M : ev_M) (Q : Int → ev_M → Prop) : Prop := ev 20 0 [(0, .inr (.inr (some 10))), (1, .inl x1)] [] M (fun v M1 => ∃ w : Int, v = some (.inl w) ∧ Q w M1)
def c20_19 (t0 : Int) (M : ev_M) (Q : Int → ev_M → Prop) : Prop := ev 20 19 [] [.inl t0] M (fun v M1 => ∃ w : Int, v = some (.inl w) ∧ Q w M1)
set_option maxRecDepth 10000 in
theorem b20 {x1 : Int} {M : ev_M} {Q : Int → ev_M → Prop}
    (h : tm_iI (x1 * 11) ∧ ((0 ≤ (x1 * 11) ∧ (x1 * 11) < 110) ∧ ((0 ≤ (aC_ends M (x1 * 11).toNat) ∧ (aC_ends M (x1 * 11).toNat) < 2147483648) ∧ (((tm_an (aC_ends M (x1 * 11).toNat) 1) = 0 → (c20_19 0 M Q)) ∧ (¬ ((tm_an (aC_ends M (x1 * 11).toNat) 1) = 0) → (c20_19 1 M Q)))))) : m20 x1 M Q := by
  unfold m20
  refine ev_lo (lo' := [(0, .inr (.inr (some 10))), (1, .inl x1)]) (st' := [.inr (.inr (some 10))]) (pc' := 1) rfl rfl rfl rfl ?_
  refine ev_get (v := .inr (.inr (some 12))) (pc' := 4) rfl rfl rfl rfl ?_
  refine ev_lo (lo' := [(0, .inr (.inr (some 10))), (1, .inl x1)]) (st' := [.inl x1, .inr (.inr (some 12))]) (pc' := 5) rfl rfl rfl rfl ?_
  refine ev_pu (st' := [.inl 11, .inl x1, .inr (.inr (some 12))]) (pc' := 7) rfl rfl rfl rfl ?_
  obtain ⟨hs, h⟩ := h
  refine ev_ii (f := fun a b => a * b) (pc' := 8) rfl rfl (fun _ => rfl) (tm_mul hs) rfl ?_
  obtain ⟨hs0, h⟩ := h
  refine ev_ald (t := 0) (n := 110) (f := aC_ends M) (w := fun x => .inl x) (pc' := 9) rfl rfl (fun _ _ => rfl) rfl hs0 rfl ?_
  refine ev_pu (st' := [.inl 1, .inl (aC_ends M (x1 * 11).toNat)]) (pc' := 10) rfl rfl rfl rfl ?_
  obtain ⟨hs0, h⟩ := h
  refine ev_ii (f := fun a b => a &&& b) (pc' := 11) rfl rfl (fun _ => rfl) (tm_an_eq hs0 (by decide)) rfl ?_
  refine ev_ifT (pc' := 18) (pc2 := 14) rfl (by decide) rfl rfl (fun hc => ?_) (fun hc => ?_)
  · replace h := h.1 (of_decide_eq_true hc)
    refine ev_pu (st' := [.inl 0]) (pc' := 19) rfl rfl rfl rfl ?_
    exact ev_pick [] rfl rfl h
  · replace h := h.2 (of_decide_eq_false hc)
    refine ev_pu (st' := [.inl 1]) (pc' := 15) rfl rfl rfl rfl ?_
    refine ev_br (pc' := 19) (st' := [.inl 1]) rfl rfl rfl ?_
    exact ev_pick [] rfl rfl h
set_option maxRecDepth 10000 in
theorem b20_19 {t0 : Int} {M : ev_M} {Q : Int → ev_M → Prop}
    (h : (t0 = 0 ∨ t0 = 1) ∧ Q t0 M) : c20_19 t0 M Q := by
  unfold c20_19
  obtain ⟨hs, h⟩ := h
  exact ev_rtZ rfl rfl hs ⟨_, rfl, h⟩
/-! NulledForest$Automaton.finished(ILNulledForest$Chart;)I -/
def m21 (x1 : Int) (M : ev_M) (Q : Int → ev_M → Prop) : Prop := ev 21 0 [(0, .inr (.inr (some 5))), (1, .inl x1), (2, .inr (.inr (some 10)))] [] M (fun v M1 => ∃ w : Int, v = some (.inl w) ∧ Q w M1)
def c21_5 (x1 x3 x4 : Int) (M : ev_M) (Q : Int → ev_M → Prop) : Prop := ev 21 5 [(0, .inr (.inr (some 5))), (1, .inl x1), (2, .inr (.inr (some 10))), (3, .inl x3), (4, .inl x4)] [] M (fun v M1 => ∃ w : Int, v = some (.inl w) ∧ Q w M1)
def c21_32 (x1 x3 x4 x5 x6 : Int) (M : ev_M) (Q : Int → ev_M → Prop) : Prop := ev 21 32 [(0, .inr (.inr (some 5))), (1, .inl x1), (2, .inr (.inr (some 10))), (3, .inl x3), (4, .inl x4), (5, .inl x5), (6, .inl x6)] [] M (fun v M1 => ∃ w : Int, v = some (.inl w) ∧ Q w M1)
def c21_60 (x1 x4 x6 t0 t1 : Int) (M : ev_M) (Q : Int → ev_M → Prop) : Prop := ev 21 60 [(0, .inr (.inr (some 5))), (1, .inl x1), (2, .inr (.inr (some 10))), (4, .inl x4), (6, .inl x6)] [.inl t1, .inl t0] M (fun v M1 => ∃ w : Int, v = some (.inl w) ∧ Q w M1)
def c21_91 (x1 x3 x4 x6 : Int) (M : ev_M) (Q : Int → ev_M → Prop) : Prop := ev 21 91 [(0, .inr (.inr (some 5))), (1, .inl x1), (2, .inr (.inr (some 10))), (3, .inl x3), (4, .inl x4), (6, .inl x6)] [] M (fun v M1 => ∃ w : Int, v = some (.inl w) ∧ Q w M1)
def c21_92 (x1 x3 x4 x6 t0 : Int) (M : ev_M) (Q : Int → ev_M → Prop) : Prop := ev 21 92 [(0, .inr (.inr (some 5))), (1, .inl x1), (2, .inr (.inr (some 10))), (3, .inl x3), (4, .inl x4), (6, .inl x6)] [.inl t0] M (fun v M1 => ∃ w : Int, v = some (.inl w) ∧ Q w M1)
def c21_100 (x1 x3 x4 : Int) (M : ev_M) (Q : Int → ev_M → Prop) : Prop := ev 21 100 [(0, .inr (.inr (some 5))), (1, .inl x1), (2, .inr (.inr (some 10))), (3, .inl x3), (4, .inl x4)] [] M (fun v M1 => ∃ w : Int, v = some (.inl w) ∧ Q w M1)
set_option maxRecDepth 10000 in
theorem b21 {x1 : Int} {M : ev_M} {Q : Int → ev_M → Prop}
    (h : c21_5 x1 0 0 M Q) : m21 x1 M Q := by
  unfold m21
  refine ev_pu (st' := [.inl 0]) (pc' := 1) rfl rfl rfl rfl ?_
  refine ev_lo (lo' := [(3, .inl 0), (0, .inr (.inr (some 5))), (1, .inl x1), (2, .inr (.inr (some 10)))]) (st' := []) (pc' := 2) rfl rfl rfl rfl ?_
  refine ev_pu (st' := [.inl 0]) (pc' := 3) rfl rfl rfl rfl ?_
  refine ev_lo (lo' := [(4, .inl 0), (3, .inl 0), (0, .inr (.inr (some 5))), (1, .inl x1), (2, .inr (.inr (some 10)))]) (st' := []) (pc' := 5) rfl rfl rfl rfl ?_
  exact ev_pick [0, 1, 2, 3, 4] rfl rfl h
set_option maxRecDepth 10000 in
theorem b21_5 {x1 x3 x4 : Int} {M : ev_M} {Q : Int → ev_M → Prop}
    (h : ((sG_count M) ≤ x4 → (Q x3 M)) ∧ (¬ ((sG_count M) ≤ x4) → ((0 ≤ x4 ∧ x4 < 14) ∧ (c21_32 x1 x3 x4 1 (aG_size M (x4).toNat) M Q)))) : c21_5 x1 x3 x4 M Q := by
  unfold c21_5
  refine ev_lo (lo' := [(0, .inr (.inr (some 5))), (1, .inl x1), (2, .inr (.inr (some 10))), (3, .inl x3), (4, .inl x4)]) (st' := [.inl x4]) (pc' := 7) rfl rfl rfl rfl ?_
  refine ev_lo (lo' := [(0, .inr (.inr (some 5))), (1, .inl x1), (2, .inr (.inr (some 10))), (3, .inl x3), (4, .inl x4)]) (st' := [.inr (.inr (some 5)), .inl x4]) (pc' := 8) rfl rfl rfl rfl ?_
  refine ev_get (v := .inr (.inr (some 1))) (pc' := 11) rfl rfl rfl rfl ?_
  refine ev_get (v := .inl (sG_count M)) (pc' := 14) rfl rfl rfl rfl ?_
  refine ev_icmp (pc' := 106) (pc2 := 17) rfl (by decide) rfl rfl (fun hc => ?_) (fun hc => ?_)
  · replace h := h.1 (of_decide_eq_true hc)
    refine ev_lo (lo' := [(0, .inr (.inr (some 5))), (1, .inl x1), (2, .inr (.inr (some 10))), (3, .inl x3), (4, .inl x4)]) (st' := [.inl x3]) (pc' := 107) rfl rfl rfl rfl ?_
    exact ev_rt rfl rfl rfl ⟨_, rfl, h⟩
  · replace h := h.2 (of_decide_eq_false hc)
    refine ev_pu (st' := [.inl 1]) (pc' := 18) rfl rfl rfl rfl ?_
    refine ev_lo (lo' := [(5, .inl 1), (0, .inr (.inr (some 5))), (1, .inl x1), (2, .inr (.inr (some 10))), (3, .inl x3), (4, .inl x4)]) (st' := []) (pc' := 20) rfl rfl rfl rfl ?_
    refine ev_lo (lo' := [(5, .inl 1), (0, .inr (.inr (some 5))), (1, .inl x1), (2, .inr (.inr (some 10))), (3, .inl x3), (4, .inl x4)]) (st' := [.inr (.inr (some 5))]) (pc' := 21) rfl rfl rfl rfl ?_
    refine ev_get (v := .inr (.inr (some 1))) (pc' := 24) rfl rfl rfl rfl ?_
    refine ev_get (v := .inr (.inr (some 3))) (pc' := 27) rfl rfl rfl rfl ?_
    refine ev_lo (lo' := [(5, .inl 1), (0, .inr (.inr (some 5))), (1, .inl x1), (2, .inr (.inr (some 10))), (3, .inl x3), (4, .inl x4)]) (st' := [.inl x4, .inr (.inr (some 3))]) (pc' := 29) rfl rfl rfl rfl ?_
    obtain ⟨hs0, h⟩ := h
    refine ev_ald (t := 0) (n := 14) (f := aG_size M) (w := fun x => .inl x) (pc' := 30) rfl rfl (fun _ _ => rfl) rfl hs0 rfl ?_
    refine ev_lo (lo' := [(6, .inl (aG_size M (x4).toNat)), (5, .inl 1), (0, .inr (.inr (some 5))), (1, .inl x1), (2, .inr (.inr (some 10))), (3, .inl x3), (4, .inl x4)]) (st' := []) (pc' := 32) rfl rfl rfl rfl ?_
    exact ev_pick [0, 1, 2, 3, 4, 5, 6] rfl rfl h
set_option maxRecDepth 10000 in
theorem b21_32 {x1 x3 x4 x5 x6 : Int} {M : ev_M} {Q : Int → ev_M → Prop}
    (h : (x6 < 0 → (c21_100 x1 x3 x4 M Q)) ∧ (¬ (x6 < 0) → ((x5 = 0 → (c21_100 x1 x3 x4 M Q)) ∧ (¬ (x5 = 0) → (m15 x1 x4 x6 M (fun w1 M1 => (w1 = 0 → (c21_60 x1 x4 x6 x3 0 M1 Q)) ∧ (¬ (w1 = 0) → (c21_60 x1 x4 x6 x3 1 M1 Q)))))))) : c21_32 x1 x3 x4 x5 x6 M Q := by
  unfold c21_32
  refine ev_lo (lo' := [(0, .inr (.inr (some 5))), (1, .inl x1), (2, .inr (.inr (some 10))), (3, .inl x3), (4, .inl x4), (5, .inl x5), (6, .inl x6)]) (st' := [.inl x6]) (pc' := 34) rfl rfl rfl rfl ?_
  refine ev_ifT (pc' := 100) (pc2 := 37) rfl (by decide) rfl rfl (fun hc => ?_) (fun hc => ?_)
  · replace h := h.1 (of_decide_eq_true hc)
    exact ev_pick [0, 1, 2, 3, 4] rfl rfl h
  · replace h := h.2 (of_decide_eq_false hc)
    refine ev_lo (lo' := [(0, .inr (.inr (some 5))), (1, .inl x1), (2, .inr (.inr (some 10))), (3, .inl x3), (4, .inl x4), (5, .inl x5), (6, .inl x6)]) (st' := [.inl x5]) (pc' := 39) rfl rfl rfl rfl ?_
    refine ev_ifT (pc' := 100) (pc2 := 42) rfl (by decide) rfl rfl (fun hc => ?_) (fun hc => ?_)
    · replace h := h.1 (of_decide_eq_true hc)
      exact ev_pick [0, 1, 2, 3, 4] rfl rfl h
    · replace h := h.2 (of_decide_eq_false hc)
      refine ev_lo (lo' := [(0, .inr (.inr (some 5))), (1, .inl x1), (2, .inr (.inr (some 10))), (3, .inl x3), (4, .inl x4), (5, .inl x5), (6, .inl x6)]) (st' := [.inl x3]) (pc' := 43) rfl rfl rfl rfl ?_
      refine ev_lo (lo' := [(0, .inr (.inr (some 5))), (1, .inl x1), (2, .inr (.inr (some 10))), (3, .inl x3), (4, .inl x4), (5, .inl x5), (6, .inl x6)]) (st' := [.inr (.inr (some 5)), .inl x3]) (pc' := 44) rfl rfl rfl rfl ?_
      refine ev_lo (lo' := [(0, .inr (.inr (some 5))), (1, .inl x1), (2, .inr (.inr (some 10))), (3, .inl x3), (4, .inl x4), (5, .inl x5), (6, .inl x6)]) (st' := [.inl x1, .inr (.inr (some 5)), .inl x3]) (pc' := 45) rfl rfl rfl rfl ?_
      refine ev_lo (lo' := [(0, .inr (.inr (some 5))), (1, .inl x1), (2, .inr (.inr (some 10))), (3, .inl x3), (4, .inl x4), (5, .inl x5), (6, .inl x6)]) (st' := [.inl x4, .inl x1, .inr (.inr (some 5)), .inl x3]) (pc' := 47) rfl rfl rfl rfl ?_
      refine ev_lo (lo' := [(0, .inr (.inr (some 5))), (1, .inl x1), (2, .inr (.inr (some 10))), (3, .inl x3), (4, .inl x4), (5, .inl x5), (6, .inl x6)]) (st' := [.inl x6, .inl x4, .inl x1, .inr (.inr (some 5)), .inl x3]) (pc' := 49) rfl rfl rfl rfl ?_
      refine ev_call (as := [.inr (.inr (some 5)), .inl x1, .inl x4, .inl x6]) (r := [.inl x3]) (pc' := 52) rfl rfl (Nat.le_of_ble_eq_true rfl) (Nat.le_of_ble_eq_true rfl) ⟨rfl, rfl⟩ (Nat.le_of_ble_eq_true rfl) rfl rfl rfl rfl ?_
      refine ev.post h (fun v M1 h => ?_)
      obtain ⟨w1, rfl, h⟩ := h
      show ev 21 52 [(0, .inr (.inr (some 5))), (1, .inl x1), (2, .inr (.inr (some 10))), (3, .inl x3), (4, .inl x4), (5, .inl x5), (6, .inl x6)] [.inl w1, .inl x3] M1 _
      refine ev_ifT (pc' := 59) (pc2 := 55) rfl (by decide) rfl rfl (fun hc => ?_) (fun hc => ?_)
      · replace h := h.1 (of_decide_eq_true hc)
        refine ev_pu (st' := [.inl 0, .inl x3]) (pc' := 60) rfl rfl rfl rfl ?_
        exact ev_pick [0, 1, 2, 4, 6] rfl rfl h
      · replace h := h.2 (of_decide_eq_false hc)
        refine ev_pu (st' := [.inl 1, .inl x3]) (pc' := 56) rfl rfl rfl rfl ?_
        refine ev_br (pc' := 60) (st' := [.inl 1, .inl x3]) rfl rfl rfl ?_
        exact ev_pick [0, 1, 2, 4, 6] rfl rfl h
set_option maxRecDepth 10000 in
theorem b21_60 {x1 x4 x6 t0 t1 : Int} {M : ev_M} {Q : Int → ev_M → Prop}
    (h : tm_iI (t0 + t1) ∧ ((x6 ≤ 0 → (c21_91 x1 (t0 + t1) x4 x6 M Q)) ∧ (¬ (x6 ≤ 0) → (tm_iI (x6 - 1) ∧ (m4 x4 (x6 - 1) M (fun w1 M1 => m20 w1 M1 (fun w2 M2 => (w2 = 0 → (c21_91 x1 (t0 + t1) x4 x6 M2 Q)) ∧ (¬ (w2 = 0) → (c21_92 x1 (t0 + t1) x4 x6 1 M2 Q))))))))) : c21_60 x1 x4 x6 t0 t1 M Q := by
  unfold c21_60
  obtain ⟨hs, h⟩ := h
  refine ev_ii (f := fun a b => a + b) (pc' := 61) rfl rfl (fun _ => rfl) (tm_add hs) rfl ?_
  refine ev_lo (lo' := [(3, .inl (t0 + t1)), (0, .inr (.inr (some 5))), (1, .inl x1), (2, .inr (.inr (some 10))), (4, .inl x4), (6, .inl x6)]) (st' := []) (pc' := 62) rfl rfl rfl rfl ?_
  refine ev_lo (lo' := [(3, .inl (t0 + t1)), (0, .inr (.inr (some 5))), (1, .inl x1), (2, .inr (.inr (some 10))), (4, .inl x4), (6, .inl x6)]) (st' := [.inl x6]) (pc' := 64) rfl rfl rfl rfl ?_
  refine ev_ifT (pc' := 91) (pc2 := 67) rfl (by decide) rfl rfl (fun hc => ?_) (fun hc => ?_)
  · replace h := h.1 (of_decide_eq_true hc)
    exact ev_pick [0, 1, 2, 3, 4, 6] rfl rfl h
  · replace h := h.2 (of_decide_eq_false hc)
    refine ev_lo (lo' := [(3, .inl (t0 + t1)), (0, .inr (.inr (some 5))), (1, .inl x1), (2, .inr (.inr (some 10))), (4, .inl x4), (6, .inl x6)]) (st' := [.inr (.inr (some 10))]) (pc' := 68) rfl rfl rfl rfl ?_
    refine ev_lo (lo' := [(3, .inl (t0 + t1)), (0, .inr (.inr (some 5))), (1, .inl x1), (2, .inr (.inr (some 10))), (4, .inl x4), (6, .inl x6)]) (st' := [.inr (.inr (some 5)), .inr (.inr (some 10))]) (pc' := 69) rfl rfl rfl rfl ?_
    refine ev_get (v := .inr (.inr (some 1))) (pc' := 72) rfl rfl rfl rfl ?_
    refine ev_lo (lo' := [(3, .inl (t0 + t1)), (0, .inr (.inr (some 5))), (1, .inl x1), (2, .inr (.inr (some 10))), (4, .inl x4), (6, .inl x6)]) (st' := [.inl x4, .inr (.inr (some 1)), .inr (.inr (some 10))]) (pc' := 74) rfl rfl rfl rfl ?_
    refine ev_lo (lo' := [(3, .inl (t0 + t1)), (0, .inr (.inr (some 5))), (1, .inl x1), (2, .inr (.inr (some 10))), (4, .inl x4), (6, .inl x6)]) (st' := [.inl x6, .inl x4, .inr (.inr (some 1)), .inr (.inr (some 10))]) (pc' := 76) rfl rfl rfl rfl ?_
    refine ev_pu (st' := [.inl 1, .inl x6, .inl x4, .inr (.inr (some 1)), .inr (.inr (some 10))]) (pc' := 77) rfl rfl rfl rfl ?_
    obtain ⟨hs, h⟩ := h
    refine ev_ii (f := fun a b => a - b) (pc' := 78) rfl rfl (fun _ => rfl) (tm_sub' hs) rfl ?_
    refine ev_call (as := [.inr (.inr (some 1)), .inl x4, .inl (x6 - 1)]) (r := [.inr (.inr (some 10))]) (pc' := 81) rfl rfl (Nat.le_of_ble_eq_true rfl) (Nat.le_of_ble_eq_true rfl) ⟨rfl, rfl⟩ (Nat.le_of_ble_eq_true rfl) rfl rfl rfl rfl ?_
    refine ev.post h (fun v M1 h => ?_)
    obtain ⟨w1, rfl, h⟩ := h
    show ev 21 81 [(3, .inl (t0 + t1)), (0, .inr (.inr (some 5))), (1, .inl x1), (2, .inr (.inr (some 10))), (4, .inl x4), (6, .inl x6)] [.inl w1, .inr (.inr (some 10))] M1 _
    refine ev_call (as := [.inr (.inr (some 10)), .inl w1]) (r := []) (pc' := 84) rfl rfl (Nat.le_of_ble_eq_true rfl) (Nat.le_of_ble_eq_true rfl) ⟨rfl, rfl⟩ (Nat.le_of_ble_eq_true rfl) rfl rfl rfl rfl ?_
    refine ev.post h (fun v M2 h => ?_)
    obtain ⟨w2, rfl, h⟩ := h
    show ev 21 84 [(3, .inl (t0 + t1)), (0, .inr (.inr (some 5))), (1, .inl x1), (2, .inr (.inr (some 10))), (4, .inl x4), (6, .inl x6)] [.inl w2] M2 _
    refine ev_ifT (pc' := 91) (pc2 := 87) rfl (by decide) rfl rfl (fun hc => ?_) (fun hc => ?_)
    · replace h := h.1 (of_decide_eq_true hc)
      exact ev_pick [0, 1, 2, 3, 4, 6] rfl rfl h
    · replace h := h.2 (of_decide_eq_false hc)
      refine ev_pu (st' := [.inl 1]) (pc' := 88) rfl rfl rfl rfl ?_
      refine ev_br (pc' := 92) (st' := [.inl 1]) rfl rfl rfl ?_
      exact ev_pick [0, 1, 2, 3, 4, 6] rfl rfl h
set_option maxRecDepth 10000 in
theorem b21_91 {x1 x3 x4 x6 : Int} {M : ev_M} {Q : Int → ev_M → Prop}
    (h : c21_92 x1 x3 x4 x6 0 M Q) : c21_91 x1 x3 x4 x6 M Q := by
  unfold c21_91
  refine ev_pu (st' := [.inl 0]) (pc' := 92) rfl rfl rfl rfl ?_
  exact ev_pick [0, 1, 2, 3, 4, 6] rfl rfl h
set_option maxRecDepth 10000 in
theorem b21_92 {x1 x3 x4 x6 t0 : Int} {M : ev_M} {Q : Int → ev_M → Prop}
    (h : tm_iI (x6 + (-1)) ∧ (c21_32 x1 x3 x4 t0 (x6 + (-1)) M Q)) : c21_92 x1 x3 x4 x6 t0 M Q := by
  unfold c21_92
  refine ev_lo (lo' := [(5, .inl t0), (0, .inr (.inr (some 5))), (1, .inl x1), (2, .inr (.inr (some 10))), (3, .inl x3), (4, .inl x4), (6, .inl x6)]) (st' := []) (pc' := 94) rfl rfl rfl rfl ?_
  obtain ⟨hs, h⟩ := h
  refine ev_iinc (lo' := [(6, .inl (x6 + (-1))), (5, .inl t0), (0, .inr (.inr (some 5))), (1, .inl x1), (2, .inr (.inr (some 10))), (3, .inl x3), (4, .inl x4)]) (pc' := 97) rfl rfl (by decide) (tm_add hs) rfl rfl ?_
  refine ev_br (pc' := 32) (st' := []) rfl rfl rfl ?_
  exact ev_pick [0, 1, 2, 3, 4, 5, 6] rfl rfl h
set_option maxRecDepth 10000 in
theorem b21_100 {x1 x3 x4 : Int} {M : ev_M} {Q : Int → ev_M → Prop}
    (h : tm_iI (x4 + 1) ∧ (c21_5 x1 x3 (x4 + 1) M Q)) : c21_100 x1 x3 x4 M Q := by
  unfold c21_100
  obtain ⟨hs, h⟩ := h
  refine ev_iinc (lo' := [(4, .inl (x4 + 1)), (0, .inr (.inr (some 5))), (1, .inl x1), (2, .inr (.inr (some 10))), (3, .inl x3)]) (pc' := 103) rfl rfl (by decide) (tm_add hs) rfl rfl ?_
  refine ev_br (pc' := 5) (st' := []) rfl rfl rfl ?_
  exact ev_pick [0, 1, 2, 3, 4] rfl rfl h
/-! NulledForest$Chart.endsOf(II)I -/
def m23 (x1 x2 : Int) (M : ev_M) (Q : Int → ev_M → Prop) : Prop := ev 23 0 [(0, .inr (.inr (some 10))), (1, .inl x1), (2, .inl x2)] [] M (fun v M1 => ∃ w : Int, v = some (.inl w) ∧ Q w M1)
set_option maxRecDepth 10000 in
theorem b23 {x1 x2 : Int} {M : ev_M} {Q : Int → ev_M → Prop}
    (h : tm_iI (x1 * 11) ∧ (tm_iI ((x1 * 11) + x2) ∧ ((0 ≤ ((x1 * 11) + x2) ∧ ((x1 * 11) + x2) < 110) ∧ (Q (aC_ends M ((x1 * 11) + x2).toNat) M)))) : m23 x1 x2 M Q := by
  unfold m23
  refine ev_lo (lo' := [(0, .inr (.inr (some 10))), (1, .inl x1), (2, .inl x2)]) (st' := [.inr (.inr (some 10))]) (pc' := 1) rfl rfl rfl rfl ?_
  refine ev_get (v := .inr (.inr (some 12))) (pc' := 4) rfl rfl rfl rfl ?_
  refine ev_lo (lo' := [(0, .inr (.inr (some 10))), (1, .inl x1), (2, .inl x2)]) (st' := [.inl x1, .inr (.inr (some 12))]) (pc' := 5) rfl rfl rfl rfl ?_
  refine ev_pu (st' := [.inl 11, .inl x1, .inr (.inr (some 12))]) (pc' := 7) rfl rfl rfl rfl ?_
  obtain ⟨hs, h⟩ := h
  refine ev_ii (f := fun a b => a * b) (pc' := 8) rfl rfl (fun _ => rfl) (tm_mul hs) rfl ?_
  refine ev_lo (lo' := [(0, .inr (.inr (some 10))), (1, .inl x1), (2, .inl x2)]) (st' := [.inl x2, .inl (x1 * 11), .inr (.inr (some 12))]) (pc' := 9) rfl rfl rfl rfl ?_
  obtain ⟨hs, h⟩ := h
  refine ev_ii (f := fun a b => a + b) (pc' := 10) rfl rfl (fun _ => rfl) (tm_add hs) rfl ?_
  obtain ⟨hs0, h⟩ := h
  refine ev_ald (t := 0) (n := 110) (f := aC_ends M) (w := fun x => .inl x) (pc' := 11) rfl rfl (fun _ _ => rfl) rfl hs0 rfl ?_
  exact ev_rt rfl rfl rfl ⟨_, rfl, h⟩
/-! NulledForest$Chart.fits(III)Z -/
def m24 (x1 x2 x3 : Int) (M : ev_M) (Q : Int → ev_M → Prop) : Prop := ev 24 0 [(0, .inr (.inr (some 10))), (1, .inl x1), (2, .inl x2), (3, .inl x3)] [] M (fun v M1 => ∃ w : Int, v = some (.inl w) ∧ Q w M1)
def c24_23 (t0 : Int) (M : ev_M) (Q : Int → ev_M → Prop) : Prop := ev 24 23 [] [.inl t0] M (fun v M1 => ∃ w : Int, v = some (.inl w) ∧ Q w M1)
set_option maxRecDepth 10000 in
theorem b24 {x1 x2 x3 : Int} {M : ev_M} {Q : Int → ev_M → Prop}
    (h : tm_iI (x1 * 11) ∧ (tm_iI ((x1 * 11) + x2) ∧ ((0 ≤ ((x1 * 11) + x2) ∧ ((x1 * 11) + x2) < 110) ∧ ((0 ≤ (aC_ends M ((x1 * 11) + x2).toNat) ∧ (aC_ends M ((x1 * 11) + x2).toNat) < 2147483648) ∧ (0 ≤ x3 ∧ x3 < 32) ∧ ((0 ≤ (tm_sr (aC_ends M ((x1 * 11) + x2).toNat) x3) ∧ (tm_sr (aC_ends M ((x1 * 11) + x2).toNat) x3) < 2147483648) ∧ (((tm_an (tm_sr (aC_ends M ((x1 * 11) + x2).toNat) x3) 1) = 0 → (c24_23 0 M Q)) ∧ (¬ ((tm_an (tm_sr (aC_ends M ((x1 * 11) + x2).toNat) x3) 1) = 0) → (c24_23 1 M Q)))))))) : m24 x1 x2 x3 M Q := by
  unfold m24
  refine ev_lo (lo' := [(0, .inr (.inr (some 10))), (1, .inl x1), (2, .inl x2), (3, .inl x3)]) (st' := [.inr (.inr (some 10))]) (pc' := 1) rfl rfl rfl rfl ?_
  refine ev_get (v := .inr (.inr (some 12))) (pc' := 4) rfl rfl rfl rfl ?_
  refine ev_lo (lo' := [(0, .inr (.inr (some 10))), (1, .inl x1), (2, .inl x2), (3, .inl x3)]) (st' := [.inl x1, .inr (.inr (some 12))]) (pc' := 5) rfl rfl rfl rfl ?_
  refine ev_pu (st' := [.inl 11, .inl x1, .inr (.inr (some 12))]) (pc' := 7) rfl rfl rfl rfl ?_
  obtain ⟨hs, h⟩ := h
  refine ev_ii (f := fun a b => a * b) (pc' := 8) rfl rfl (fun _ => rfl) (tm_mul hs) rfl ?_
  refine ev_lo (lo' := [(0, .inr (.inr (some 10))), (1, .inl x1), (2, .inl x2), (3, .inl x3)]) (st' := [.inl x2, .inl (x1 * 11), .inr (.inr (some 12))]) (pc' := 9) rfl rfl rfl rfl ?_
  obtain ⟨hs, h⟩ := h
  refine ev_ii (f := fun a b => a + b) (pc' := 10) rfl rfl (fun _ => rfl) (tm_add hs) rfl ?_
  obtain ⟨hs0, h⟩ := h
  refine ev_ald (t := 0) (n := 110) (f := aC_ends M) (w := fun x => .inl x) (pc' := 11) rfl rfl (fun _ _ => rfl) rfl hs0 rfl ?_
  refine ev_lo (lo' := [(0, .inr (.inr (some 10))), (1, .inl x1), (2, .inl x2), (3, .inl x3)]) (st' := [.inl x3, .inl (aC_ends M ((x1 * 11) + x2).toNat)]) (pc' := 12) rfl rfl rfl rfl ?_
  obtain ⟨hs0, hs1, h⟩ := h
  refine ev_ii (f := fun a b => a >>> (b &&& 31)) (pc' := 13) rfl rfl (fun _ => rfl) (tm_sr_eq hs0 hs1) rfl ?_
  refine ev_pu (st' := [.inl 1, .inl (tm_sr (aC_ends M ((x1 * 11) + x2).toNat) x3)]) (pc' := 14) rfl rfl rfl rfl ?_
  obtain ⟨hs0, h⟩ := h
  refine ev_ii (f := fun a b => a &&& b) (pc' := 15) rfl rfl (fun _ => rfl) (tm_an_eq hs0 (by decide)) rfl ?_
  refine ev_ifT (pc' := 22) (pc2 := 18) rfl (by decide) rfl rfl (fun hc => ?_) (fun hc => ?_)
  · replace h := h.1 (of_decide_eq_true hc)
    refine ev_pu (st' := [.inl 0]) (pc' := 23) rfl rfl rfl rfl ?_
    exact ev_pick [] rfl rfl h
  · replace h := h.2 (of_decide_eq_false hc)
    refine ev_pu (st' := [.inl 1]) (pc' := 19) rfl rfl rfl rfl ?_
    refine ev_br (pc' := 23) (st' := [.inl 1]) rfl rfl rfl ?_
    exact ev_pick [] rfl rfl h
set_option maxRecDepth 10000 in
theorem b24_23 {t0 : Int} {M : ev_M} {Q : Int → ev_M → Prop}
    (h : (t0 = 0 ∨ t0 = 1) ∧ Q t0 M) : c24_23 t0 M Q := by
  unfold c24_23
  obtain ⟨hs, h⟩ := h
  exact ev_rtZ rfl rfl hs ⟨_, rfl, h⟩
/-! NulledForest$Chart.beyond(II)I -/
def m25 (x1 x2 : Int) (M : ev_M) (Q : Int → ev_M → Prop) : Prop := ev 25 0 [(0, .inr (.inr (some 10))), (1, .inl x1), (2, .inl x2)] [] M (fun v M1 => ∃ w : Int, v = some (.inl w) ∧ Q w M1)
def c25_5 (x1 x2 x3 x4 : Int) (M : ev_M) (Q : Int → ev_M → Prop) : Prop := ev 25 5 [(0, .inr (.inr (some 10))), (1, .inl x1), (2, .inl x2), (3, .inl x3), (4, .inl x4)] [] M (fun v M1 => ∃ w : Int, v = some (.inl w) ∧ Q w M1)
def c25_38 (x1 x2 x3 x4 : Int) (M : ev_M) (Q : Int → ev_M → Prop) : Prop := ev 25 38 [(0, .inr (.inr (some 10))), (1, .inl x1), (2, .inl x2), (3, .inl x3), (4, .inl x4)] [] M (fun v M1 => ∃ w : Int, v = some (.inl w) ∧ Q w M1)
set_option maxRecDepth 10000 in
theorem b25 {x1 x2 : Int} {M : ev_M} {Q : Int → ev_M → Prop}
    (h : c25_5 x1 x2 0 0 M Q) : m25 x1 x2 M Q := by
  unfold m25
  refine ev_pu (st' := [.inl 0]) (pc' := 1) rfl rfl rfl rfl ?_
  refine ev_lo (lo' := [(3, .inl 0), (0, .inr (.inr (some 10))), (1, .inl x1), (2, .inl x2)]) (st' := []) (pc' := 2) rfl rfl rfl rfl ?_
  refine ev_pu (st' := [.inl 0]) (pc' := 3) rfl rfl rfl rfl ?_
  refine ev_lo (lo' := [(4, .inl 0), (3, .inl 0), (0, .inr (.inr (some 10))), (1, .inl x1), (2, .inl x2)]) (st' := []) (pc' := 5) rfl rfl rfl rfl ?_
  exact ev_pick [0, 1, 2, 3, 4] rfl rfl h
set_option maxRecDepth 10000 in
theorem b25_5 {x1 x2 x3 x4 : Int} {M : ev_M} {Q : Int → ev_M → Prop}
    (h : ((sC_size M) < x4 → (Q x3 M)) ∧ (¬ ((sC_size M) < x4) → ((0 ≤ x2 ∧ x2 < 2147483648) ∧ (0 ≤ x4 ∧ x4 < 32) ∧ ((0 ≤ (tm_sr x2 x4) ∧ (tm_sr x2 x4) < 2147483648) ∧ (((tm_an (tm_sr x2 x4) 1) = 0 → (c25_38 x1 x2 x3 x4 M Q)) ∧ (¬ ((tm_an (tm_sr x2 x4) 1) = 0) → (tm_iI (x1 * 11) ∧ (tm_iI ((x1 * 11) + x4) ∧ ((0 ≤ ((x1 * 11) + x4) ∧ ((x1 * 11) + x4) < 110) ∧ ((0 ≤ x3 ∧ x3 < 2147483648) ∧ (0 ≤ (aC_ends M ((x1 * 11) + x4).toNat) ∧ (aC_ends M ((x1 * 11) + x4).toNat) < 2147483648) ∧ (c25_38 x1 x2 (tm_or x3 (aC_ends M ((x1 * 11) + x4).toNat)) x4 M Q))))))))))) : c25_5 x1 x2 x3 x4 M Q := by
  unfold c25_5
  refine ev_lo (lo' := [(0, .inr (.inr (some 10))), (1, .inl x1), (2, .inl x2), (3, .inl x3), (4, .inl x4)]) (st' := [.inl x4]) (pc' := 7) rfl rfl rfl rfl ?_
  refine ev_lo (lo' := [(0, .inr (.inr (some 10))), (1, .inl x1), (2, .inl x2), (3, .inl x3), (4, .inl x4)]) (st' := [.inr (.inr (some 10)), .inl x4]) (pc' := 8) rfl rfl rfl rfl ?_
  refine ev_get (v := .inl (sC_size M)) (pc' := 11) rfl rfl rfl rfl ?_
  refine ev_icmp (pc' := 44) (pc2 := 14) rfl (by decide) rfl rfl (fun hc => ?_) (fun hc => ?_)
  · replace h := h.1 (of_decide_eq_true hc)
    refine ev_lo (lo' := [(0, .inr (.inr (some 10))), (1, .inl x1), (2, .inl x2), (3, .inl x3), (4, .inl x4)]) (st' := [.inl x3]) (pc' := 45) rfl rfl rfl rfl ?_
    exact ev_rt rfl rfl rfl ⟨_, rfl, h⟩
  · replace h := h.2 (of_decide_eq_false hc)
    refine ev_lo (lo' := [(0, .inr (.inr (some 10))), (1, .inl x1), (2, .inl x2), (3, .inl x3), (4, .inl x4)]) (st' := [.inl x2]) (pc' := 15) rfl rfl rfl rfl ?_
    refine ev_lo (lo' := [(0, .inr (.inr (some 10))), (1, .inl x1), (2, .inl x2), (3, .inl x3), (4, .inl x4)]) (st' := [.inl x4, .inl x2]) (pc' := 17) rfl rfl rfl rfl ?_
    obtain ⟨hs0, hs1, h⟩ := h
    refine ev_ii (f := fun a b => a >>> (b &&& 31)) (pc' := 18) rfl rfl (fun _ => rfl) (tm_sr_eq hs0 hs1) rfl ?_
    refine ev_pu (st' := [.inl 1, .inl (tm_sr x2 x4)]) (pc' := 19) rfl rfl rfl rfl ?_
    obtain ⟨hs0, h⟩ := h
    refine ev_ii (f := fun a b => a &&& b) (pc' := 20) rfl rfl (fun _ => rfl) (tm_an_eq hs0 (by decide)) rfl ?_
    refine ev_ifT (pc' := 38) (pc2 := 23) rfl (by decide) rfl rfl (fun hc => ?_) (fun hc => ?_)
    · replace h := h.1 (of_decide_eq_true hc)
      exact ev_pick [0, 1, 2, 3, 4] rfl rfl h
    · replace h := h.2 (of_decide_eq_false hc)
      refine ev_lo (lo' := [(0, .inr (.inr (some 10))), (1, .inl x1), (2, .inl x2), (3, .inl x3), (4, .inl x4)]) (st' := [.inl x3]) (pc' := 24) rfl rfl rfl rfl ?_
      refine ev_lo (lo' := [(0, .inr (.inr (some 10))), (1, .inl x1), (2, .inl x2), (3, .inl x3), (4, .inl x4)]) (st' := [.inr (.inr (some 10)), .inl x3]) (pc' := 25) rfl rfl rfl rfl ?_
      refine ev_get (v := .inr (.inr (some 12))) (pc' := 28) rfl rfl rfl rfl ?_
      refine ev_lo (lo' := [(0, .inr (.inr (some 10))), (1, .inl x1), (2, .inl x2), (3, .inl x3), (4, .inl x4)]) (st' := [.inl x1, .inr (.inr (some 12)), .inl x3]) (pc' := 29) rfl rfl rfl rfl ?_
      refine ev_pu (st' := [.inl 11, .inl x1, .inr (.inr (some 12)), .inl x3]) (pc' := 31) rfl rfl rfl rfl ?_
      obtain ⟨hs, h⟩ := h
      refine ev_ii (f := fun a b => a * b) (pc' := 32) rfl rfl (fun _ => rfl) (tm_mul hs) rfl ?_
      refine ev_lo (lo' := [(0, .inr (.inr (some 10))), (1, .inl x1), (2, .inl x2), (3, .inl x3), (4, .inl x4)]) (st' := [.inl x4, .inl (x1 * 11), .inr (.inr (some 12)), .inl x3]) (pc' := 34) rfl rfl rfl rfl ?_
      obtain ⟨hs, h⟩ := h
      refine ev_ii (f := fun a b => a + b) (pc' := 35) rfl rfl (fun _ => rfl) (tm_add hs) rfl ?_
      obtain ⟨hs0, h⟩ := h
      refine ev_ald (t := 0) (n := 110) (f := aC_ends M) (w := fun x => .inl x) (pc' := 36) rfl rfl (fun _ _ => rfl) rfl hs0 rfl ?_
      obtain ⟨hs0, hs1, h⟩ := h
      refine ev_ii (f := fun a b => a ||| b) (pc' := 37) rfl rfl (fun _ => rfl) (tm_or_eq hs0 hs1) rfl ?_
      refine ev_lo (lo' := [(3, .inl (tm_or x3 (aC_ends M ((x1 * 11) + x4).toNat))), (0, .inr (.inr (some 10))), (1, .inl x1), (2, .inl x2), (4, .inl x4)]) (st' := []) (pc' := 38) rfl rfl rfl rfl ?_
      exact ev_pick [0, 1, 2, 3, 4] rfl rfl h
set_option maxRecDepth 10000 in
theorem b25_38 {x1 x2 x3 x4 : Int} {M : ev_M} {Q : Int → ev_M → Prop}
    (h : tm_iI (x4 + 1) ∧ (c25_5 x1 x2 x3 (x4 + 1) M Q)) : c25_38 x1 x2 x3 x4 M Q := by
  unfold c25_38
  obtain ⟨hs, h⟩ := h
  refine ev_iinc (lo' := [(4, .inl (x4 + 1)), (0, .inr (.inr (some 10))), (1, .inl x1), (2, .inl x2), (3, .inl x3)]) (pc' := 41) rfl rfl (by decide) (tm_add hs) rfl rfl ?_
  refine ev_br (pc' := 5) (st' := []) rfl rfl rfl ?_
  exact ev_pick [0, 1, 2, 3, 4] rfl rfl h
/-! NulledForest$Chart.endsOfRule(II)I -/
def m26 (x1 x2 : Int) (M : ev_M) (Q : Int → ev_M → Prop) : Prop := ev 26 0 [(0, .inr (.inr (some 10))), (1, .inl x1), (2, .inl x2)] [] M (fun v M1 => ∃ w : Int, v = some (.inl w) ∧ Q w M1)
def c26_7 (x1 x3 x4 : Int) (M : ev_M) (Q : Int → ev_M → Prop) : Prop := ev 26 7 [(0, .inr (.inr (some 10))), (1, .inl x1), (3, .inl x3), (4, .inl x4)] [] M (fun v M1 => ∃ w : Int, v = some (.inl w) ∧ Q w M1)
set_option maxRecDepth 10000 in
theorem b26 {x1 x2 : Int} {M : ev_M} {Q : Int → ev_M → Prop}
    (h : (0 ≤ x2 ∧ x2 < 32) ∧ (1 : Int) * 2 ^ (x2).toNat < 2147483648 ∧ (c26_7 x1 (tm_sl 1 x2) 0 M Q)) : m26 x1 x2 M Q := by
  unfold m26
  refine ev_pu (st' := [.inl 1]) (pc' := 1) rfl rfl rfl rfl ?_
  refine ev_lo (lo' := [(0, .inr (.inr (some 10))), (1, .inl x1), (2, .inl x2)]) (st' := [.inl x2, .inl 1]) (pc' := 2) rfl rfl rfl rfl ?_
  obtain ⟨hs1, hs2, h⟩ := h
  refine ev_ii (f := fun a b => a <<< (b &&& 31)) (pc' := 3) rfl rfl (fun _ => rfl) (tm_sl_eq (by decide) hs1 hs2) rfl ?_
  refine ev_lo (lo' := [(3, .inl (tm_sl 1 x2)), (0, .inr (.inr (some 10))), (1, .inl x1), (2, .inl x2)]) (st' := []) (pc' := 4) rfl rfl rfl rfl ?_
  refine ev_pu (st' := [.inl 0]) (pc' := 5) rfl rfl rfl rfl ?_
  refine ev_lo (lo' := [(4, .inl 0), (3, .inl (tm_sl 1 x2)), (0, .inr (.inr (some 10))), (1, .inl x1), (2, .inl x2)]) (st' := []) (pc' := 7) rfl rfl rfl rfl ?_
  exact ev_pick [0, 1, 3, 4] rfl rfl h
set_option maxRecDepth 10000 in
theorem b26_7 {x1 x3 x4 : Int} {M : ev_M} {Q : Int → ev_M → Prop}
    (h : (0 ≤ x1 ∧ x1 < 14) ∧ (((aG_size M (x1).toNat) ≤ x4 → (Q x3 M)) ∧ (¬ ((aG_size M (x1).toNat) ≤ x4) → (m4 x1 x4 M (fun w1 M1 => m25 w1 x3 M1 (fun w2 M2 => tm_iI (x4 + 1) ∧ (c26_7 x1 w2 (x4 + 1) M2 Q))))))) : c26_7 x1 x3 x4 M Q := by
  unfold c26_7
  refine ev_lo (lo' := [(0, .inr (.inr (some 10))), (1, .inl x1), (3, .inl x3), (4, .inl x4)]) (st' := [.inl x4]) (pc' := 9) rfl rfl rfl rfl ?_
  refine ev_lo (lo' := [(0, .inr (.inr (some 10))), (1, .inl x1), (3, .inl x3), (4, .inl x4)]) (st' := [.inr (.inr (some 10)), .inl x4]) (pc' := 10) rfl rfl rfl rfl ?_
  refine ev_get (v := .inr (.inr (some 1))) (pc' := 13) rfl rfl rfl rfl ?_
  refine ev_get (v := .inr (.inr (some 3))) (pc' := 16) rfl rfl rfl rfl ?_
  refine ev_lo (lo' := [(0, .inr (.inr (some 10))), (1, .inl x1), (3, .inl x3), (4, .inl x4)]) (st' := [.inl x1, .inr (.inr (some 3)), .inl x4]) (pc' := 17) rfl rfl rfl rfl ?_
  obtain ⟨hs0, h⟩ := h
  refine ev_ald (t := 0) (n := 14) (f := aG_size M) (w := fun x => .inl x) (pc' := 18) rfl rfl (fun _ _ => rfl) rfl hs0 rfl ?_
  refine ev_icmp (pc' := 43) (pc2 := 21) rfl (by decide) rfl rfl (fun hc => ?_) (fun hc => ?_)
  · replace h := h.1 (of_decide_eq_true hc)
    refine ev_lo (lo' := [(0, .inr (.inr (some 10))), (1, .inl x1), (3, .inl x3), (4, .inl x4)]) (st' := [.inl x3]) (pc' := 44) rfl rfl rfl rfl ?_
    exact ev_rt rfl rfl rfl ⟨_, rfl, h⟩
  · replace h := h.2 (of_decide_eq_false hc)
    refine ev_lo (lo' := [(0, .inr (.inr (some 10))), (1, .inl x1), (3, .inl x3), (4, .inl x4)]) (st' := [.inr (.inr (some 10))]) (pc' := 22) rfl rfl rfl rfl ?_
    refine ev_lo (lo' := [(0, .inr (.inr (some 10))), (1, .inl x1), (3, .inl x3), (4, .inl x4)]) (st' := [.inr (.inr (some 10)), .inr (.inr (some 10))]) (pc' := 23) rfl rfl rfl rfl ?_
    refine ev_get (v := .inr (.inr (some 1))) (pc' := 26) rfl rfl rfl rfl ?_
    refine ev_lo (lo' := [(0, .inr (.inr (some 10))), (1, .inl x1), (3, .inl x3), (4, .inl x4)]) (st' := [.inl x1, .inr (.inr (some 1)), .inr (.inr (some 10))]) (pc' := 27) rfl rfl rfl rfl ?_
    refine ev_lo (lo' := [(0, .inr (.inr (some 10))), (1, .inl x1), (3, .inl x3), (4, .inl x4)]) (st' := [.inl x4, .inl x1, .inr (.inr (some 1)), .inr (.inr (some 10))]) (pc' := 29) rfl rfl rfl rfl ?_
    refine ev_call (as := [.inr (.inr (some 1)), .inl x1, .inl x4]) (r := [.inr (.inr (some 10))]) (pc' := 32) rfl rfl (Nat.le_of_ble_eq_true rfl) (Nat.le_of_ble_eq_true rfl) ⟨rfl, rfl⟩ (Nat.le_of_ble_eq_true rfl) rfl rfl rfl rfl ?_
    refine ev.post h (fun v M1 h => ?_)
    obtain ⟨w1, rfl, h⟩ := h
    show ev 26 32 [(0, .inr (.inr (some 10))), (1, .inl x1), (3, .inl x3), (4, .inl x4)] [.inl w1, .inr (.inr (some 10))] M1 _
    refine ev_lo (lo' := [(0, .inr (.inr (some 10))), (1, .inl x1), (3, .inl x3), (4, .inl x4)]) (st' := [.inl x3, .inl w1, .inr (.inr (some 10))]) (pc' := 33) rfl rfl rfl rfl ?_
    refine ev_call (as := [.inr (.inr (some 10)), .inl w1, .inl x3]) (r := []) (pc' := 36) rfl rfl (Nat.le_of_ble_eq_true rfl) (Nat.le_of_ble_eq_true rfl) ⟨rfl, rfl⟩ (Nat.le_of_ble_eq_true rfl) rfl rfl rfl rfl ?_
    refine ev.post h (fun v M2 h => ?_)
    obtain ⟨w2, rfl, h⟩ := h
    show ev 26 36 [(0, .inr (.inr (some 10))), (1, .inl x1), (3, .inl x3), (4, .inl x4)] [.inl w2] M2 _
    refine ev_lo (lo' := [(3, .inl w2), (0, .inr (.inr (some 10))), (1, .inl x1), (4, .inl x4)]) (st' := []) (pc' := 37) rfl rfl rfl rfl ?_
    obtain ⟨hs, h⟩ := h
    refine ev_iinc (lo' := [(4, .inl (x4 + 1)), (3, .inl w2), (0, .inr (.inr (some 10))), (1, .inl x1)]) (pc' := 40) rfl rfl (by decide) (tm_add hs) rfl rfl ?_
    refine ev_br (pc' := 7) (st' := []) rfl rfl rfl ?_
    exact ev_pick [0, 1, 3, 4] rfl rfl h
/-! NulledForest$Chart.fillFrom(I)V -/
def m27 (x1 : Int) (M : ev_M) (Q : ev_M → Prop) : Prop := ev 27 0 [(0, .inr (.inr (some 10))), (1, .inl x1)] [] M (fun v M1 => v = none ∧ Q M1)
def c27_4 (x1 x2 x3 : Int) (M : ev_M) (Q : ev_M → Prop) : Prop := ev 27 4 [(0, .inr (.inr (some 10))), (1, .inl x1), (2, .inl x2), (3, .inl x3)] [] M (fun v M1 => v = none ∧ Q M1)
def c27_19 (x1 x2 x3 x4 : Int) (M : ev_M) (Q : ev_M → Prop) : Prop := ev 27 19 [(0, .inr (.inr (some 10))), (1, .inl x1), (2, .inl x2), (3, .inl x3), (4, .inl x4)] [] M (fun v M1 => v = none ∧ Q M1)
def c27_81 (x1 x3 x4 x5 x6 : Int) (M : ev_M) (Q : ev_M → Prop) : Prop := ev 27 81 [(0, .inr (.inr (some 10))), (1, .inl x1), (3, .inl x3), (4, .inl x4), (5, .inl x5), (6, .inl x6)] [] M (fun v M1 => v = none ∧ Q M1)
def c27_86 (x1 x3 x4 x5 x6 t0 : Int) (M : ev_M) (Q : ev_M → Prop) : Prop := ev 27 86 [(0, .inr (.inr (some 10))), (1, .inl x1), (3, .inl x3), (4, .inl x4), (5, .inl x5), (6, .inl x6)] [.inl t0] M (fun v M1 => v = none ∧ Q M1)
def c27_108 (M : ev_M) (Q : ev_M → Prop) : Prop := ev 27 108 [] [] M (fun v M1 => v = none ∧ Q M1)
set_option maxRecDepth 10000 in
theorem b27 {x1 : Int} {M : ev_M} {Q : ev_M → Prop}
    (h : c27_4 x1 1 0 M Q) : m27 x1 M Q := by
  unfold m27
  refine ev_pu (st' := [.inl 1]) (pc' := 1) rfl rfl rfl rfl ?_
  refine ev_lo (lo' := [(2, .inl 1), (0, .inr (.inr (some 10))), (1, .inl x1)]) (st' := []) (pc' := 2) rfl rfl rfl rfl ?_
  refine ev_pu (st' := [.inl 0]) (pc' := 3) rfl rfl rfl rfl ?_
  refine ev_lo (lo' := [(3, .inl 0), (2, .inl 1), (0, .inr (.inr (some 10))), (1, .inl x1)]) (st' := []) (pc' := 4) rfl rfl rfl rfl ?_
  exact ev_pick [0, 1, 2, 3] rfl rfl h
set_option maxRecDepth 10000 in
theorem b27_4 {x1 x2 x3 : Int} {M : ev_M} {Q : ev_M → Prop}
    (h : (66 < x3 → (c27_108 M Q)) ∧ (¬ (66 < x3) → ((x2 = 0 → (c27_108 M Q)) ∧ (¬ (x2 = 0) → (c27_19 x1 0 x3 0 M Q))))) : c27_4 x1 x2 x3 M Q := by
  unfold c27_4
  refine ev_lo (lo' := [(0, .inr (.inr (some 10))), (1, .inl x1), (2, .inl x2), (3, .inl x3)]) (st' := [.inl x3]) (pc' := 5) rfl rfl rfl rfl ?_
  refine ev_pu (st' := [.inl 66, .inl x3]) (pc' := 7) rfl rfl rfl rfl ?_
  refine ev_icmp (pc' := 108) (pc2 := 10) rfl (by decide) rfl rfl (fun hc => ?_) (fun hc => ?_)
  · replace h := h.1 (of_decide_eq_true hc)
    exact ev_pick [] rfl rfl h
  · replace h := h.2 (of_decide_eq_false hc)
    refine ev_lo (lo' := [(0, .inr (.inr (some 10))), (1, .inl x1), (2, .inl x2), (3, .inl x3)]) (st' := [.inl x2]) (pc' := 11) rfl rfl rfl rfl ?_
    refine ev_ifT (pc' := 108) (pc2 := 14) rfl (by decide) rfl rfl (fun hc => ?_) (fun hc => ?_)
    · replace h := h.1 (of_decide_eq_true hc)
      exact ev_pick [] rfl rfl h
    · replace h := h.2 (of_decide_eq_false hc)
      refine ev_pu (st' := [.inl 0]) (pc' := 15) rfl rfl rfl rfl ?_
      refine ev_lo (lo' := [(2, .inl 0), (0, .inr (.inr (some 10))), (1, .inl x1), (3, .inl x3)]) (st' := []) (pc' := 16) rfl rfl rfl rfl ?_
      refine ev_pu (st' := [.inl 0]) (pc' := 17) rfl rfl rfl rfl ?_
      refine ev_lo (lo' := [(4, .inl 0), (2, .inl 0), (0, .inr (.inr (some 10))), (1, .inl x1), (3, .inl x3)]) (st' := []) (pc' := 19) rfl rfl rfl rfl ?_
      exact ev_pick [0, 1, 2, 3, 4] rfl rfl h
set_option maxRecDepth 10000 in
theorem b27_19 {x1 x2 x3 x4 : Int} {M : ev_M} {Q : ev_M → Prop}
    (h : ((sG_count M) ≤ x4 → (tm_iI (x3 + 1) ∧ (c27_4 x1 x2 (x3 + 1) M Q))) ∧ (¬ ((sG_count M) ≤ x4) → ((0 ≤ x4 ∧ x4 < 14) ∧ (tm_iI ((aG_left M (x4).toNat) * 11) ∧ (tm_iI (((aG_left M (x4).toNat) * 11) + x1) ∧ ((0 ≤ (((aG_left M (x4).toNat) * 11) + x1) ∧ (((aG_left M (x4).toNat) * 11) + x1) < 110) ∧ (m26 x4 x1 M (fun w1 M1 => (0 ≤ (aC_ends M (((aG_left M (x4).toNat) * 11) + x1).toNat) ∧ (aC_ends M (((aG_left M (x4).toNat) * 11) + x1).toNat) < 2147483648) ∧ (0 ≤ w1 ∧ w1 < 2147483648) ∧ ((¬ x2 = 0 → (c27_81 x1 x3 x4 (((aG_left M (x4).toNat) * 11) + x1) (tm_or (aC_ends M (((aG_left M (x4).toNat) * 11) + x1).toNat) w1) M1 Q)) ∧ (¬ (¬ x2 = 0) → ((0 ≤ (((aG_left M (x4).toNat) * 11) + x1) ∧ (((aG_left M (x4).toNat) * 11) + x1) < 110) ∧ (((tm_or (aC_ends M (((aG_left M (x4).toNat) * 11) + x1).toNat) w1) = (aC_ends M1 (((aG_left M (x4).toNat) * 11) + x1).toNat) → (c27_86 x1 x3 x4 (((aG_left M (x4).toNat) * 11) + x1) (tm_or (aC_ends M (((aG_left M (x4).toNat) * 11) + x1).toNat) w1) 0 M1 Q)) ∧ (¬ ((tm_or (aC_ends M (((aG_left M (x4).toNat) * 11) + x1).toNat) w1) = (aC_ends M1 (((aG_left M (x4).toNat) * 11) + x1).toNat)) → (c27_81 x1 x3 x4 (((aG_left M (x4).toNat) * 11) + x1) (tm_or (aC_ends M (((aG_left M (x4).toNat) * 11) + x1).toNat) w1) M1 Q)))))))))))))) : c27_19 x1 x2 x3 x4 M Q := by
  unfold c27_19
  refine ev_lo (lo' := [(0, .inr (.inr (some 10))), (1, .inl x1), (2, .inl x2), (3, .inl x3), (4, .inl x4)]) (st' := [.inl x4]) (pc' := 21) rfl rfl rfl rfl ?_
  refine ev_lo (lo' := [(0, .inr (.inr (some 10))), (1, .inl x1), (2, .inl x2), (3, .inl x3), (4, .inl x4)]) (st' := [.inr (.inr (some 10)), .inl x4]) (pc' := 22) rfl rfl rfl rfl ?_
  refine ev_get (v := .inr (.inr (some 1))) (pc' := 25) rfl rfl rfl rfl ?_
  refine ev_get (v := .inl (sG_count M)) (pc' := 28) rfl rfl rfl rfl ?_
  refine ev_icmp (pc' := 102) (pc2 := 31) rfl (by decide) rfl rfl (fun hc => ?_) (fun hc => ?_)
  · replace h := h.1 (of_decide_eq_true hc)
    obtain ⟨hs, h⟩ := h
    refine ev_iinc (lo' := [(3, .inl (x3 + 1)), (0, .inr (.inr (some 10))), (1, .inl x1), (2, .inl x2), (4, .inl x4)]) (pc' := 105) rfl rfl (by decide) (tm_add hs) rfl rfl ?_
    refine ev_br (pc' := 4) (st' := []) rfl rfl rfl ?_
    exact ev_pick [0, 1, 2, 3] rfl rfl h
  · replace h := h.2 (of_decide_eq_false hc)
    refine ev_lo (lo' := [(0, .inr (.inr (some 10))), (1, .inl x1), (2, .inl x2), (3, .inl x3), (4, .inl x4)]) (st' := [.inr (.inr (some 10))]) (pc' := 32) rfl rfl rfl rfl ?_
    refine ev_get (v := .inr (.inr (some 1))) (pc' := 35) rfl rfl rfl rfl ?_
    refine ev_get (v := .inr (.inr (some 2))) (pc' := 38) rfl rfl rfl rfl ?_
    refine ev_lo (lo' := [(0, .inr (.inr (some 10))), (1, .inl x1), (2, .inl x2), (3, .inl x3), (4, .inl x4)]) (st' := [.inl x4, .inr (.inr (some 2))]) (pc' := 40) rfl rfl rfl rfl ?_
    obtain ⟨hs0, h⟩ := h
    refine ev_ald (t := 0) (n := 14) (f := aG_left M) (w := fun x => .inl x) (pc' := 41) rfl rfl (fun _ _ => rfl) rfl hs0 rfl ?_
    refine ev_pu (st' := [.inl 11, .inl (aG_left M (x4).toNat)]) (pc' := 43) rfl rfl rfl rfl ?_
    obtain ⟨hs, h⟩ := h
    refine ev_ii (f := fun a b => a * b) (pc' := 44) rfl rfl (fun _ => rfl) (tm_mul hs) rfl ?_
    refine ev_lo (lo' := [(0, .inr (.inr (some 10))), (1, .inl x1), (2, .inl x2), (3, .inl x3), (4, .inl x4)]) (st' := [.inl x1, .inl ((aG_left M (x4).toNat) * 11)]) (pc' := 45) rfl rfl rfl rfl ?_
    obtain ⟨hs, h⟩ := h
    refine ev_ii (f := fun a b => a + b) (pc' := 46) rfl rfl (fun _ => rfl) (tm_add hs) rfl ?_
    refine ev_lo (lo' := [(5, .inl (((aG_left M (x4).toNat) * 11) + x1)), (0, .inr (.inr (some 10))), (1, .inl x1), (2, .inl x2), (3, .inl x3), (4, .inl x4)]) (st' := []) (pc' := 48) rfl rfl rfl rfl ?_
    refine ev_lo (lo' := [(5, .inl (((aG_left M (x4).toNat) * 11) + x1)), (0, .inr (.inr (some 10))), (1, .inl x1), (2, .inl x2), (3, .inl x3), (4, .inl x4)]) (st' := [.inr (.inr (some 10))]) (pc' := 49) rfl rfl rfl rfl ?_
    refine ev_get (v := .inr (.inr (some 12))) (pc' := 52) rfl rfl rfl rfl ?_
    refine ev_lo (lo' := [(5, .inl (((aG_left M (x4).toNat) * 11) + x1)), (0, .inr (.inr (some 10))), (1, .inl x1), (2, .inl x2), (3, .inl x3), (4, .inl x4)]) (st' := [.inl (((aG_left M (x4).toNat) * 11) + x1), .inr (.inr (some 12))]) (pc' := 54) rfl rfl rfl rfl ?_
    obtain ⟨hs0, h⟩ := h
    refine ev_ald (t := 0) (n := 110) (f := aC_ends M) (w := fun x => .inl x) (pc' := 55) rfl rfl (fun _ _ => rfl) rfl hs0 rfl ?_
    refine ev_lo (lo' := [(5, .inl (((aG_left M (x4).toNat) * 11) + x1)), (0, .inr (.inr (some 10))), (1, .inl x1), (2, .inl x2), (3, .inl x3), (4, .inl x4)]) (st' := [.inr (.inr (some 10)), .inl (aC_ends M (((aG_left M (x4).toNat) * 11) + x1).toNat)]) (pc' := 56) rfl rfl rfl rfl ?_
    refine ev_lo (lo' := [(5, .inl (((aG_left M (x4).toNat) * 11) + x1)), (0, .inr (.inr (some 10))), (1, .inl x1), (2, .inl x2), (3, .inl x3), (4, .inl x4)]) (st' := [.inl x4, .inr (.inr (some 10)), .inl (aC_ends M (((aG_left M (x4).toNat) * 11) + x1).toNat)]) (pc' := 58) rfl rfl rfl rfl ?_
    refine ev_lo (lo' := [(5, .inl (((aG_left M (x4).toNat) * 11) + x1)), (0, .inr (.inr (some 10))), (1, .inl x1), (2, .inl x2), (3, .inl x3), (4, .inl x4)]) (st' := [.inl x1, .inl x4, .inr (.inr (some 10)), .inl (aC_ends M (((aG_left M (x4).toNat) * 11) + x1).toNat)]) (pc' := 59) rfl rfl rfl rfl ?_
    refine ev_call (as := [.inr (.inr (some 10)), .inl x4, .inl x1]) (r := [.inl (aC_ends M (((aG_left M (x4).toNat) * 11) + x1).toNat)]) (pc' := 62) rfl rfl (Nat.le_of_ble_eq_true rfl) (Nat.le_of_ble_eq_true rfl) ⟨rfl, rfl⟩ (Nat.le_of_ble_eq_true rfl) rfl rfl rfl rfl ?_
    refine ev.post h (fun v M1 h => ?_)
    obtain ⟨w1, rfl, h⟩ := h
    show ev 27 62 [(5, .inl (((aG_left M (x4).toNat) * 11) + x1)), (0, .inr (.inr (some 10))), (1, .inl x1), (2, .inl x2), (3, .inl x3), (4, .inl x4)] [.inl w1, .inl (aC_ends M (((aG_left M (x4).toNat) * 11) + x1).toNat)] M1 _
    obtain ⟨hs0, hs1, h⟩ := h
    refine ev_ii (f := fun a b => a ||| b) (pc' := 63) rfl rfl (fun _ => rfl) (tm_or_eq hs0 hs1) rfl ?_
    refine ev_lo (lo' := [(6, .inl (tm_or (aC_ends M (((aG_left M (x4).toNat) * 11) + x1).toNat) w1)), (5, .inl (((aG_left M (x4).toNat) * 11) + x1)), (0, .inr (.inr (some 10))), (1, .inl x1), (2, .inl x2), (3, .inl x3), (4, .inl x4)]) (st' := []) (pc' := 65) rfl rfl rfl rfl ?_
    refine ev_lo (lo' := [(6, .inl (tm_or (aC_ends M (((aG_left M (x4).toNat) * 11) + x1).toNat) w1)), (5, .inl (((aG_left M (x4).toNat) * 11) + x1)), (0, .inr (.inr (some 10))), (1, .inl x1), (2, .inl x2), (3, .inl x3), (4, .inl x4)]) (st' := [.inl x2]) (pc' := 66) rfl rfl rfl rfl ?_
    refine ev_ifT (pc' := 81) (pc2 := 69) rfl (by decide) rfl rfl (fun hc => ?_) (fun hc => ?_)
    · replace h := h.1 (of_decide_eq_true hc)
      exact ev_pick [0, 1, 3, 4, 5, 6] rfl rfl h
    · replace h := h.2 (of_decide_eq_false hc)
      refine ev_lo (lo' := [(6, .inl (tm_or (aC_ends M (((aG_left M (x4).toNat) * 11) + x1).toNat) w1)), (5, .inl (((aG_left M (x4).toNat) * 11) + x1)), (0, .inr (.inr (some 10))), (1, .inl x1), (2, .inl x2), (3, .inl x3), (4, .inl x4)]) (st' := [.inl (tm_or (aC_ends M (((aG_left M (x4).toNat) * 11) + x1).toNat) w1)]) (pc' := 71) rfl rfl rfl rfl ?_
      refine ev_lo (lo' := [(6, .inl (tm_or (aC_ends M (((aG_left M (x4).toNat) * 11) + x1).toNat) w1)), (5, .inl (((aG_left M (x4).toNat) * 11) + x1)), (0, .inr (.inr (some 10))), (1, .inl x1), (2, .inl x2), (3, .inl x3), (4, .inl x4)]) (st' := [.inr (.inr (some 10)), .inl (tm_or (aC_ends M (((aG_left M (x4).toNat) * 11) + x1).toNat) w1)]) (pc' := 72) rfl rfl rfl rfl ?_
      refine ev_get (v := .inr (.inr (some 12))) (pc' := 75) rfl rfl rfl rfl ?_
      refine ev_lo (lo' := [(6, .inl (tm_or (aC_ends M (((aG_left M (x4).toNat) * 11) + x1).toNat) w1)), (5, .inl (((aG_left M (x4).toNat) * 11) + x1)), (0, .inr (.inr (some 10))), (1, .inl x1), (2, .inl x2), (3, .inl x3), (4, .inl x4)]) (st' := [.inl (((aG_left M (x4).toNat) * 11) + x1), .inr (.inr (some 12)), .inl (tm_or (aC_ends M (((aG_left M (x4).toNat) * 11) + x1).toNat) w1)]) (pc' := 77) rfl rfl rfl rfl ?_
      obtain ⟨hs0, h⟩ := h
      refine ev_ald (t := 0) (n := 110) (f := aC_ends M1) (w := fun x => .inl x) (pc' := 78) rfl rfl (fun _ _ => rfl) rfl hs0 rfl ?_
      refine ev_icmp (pc' := 85) (pc2 := 81) rfl (by decide) rfl rfl (fun hc => ?_) (fun hc => ?_)
      · replace h := h.1 (of_decide_eq_true hc)
        refine ev_pu (st' := [.inl 0]) (pc' := 86) rfl rfl rfl rfl ?_
        exact ev_pick [0, 1, 3, 4, 5, 6] rfl rfl h
      · replace h := h.2 (of_decide_eq_false hc)
        exact ev_pick [0, 1, 3, 4, 5, 6] rfl rfl h
set_option maxRecDepth 10000 in
theorem b27_81 {x1 x3 x4 x5 x6 : Int} {M : ev_M} {Q : ev_M → Prop}
    (h : c27_86 x1 x3 x4 x5 x6 1 M Q) : c27_81 x1 x3 x4 x5 x6 M Q := by
  unfold c27_81
  refine ev_pu (st' := [.inl 1]) (pc' := 82) rfl rfl rfl rfl ?_
  refine ev_br (pc' := 86) (st' := [.inl 1]) rfl rfl rfl ?_
  exact ev_pick [0, 1, 3, 4, 5, 6] rfl rfl h
set_option maxRecDepth 10000 in
theorem b27_86 {x1 x3 x4 x5 x6 t0 : Int} {M : ev_M} {Q : ev_M → Prop}
    (h : (0 ≤ x5 ∧ x5 < 110) ∧ (tm_iI (x4 + 1) ∧ (c27_19 x1 t0 x3 (x4 + 1) (ev_sA M 12 (x5).toNat x6) Q))) : c27_86 x1 x3 x4 x5 x6 t0 M Q := by
  unfold c27_86
  refine ev_lo (lo' := [(2, .inl t0), (0, .inr (.inr (some 10))), (1, .inl x1), (3, .inl x3), (4, .inl x4), (5, .inl x5), (6, .inl x6)]) (st' := []) (pc' := 87) rfl rfl rfl rfl ?_
  refine ev_lo (lo' := [(2, .inl t0), (0, .inr (.inr (some 10))), (1, .inl x1), (3, .inl x3), (4, .inl x4), (5, .inl x5), (6, .inl x6)]) (st' := [.inr (.inr (some 10))]) (pc' := 88) rfl rfl rfl rfl ?_
  refine ev_get (v := .inr (.inr (some 12))) (pc' := 91) rfl rfl rfl rfl ?_
  refine ev_lo (lo' := [(2, .inl t0), (0, .inr (.inr (some 10))), (1, .inl x1), (3, .inl x3), (4, .inl x4), (5, .inl x5), (6, .inl x6)]) (st' := [.inl x5, .inr (.inr (some 12))]) (pc' := 93) rfl rfl rfl rfl ?_
  refine ev_lo (lo' := [(2, .inl t0), (0, .inr (.inr (some 10))), (1, .inl x1), (3, .inl x3), (4, .inl x4), (5, .inl x5), (6, .inl x6)]) (st' := [.inl x6, .inl x5, .inr (.inr (some 12))]) (pc' := 95) rfl rfl rfl rfl ?_
  obtain ⟨hs0, h⟩ := h
  refine ev_iast (n := 110) (f := aC_ends M) (M' := ev_sA M 12 (x5).toNat x6) (pc' := 96) rfl rfl hs0 (hp_a12 _ _ _) rfl ?_
  obtain ⟨hs, h⟩ := h
  refine ev_iinc (lo' := [(4, .inl (x4 + 1)), (2, .inl t0), (0, .inr (.inr (some 10))), (1, .inl x1), (3, .inl x3), (5, .inl x5), (6, .inl x6)]) (pc' := 99) rfl rfl (by decide) (tm_add hs) rfl rfl ?_
  refine ev_br (pc' := 19) (st' := []) rfl rfl rfl ?_
  exact ev_pick [0, 1, 2, 3, 4] rfl rfl h
set_option maxRecDepth 10000 in
theorem b27_108 {M : ev_M} {Q : ev_M → Prop}
    (h : Q M) : c27_108 M Q := by
  unfold c27_108
  exact ev_rt rfl rfl rfl ⟨rfl, h⟩
/-! NulledForest$Chart.fill()V -/
def m28 (M : ev_M) (Q : ev_M → Prop) : Prop := ev 28 0 [(0, .inr (.inr (some 10)))] [] M (fun v M1 => v = none ∧ Q M1)
def c28_10 (x1 : Int) (M : ev_M) (Q : ev_M → Prop) : Prop := ev 28 10 [(0, .inr (.inr (some 10))), (1, .inl x1)] [] M (fun v M1 => v = none ∧ Q M1)
def c28_50 (x1 : Int) (M : ev_M) (Q : ev_M → Prop) : Prop := ev 28 50 [(0, .inr (.inr (some 10))), (1, .inl x1)] [] M (fun v M1 => v = none ∧ Q M1)
set_option maxRecDepth 10000 in
theorem b28 {M : ev_M} {Q : ev_M → Prop}
    (h : m1 12 0 M (fun M1 => c28_10 0 M1 Q)) : m28 M Q := by
  unfold m28
  refine ev_lo (lo' := [(0, .inr (.inr (some 10)))]) (st' := [.inr (.inr (some 10))]) (pc' := 1) rfl rfl rfl rfl ?_
  refine ev_get (v := .inr (.inr (some 12))) (pc' := 4) rfl rfl rfl rfl ?_
  refine ev_pu (st' := [.inl 0, .inr (.inr (some 12))]) (pc' := 5) rfl rfl rfl rfl ?_
  refine ev_call (as := [.inr (.inr (some 12)), .inl 0]) (r := []) (pc' := 8) rfl rfl (Nat.le_of_ble_eq_true rfl) (Nat.le_of_ble_eq_true rfl) ⟨rfl, rfl⟩ (Nat.le_of_ble_eq_true rfl) rfl rfl rfl rfl ?_
  refine ev.post h (fun v M1 h => ?_)
  obtain ⟨rfl, h⟩ := h
  show ev 28 8 [(0, .inr (.inr (some 10)))] [] M1 _
  refine ev_pu (st' := [.inl 0]) (pc' := 9) rfl rfl rfl rfl ?_
  refine ev_lo (lo' := [(1, .inl 0), (0, .inr (.inr (some 10)))]) (st' := []) (pc' := 10) rfl rfl rfl rfl ?_
  exact ev_pick [0, 1] rfl rfl h
set_option maxRecDepth 10000 in
theorem b28_10 {x1 : Int} {M : ev_M} {Q : ev_M → Prop}
    (h : ((sC_size M) ≤ x1 → (c28_50 (sC_size M) M Q)) ∧ (¬ ((sC_size M) ≤ x1) → ((0 ≤ x1 ∧ x1 < 10) ∧ (tm_iI ((aC_text M (x1).toNat) * 11) ∧ (tm_iI (((aC_text M (x1).toNat) * 11) + x1) ∧ (tm_iI (x1 + 1) ∧ ((0 ≤ (x1 + 1) ∧ (x1 + 1) < 32) ∧ (1 : Int) * 2 ^ (x1 + 1).toNat < 2147483648 ∧ ((0 ≤ (((aC_text M (x1).toNat) * 11) + x1) ∧ (((aC_text M (x1).toNat) * 11) + x1) < 110) ∧ (tm_iI (x1 + 1) ∧ (c28_10 (x1 + 1) (ev_sA M 12 (((aC_text M (x1).toNat) * 11) + x1).toNat (tm_sl 1 (x1 + 1))) Q)))))))))) : c28_10 x1 M Q := by
  unfold c28_10
  refine ev_lo (lo' := [(0, .inr (.inr (some 10))), (1, .inl x1)]) (st' := [.inl x1]) (pc' := 11) rfl rfl rfl rfl ?_
  refine ev_lo (lo' := [(0, .inr (.inr (some 10))), (1, .inl x1)]) (st' := [.inr (.inr (some 10)), .inl x1]) (pc' := 12) rfl rfl rfl rfl ?_
  refine ev_get (v := .inl (sC_size M)) (pc' := 15) rfl rfl rfl rfl ?_
  refine ev_icmp (pc' := 45) (pc2 := 18) rfl (by decide) rfl rfl (fun hc => ?_) (fun hc => ?_)
  · replace h := h.1 (of_decide_eq_true hc)
    refine ev_lo (lo' := [(0, .inr (.inr (some 10))), (1, .inl x1)]) (st' := [.inr (.inr (some 10))]) (pc' := 46) rfl rfl rfl rfl ?_
    refine ev_get (v := .inl (sC_size M)) (pc' := 49) rfl rfl rfl rfl ?_
    refine ev_lo (lo' := [(1, .inl (sC_size M)), (0, .inr (.inr (some 10)))]) (st' := []) (pc' := 50) rfl rfl rfl rfl ?_
    exact ev_pick [0, 1] rfl rfl h
  · replace h := h.2 (of_decide_eq_false hc)
    refine ev_lo (lo' := [(0, .inr (.inr (some 10))), (1, .inl x1)]) (st' := [.inr (.inr (some 10))]) (pc' := 19) rfl rfl rfl rfl ?_
    refine ev_get (v := .inr (.inr (some 12))) (pc' := 22) rfl rfl rfl rfl ?_
    refine ev_lo (lo' := [(0, .inr (.inr (some 10))), (1, .inl x1)]) (st' := [.inr (.inr (some 10)), .inr (.inr (some 12))]) (pc' := 23) rfl rfl rfl rfl ?_
    refine ev_get (v := .inr (.inr (some 11))) (pc' := 26) rfl rfl rfl rfl ?_
    refine ev_lo (lo' := [(0, .inr (.inr (some 10))), (1, .inl x1)]) (st' := [.inl x1, .inr (.inr (some 11)), .inr (.inr (some 12))]) (pc' := 27) rfl rfl rfl rfl ?_
    obtain ⟨hs0, h⟩ := h
    refine ev_ald (t := 0) (n := 10) (f := aC_text M) (w := fun x => .inl x) (pc' := 28) rfl rfl (fun _ _ => rfl) rfl hs0 rfl ?_
    refine ev_pu (st' := [.inl 11, .inl (aC_text M (x1).toNat), .inr (.inr (some 12))]) (pc' := 30) rfl rfl rfl rfl ?_
    obtain ⟨hs, h⟩ := h
    refine ev_ii (f := fun a b => a * b) (pc' := 31) rfl rfl (fun _ => rfl) (tm_mul hs) rfl ?_
    refine ev_lo (lo' := [(0, .inr (.inr (some 10))), (1, .inl x1)]) (st' := [.inl x1, .inl ((aC_text M (x1).toNat) * 11), .inr (.inr (some 12))]) (pc' := 32) rfl rfl rfl rfl ?_
    obtain ⟨hs, h⟩ := h
    refine ev_ii (f := fun a b => a + b) (pc' := 33) rfl rfl (fun _ => rfl) (tm_add hs) rfl ?_
    refine ev_pu (st' := [.inl 1, .inl (((aC_text M (x1).toNat) * 11) + x1), .inr (.inr (some 12))]) (pc' := 34) rfl rfl rfl rfl ?_
    refine ev_lo (lo' := [(0, .inr (.inr (some 10))), (1, .inl x1)]) (st' := [.inl x1, .inl 1, .inl (((aC_text M (x1).toNat) * 11) + x1), .inr (.inr (some 12))]) (pc' := 35) rfl rfl rfl rfl ?_
    refine ev_pu (st' := [.inl 1, .inl x1, .inl 1, .inl (((aC_text M (x1).toNat) * 11) + x1), .inr (.inr (some 12))]) (pc' := 36) rfl rfl rfl rfl ?_
    obtain ⟨hs, h⟩ := h
    refine ev_ii (f := fun a b => a + b) (pc' := 37) rfl rfl (fun _ => rfl) (tm_add hs) rfl ?_
    obtain ⟨hs1, hs2, h⟩ := h
    refine ev_ii (f := fun a b => a <<< (b &&& 31)) (pc' := 38) rfl rfl (fun _ => rfl) (tm_sl_eq (by decide) hs1 hs2) rfl ?_
    obtain ⟨hs0, h⟩ := h
    refine ev_iast (n := 110) (f := aC_ends M) (M' := ev_sA M 12 (((aC_text M (x1).toNat) * 11) + x1).toNat (tm_sl 1 (x1 + 1))) (pc' := 39) rfl rfl hs0 (hp_a12 _ _ _) rfl ?_
    obtain ⟨hs, h⟩ := h
    refine ev_iinc (lo' := [(1, .inl (x1 + 1)), (0, .inr (.inr (some 10)))]) (pc' := 42) rfl rfl (by decide) (tm_add hs) rfl rfl ?_
    refine ev_br (pc' := 10) (st' := []) rfl rfl rfl ?_
    exact ev_pick [0, 1] rfl rfl h
set_option maxRecDepth 10000 in
theorem b28_50 {x1 : Int} {M : ev_M} {Q : ev_M → Prop}
    (h : (x1 < 0 → (Q M)) ∧ (¬ (x1 < 0) → (m27 x1 M (fun M1 => tm_iI (x1 + (-1)) ∧ (c28_50 (x1 + (-1)) M1 Q))))) : c28_50 x1 M Q := by
  unfold c28_50
  refine ev_lo (lo' := [(0, .inr (.inr (some 10))), (1, .inl x1)]) (st' := [.inl x1]) (pc' := 51) rfl rfl rfl rfl ?_
  refine ev_ifT (pc' := 65) (pc2 := 54) rfl (by decide) rfl rfl (fun hc => ?_) (fun hc => ?_)
  · replace h := h.1 (of_decide_eq_true hc)
    exact ev_rt rfl rfl rfl ⟨rfl, h⟩
  · replace h := h.2 (of_decide_eq_false hc)
    refine ev_lo (lo' := [(0, .inr (.inr (some 10))), (1, .inl x1)]) (st' := [.inr (.inr (some 10))]) (pc' := 55) rfl rfl rfl rfl ?_
    refine ev_lo (lo' := [(0, .inr (.inr (some 10))), (1, .inl x1)]) (st' := [.inl x1, .inr (.inr (some 10))]) (pc' := 56) rfl rfl rfl rfl ?_
    refine ev_call (as := [.inr (.inr (some 10)), .inl x1]) (r := []) (pc' := 59) rfl rfl (Nat.le_of_ble_eq_true rfl) (Nat.le_of_ble_eq_true rfl) ⟨rfl, rfl⟩ (Nat.le_of_ble_eq_true rfl) rfl rfl rfl rfl ?_
    refine ev.post h (fun v M1 h => ?_)
    obtain ⟨rfl, h⟩ := h
    show ev 28 59 [(0, .inr (.inr (some 10))), (1, .inl x1)] [] M1 _
    obtain ⟨hs, h⟩ := h
    refine ev_iinc (lo' := [(1, .inl (x1 + (-1))), (0, .inr (.inr (some 10)))]) (pc' := 62) rfl rfl (by decide) (tm_add hs) rfl rfl ?_
    refine ev_br (pc' := 50) (st' := []) rfl rfl rfl ?_
    exact ev_pick [0, 1] rfl rfl h
/-! NulledForest$Frontier.spread(II)V -/
def m30 (x1 x2 : Int) (M : ev_M) (Q : ev_M → Prop) : Prop := ev 30 0 [(0, .inr (.inr (some 13))), (1, .inl x1), (2, .inl x2)] [] M (fun v M1 => v = none ∧ Q M1)
def c30_2 (x1 x2 x3 : Int) (M : ev_M) (Q : ev_M → Prop) : Prop := ev 30 2 [(0, .inr (.inr (some 13))), (1, .inl x1), (2, .inl x2), (3, .inl x3)] [] M (fun v M1 => v = none ∧ Q M1)
def c30_38 (x1 x2 x3 x4 t0 : Int) (M : ev_M) (Q : ev_M → Prop) : Prop := ev 30 38 [(0, .inr (.inr (some 13))), (1, .inl x1), (2, .inl x2), (3, .inl x3), (4, .inl x4)] [.inl t0] M (fun v M1 => v = none ∧ Q M1)
def c30_43 (x1 x2 x3 x4 x5 x6 : Int) (M : ev_M) (Q : ev_M → Prop) : Prop := ev 30 43 [(0, .inr (.inr (some 13))), (1, .inl x1), (2, .inl x2), (3, .inl x3), (4, .inl x4), (5, .inl x5), (6, .inl x6)] [] M (fun v M1 => v = none ∧ Q M1)
def c30_79 (x1 x2 x3 x4 x5 x6 : Int) (M : ev_M) (Q : ev_M → Prop) : Prop := ev 30 79 [(0, .inr (.inr (some 13))), (1, .inl x1), (2, .inl x2), (3, .inl x3), (4, .inl x4), (5, .inl x5), (6, .inl x6)] [] M (fun v M1 => v = none ∧ Q M1)
set_option maxRecDepth 10000 in
theorem b30 {x1 x2 : Int} {M : ev_M} {Q : ev_M → Prop}
    (h : c30_2 x1 x2 0 M Q) : m30 x1 x2 M Q := by
  unfold m30
  refine ev_pu (st' := [.inl 0]) (pc' := 1) rfl rfl rfl rfl ?_
  refine ev_lo (lo' := [(3, .inl 0), (0, .inr (.inr (some 13))), (1, .inl x1), (2, .inl x2)]) (st' := []) (pc' := 2) rfl rfl rfl rfl ?_
  exact ev_pick [0, 1, 2, 3] rfl rfl h
set_option maxRecDepth 10000 in
theorem b30_2 {x1 x2 x3 : Int} {M : ev_M} {Q : ev_M → Prop}
    (h : (10 ≤ x3 → (Q M)) ∧ (¬ (10 ≤ x3) → (m13 x2 x3 M (fun w1 M1 => (¬ w1 = (-1) → (m23 x3 x1 M1 (fun w2 M2 => c30_38 x1 x2 x3 w1 w2 M2 Q))) ∧ (¬ (¬ w1 = (-1)) → (c30_38 x1 x2 x3 w1 0 M1 Q)))))) : c30_2 x1 x2 x3 M Q := by
  unfold c30_2
  refine ev_lo (lo' := [(0, .inr (.inr (some 13))), (1, .inl x1), (2, .inl x2), (3, .inl x3)]) (st' := [.inl x3]) (pc' := 3) rfl rfl rfl rfl ?_
  refine ev_pu (st' := [.inl 10, .inl x3]) (pc' := 5) rfl rfl rfl rfl ?_
  refine ev_icmp (pc' := 91) (pc2 := 8) rfl (by decide) rfl rfl (fun hc => ?_) (fun hc => ?_)
  · replace h := h.1 (of_decide_eq_true hc)
    exact ev_rt rfl rfl rfl ⟨rfl, h⟩
  · replace h := h.2 (of_decide_eq_false hc)
    refine ev_lo (lo' := [(0, .inr (.inr (some 13))), (1, .inl x1), (2, .inl x2), (3, .inl x3)]) (st' := [.inr (.inr (some 13))]) (pc' := 9) rfl rfl rfl rfl ?_
    refine ev_get (v := .inr (.inr (some 5))) (pc' := 12) rfl rfl rfl rfl ?_
    refine ev_lo (lo' := [(0, .inr (.inr (some 13))), (1, .inl x1), (2, .inl x2), (3, .inl x3)]) (st' := [.inl x2, .inr (.inr (some 5))]) (pc' := 13) rfl rfl rfl rfl ?_
    refine ev_lo (lo' := [(0, .inr (.inr (some 13))), (1, .inl x1), (2, .inl x2), (3, .inl x3)]) (st' := [.inl x3, .inl x2, .inr (.inr (some 5))]) (pc' := 14) rfl rfl rfl rfl ?_
    refine ev_call (as := [.inr (.inr (some 5)), .inl x2, .inl x3]) (r := []) (pc' := 17) rfl rfl (Nat.le_of_ble_eq_true rfl) (Nat.le_of_ble_eq_true rfl) ⟨rfl, rfl⟩ (Nat.le_of_ble_eq_true rfl) rfl rfl rfl rfl ?_
    refine ev.post h (fun v M1 h => ?_)
    obtain ⟨w1, rfl, h⟩ := h
    show ev 30 17 [(0, .inr (.inr (some 13))), (1, .inl x1), (2, .inl x2), (3, .inl x3)] [.inl w1] M1 _
    refine ev_lo (lo' := [(4, .inl w1), (0, .inr (.inr (some 13))), (1, .inl x1), (2, .inl x2), (3, .inl x3)]) (st' := []) (pc' := 19) rfl rfl rfl rfl ?_
    refine ev_lo (lo' := [(4, .inl w1), (0, .inr (.inr (some 13))), (1, .inl x1), (2, .inl x2), (3, .inl x3)]) (st' := [.inl w1]) (pc' := 21) rfl rfl rfl rfl ?_
    refine ev_pu (st' := [.inl (-1), .inl w1]) (pc' := 22) rfl rfl rfl rfl ?_
    refine ev_icmp (pc' := 29) (pc2 := 25) rfl (by decide) rfl rfl (fun hc => ?_) (fun hc => ?_)
    · replace h := h.1 (of_decide_eq_true hc)
      refine ev_lo (lo' := [(4, .inl w1), (0, .inr (.inr (some 13))), (1, .inl x1), (2, .inl x2), (3, .inl x3)]) (st' := [.inr (.inr (some 13))]) (pc' := 30) rfl rfl rfl rfl ?_
      refine ev_get (v := .inr (.inr (some 10))) (pc' := 33) rfl rfl rfl rfl ?_
      refine ev_lo (lo' := [(4, .inl w1), (0, .inr (.inr (some 13))), (1, .inl x1), (2, .inl x2), (3, .inl x3)]) (st' := [.inl x3, .inr (.inr (some 10))]) (pc' := 34) rfl rfl rfl rfl ?_
      refine ev_lo (lo' := [(4, .inl w1), (0, .inr (.inr (some 13))), (1, .inl x1), (2, .inl x2), (3, .inl x3)]) (st' := [.inl x1, .inl x3, .inr (.inr (some 10))]) (pc' := 35) rfl rfl rfl rfl ?_
      refine ev_call (as := [.inr (.inr (some 10)), .inl x3, .inl x1]) (r := []) (pc' := 38) rfl rfl (Nat.le_of_ble_eq_true rfl) (Nat.le_of_ble_eq_true rfl) ⟨rfl, rfl⟩ (Nat.le_of_ble_eq_true rfl) rfl rfl rfl rfl ?_
      refine ev.post h (fun v M2 h => ?_)
      obtain ⟨w2, rfl, h⟩ := h
      show ev 30 38 [(4, .inl w1), (0, .inr (.inr (some 13))), (1, .inl x1), (2, .inl x2), (3, .inl x3)] [.inl w2] M2 _
      exact ev_pick [0, 1, 2, 3, 4] rfl rfl h
    · replace h := h.2 (of_decide_eq_false hc)
      refine ev_pu (st' := [.inl 0]) (pc' := 26) rfl rfl rfl rfl ?_
      refine ev_br (pc' := 38) (st' := [.inl 0]) rfl rfl rfl ?_
      exact ev_pick [0, 1, 2, 3, 4] rfl rfl h
set_option maxRecDepth 10000 in
theorem b30_38 {x1 x2 x3 x4 t0 : Int} {M : ev_M} {Q : ev_M → Prop}
    (h : c30_43 x1 x2 x3 x4 t0 x1 M Q) : c30_38 x1 x2 x3 x4 t0 M Q := by
  unfold c30_38
  refine ev_lo (lo' := [(5, .inl t0), (0, .inr (.inr (some 13))), (1, .inl x1), (2, .inl x2), (3, .inl x3), (4, .inl x4)]) (st' := []) (pc' := 40) rfl rfl rfl rfl ?_
  refine ev_lo (lo' := [(5, .inl t0), (0, .inr (.inr (some 13))), (1, .inl x1), (2, .inl x2), (3, .inl x3), (4, .inl x4)]) (st' := [.inl x1]) (pc' := 41) rfl rfl rfl rfl ?_
  refine ev_lo (lo' := [(6, .inl x1), (5, .inl t0), (0, .inr (.inr (some 13))), (1, .inl x1), (2, .inl x2), (3, .inl x3), (4, .inl x4)]) (st' := []) (pc' := 43) rfl rfl rfl rfl ?_
  exact ev_pick [0, 1, 2, 3, 4, 5, 6] rfl rfl h
set_option maxRecDepth 10000 in
theorem b30_43 {x1 x2 x3 x4 x5 x6 : Int} {M : ev_M} {Q : ev_M → Prop}
    (h : ((sC_size M) < x6 → (tm_iI (x3 + 1) ∧ (c30_2 x1 x2 (x3 + 1) M Q))) ∧ (¬ ((sC_size M) < x6) → ((0 ≤ x5 ∧ x5 < 2147483648) ∧ (0 ≤ x6 ∧ x6 < 32) ∧ ((0 ≤ (tm_sr x5 x6) ∧ (tm_sr x5 x6) < 2147483648) ∧ (((tm_an (tm_sr x5 x6) 1) = 0 → (c30_79 x1 x2 x3 x4 x5 x6 M Q)) ∧ (¬ ((tm_an (tm_sr x5 x6) 1) = 0) → ((0 ≤ x6 ∧ x6 < 11) ∧ ((0 ≤ x4 ∧ x4 < 64) ∧ (1 : Int) * 2 ^ (x4).toNat < 9223372036854775808 ∧ ((0 ≤ (aF_at M (x6).toNat) ∧ (aF_at M (x6).toNat) < 9223372036854775808) ∧ (0 ≤ (tm_sl 1 x4) ∧ (tm_sl 1 x4) < 9223372036854775808) ∧ ((0 ≤ x6 ∧ x6 < 11) ∧ (c30_79 x1 x2 x3 x4 x5 x6 (ev_sA M 14 (x6).toNat (tm_or (aF_at M (x6).toNat) (tm_sl 1 x4))) Q))))))))))) : c30_43 x1 x2 x3 x4 x5 x6 M Q := by
  unfold c30_43
  refine ev_lo (lo' := [(0, .inr (.inr (some 13))), (1, .inl x1), (2, .inl x2), (3, .inl x3), (4, .inl x4), (5, .inl x5), (6, .inl x6)]) (st' := [.inl x6]) (pc' := 45) rfl rfl rfl rfl ?_
  refine ev_lo (lo' := [(0, .inr (.inr (some 13))), (1, .inl x1), (2, .inl x2), (3, .inl x3), (4, .inl x4), (5, .inl x5), (6, .inl x6)]) (st' := [.inr (.inr (some 13)), .inl x6]) (pc' := 46) rfl rfl rfl rfl ?_
  refine ev_get (v := .inr (.inr (some 10))) (pc' := 49) rfl rfl rfl rfl ?_
  refine ev_get (v := .inl (sC_size M)) (pc' := 52) rfl rfl rfl rfl ?_
  refine ev_icmp (pc' := 85) (pc2 := 55) rfl (by decide) rfl rfl (fun hc => ?_) (fun hc => ?_)
  · replace h := h.1 (of_decide_eq_true hc)
    obtain ⟨hs, h⟩ := h
    refine ev_iinc (lo' := [(3, .inl (x3 + 1)), (0, .inr (.inr (some 13))), (1, .inl x1), (2, .inl x2), (4, .inl x4), (5, .inl x5), (6, .inl x6)]) (pc' := 88) rfl rfl (by decide) (tm_add hs) rfl rfl ?_
    refine ev_br (pc' := 2) (st' := []) rfl rfl rfl ?_
    exact ev_pick [0, 1, 2, 3] rfl rfl h
  · replace h := h.2 (of_decide_eq_false hc)
    refine ev_lo (lo' := [(0, .inr (.inr (some 13))), (1, .inl x1), (2, .inl x2), (3, .inl x3), (4, .inl x4), (5, .inl x5), (6, .inl x6)]) (st' := [.inl x5]) (pc' := 57) rfl rfl rfl rfl ?_
    refine ev_lo (lo' := [(0, .inr (.inr (some 13))), (1, .inl x1), (2, .inl x2), (3, .inl x3), (4, .inl x4), (5, .inl x5), (6, .inl x6)]) (st' := [.inl x6, .inl x5]) (pc' := 59) rfl rfl rfl rfl ?_
    obtain ⟨hs0, hs1, h⟩ := h
    refine ev_ii (f := fun a b => a >>> (b &&& 31)) (pc' := 60) rfl rfl (fun _ => rfl) (tm_sr_eq hs0 hs1) rfl ?_
    refine ev_pu (st' := [.inl 1, .inl (tm_sr x5 x6)]) (pc' := 61) rfl rfl rfl rfl ?_
    obtain ⟨hs0, h⟩ := h
    refine ev_ii (f := fun a b => a &&& b) (pc' := 62) rfl rfl (fun _ => rfl) (tm_an_eq hs0 (by decide)) rfl ?_
    refine ev_ifT (pc' := 79) (pc2 := 65) rfl (by decide) rfl rfl (fun hc => ?_) (fun hc => ?_)
    · replace h := h.1 (of_decide_eq_true hc)
      exact ev_pick [0, 1, 2, 3, 4, 5, 6] rfl rfl h
    · replace h := h.2 (of_decide_eq_false hc)
      refine ev_lo (lo' := [(0, .inr (.inr (some 13))), (1, .inl x1), (2, .inl x2), (3, .inl x3), (4, .inl x4), (5, .inl x5), (6, .inl x6)]) (st' := [.inr (.inr (some 13))]) (pc' := 66) rfl rfl rfl rfl ?_
      refine ev_get (v := .inr (.inr (some 14))) (pc' := 69) rfl rfl rfl rfl ?_
      refine ev_lo (lo' := [(0, .inr (.inr (some 13))), (1, .inl x1), (2, .inl x2), (3, .inl x3), (4, .inl x4), (5, .inl x5), (6, .inl x6)]) (st' := [.inl x6, .inr (.inr (some 14))]) (pc' := 71) rfl rfl rfl rfl ?_
      refine ev_pu (st' := [.inl x6, .inr (.inr (some 14)), .inl x6, .inr (.inr (some 14))]) (pc' := 72) rfl rfl rfl rfl ?_
      obtain ⟨hs0, h⟩ := h
      refine ev_ald (t := 1) (n := 11) (f := aF_at M) (w := fun x => .inr (.inl x)) (pc' := 73) rfl rfl (fun _ _ => rfl) rfl hs0 rfl ?_
      refine ev_pu (st' := [.inr (.inl 1), .inr (.inl (aF_at M (x6).toNat)), .inl x6, .inr (.inr (some 14))]) (pc' := 74) rfl rfl rfl rfl ?_
      refine ev_lo (lo' := [(0, .inr (.inr (some 13))), (1, .inl x1), (2, .inl x2), (3, .inl x3), (4, .inl x4), (5, .inl x5), (6, .inl x6)]) (st' := [.inl x4, .inr (.inl 1), .inr (.inl (aF_at M (x6).toNat)), .inl x6, .inr (.inr (some 14))]) (pc' := 76) rfl rfl rfl rfl ?_
      obtain ⟨hs1, hs2, h⟩ := h
      refine ev_lshl (pc' := 77) rfl (tm_lsl_eq (by decide) hs1 hs2) rfl ?_
      obtain ⟨hs0, hs1, h⟩ := h
      refine ev_ll (f := fun a b => a ||| b) (pc' := 78) rfl rfl (fun _ => rfl) (tm_lor_eq hs0 hs1) rfl ?_
      obtain ⟨hs0, h⟩ := h
      refine ev_last (n := 11) (f := aF_at M) (M' := ev_sA M 14 (x6).toNat (tm_or (aF_at M (x6).toNat) (tm_sl 1 x4))) (pc' := 79) rfl rfl hs0 (hp_a14 _ _ _) rfl ?_
      exact ev_pick [0, 1, 2, 3, 4, 5, 6] rfl rfl h
set_option maxRecDepth 10000 in
theorem b30_79 {x1 x2 x3 x4 x5 x6 : Int} {M : ev_M} {Q : ev_M → Prop}
    (h : tm_iI (x6 + 1) ∧ (c30_43 x1 x2 x3 x4 x5 (x6 + 1) M Q)) : c30_79 x1 x2 x3 x4 x5 x6 M Q := by
  unfold c30_79
  obtain ⟨hs, h⟩ := h
  refine ev_iinc (lo' := [(6, .inl (x6 + 1)), (0, .inr (.inr (some 13))), (1, .inl x1), (2, .inl x2), (3, .inl x3), (4, .inl x4), (5, .inl x5)]) (pc' := 82) rfl rfl (by decide) (tm_add hs) rfl rfl ?_
  refine ev_br (pc' := 43) (st' := []) rfl rfl rfl ?_
  exact ev_pick [0, 1, 2, 3, 4, 5, 6] rfl rfl h
/-! NulledForest$Frontier.leave(I)V -/
def m31 (x1 : Int) (M : ev_M) (Q : ev_M → Prop) : Prop := ev 31 0 [(0, .inr (.inr (some 13))), (1, .inl x1)] [] M (fun v M1 => v = none ∧ Q M1)
def c31_5 (x1 x2 x4 : Int) (M : ev_M) (Q : ev_M → Prop) : Prop := ev 31 5 [(0, .inr (.inr (some 13))), (1, .inl x1), (2, .inr (.inl x2)), (4, .inl x4)] [] M (fun v M1 => v = none ∧ Q M1)
def c31_32 (x1 x2 x4 x5 : Int) (M : ev_M) (Q : ev_M → Prop) : Prop := ev 31 32 [(0, .inr (.inr (some 13))), (1, .inl x1), (2, .inr (.inl x2)), (4, .inl x4), (5, .inl x5)] [] M (fun v M1 => v = none ∧ Q M1)
def c31_80 (x1 x2 x4 x5 : Int) (M : ev_M) (Q : ev_M → Prop) : Prop := ev 31 80 [(0, .inr (.inr (some 13))), (1, .inl x1), (2, .inr (.inl x2)), (4, .inl x4), (5, .inl x5)] [] M (fun v M1 => v = none ∧ Q M1)
def c31_92 (M : ev_M) (Q : ev_M → Prop) : Prop := ev 31 92 [] [] M (fun v M1 => v = none ∧ Q M1)
set_option maxRecDepth 10000 in
theorem b31 {x1 : Int} {M : ev_M} {Q : ev_M → Prop}
    (h : c31_5 x1 0 0 M Q) : m31 x1 M Q := by
  unfold m31
  refine ev_pu (st' := [.inr (.inl 0)]) (pc' := 1) rfl rfl rfl rfl ?_
  refine ev_lo (lo' := [(2, .inr (.inl 0)), (0, .inr (.inr (some 13))), (1, .inl x1)]) (st' := []) (pc' := 2) rfl rfl rfl rfl ?_
  refine ev_pu (st' := [.inl 0]) (pc' := 3) rfl rfl rfl rfl ?_
  refine ev_lo (lo' := [(4, .inl 0), (2, .inr (.inl 0)), (0, .inr (.inr (some 13))), (1, .inl x1)]) (st' := []) (pc' := 5) rfl rfl rfl rfl ?_
  exact ev_pick [0, 1, 2, 4] rfl rfl h
set_option maxRecDepth 10000 in
theorem b31_5 {x1 x2 x4 : Int} {M : ev_M} {Q : ev_M → Prop}
    (h : (60 ≤ x4 → (c31_92 M Q)) ∧ (¬ (60 ≤ x4) → ((0 ≤ x1 ∧ x1 < 11) ∧ (((tm_l2 (fun a b => a &&& b) (aF_at M (x1).toNat) (tm_l2 (fun a b => a ^^^ b) x2 (-1))) = 0 → (c31_92 M Q)) ∧ (¬ ((tm_l2 (fun a b => a &&& b) (aF_at M (x1).toNat) (tm_l2 (fun a b => a ^^^ b) x2 (-1))) = 0) → (c31_32 x1 x2 x4 0 M Q)))))) : c31_5 x1 x2 x4 M Q := by
  unfold c31_5
  refine ev_lo (lo' := [(0, .inr (.inr (some 13))), (1, .inl x1), (2, .inr (.inl x2)), (4, .inl x4)]) (st' := [.inl x4]) (pc' := 7) rfl rfl rfl rfl ?_
  refine ev_pu (st' := [.inl 60, .inl x4]) (pc' := 9) rfl rfl rfl rfl ?_
  refine ev_icmp (pc' := 92) (pc2 := 12) rfl (by decide) rfl rfl (fun hc => ?_) (fun hc => ?_)
  · replace h := h.1 (of_decide_eq_true hc)
    exact ev_pick [] rfl rfl h
  · replace h := h.2 (of_decide_eq_false hc)
    refine ev_lo (lo' := [(0, .inr (.inr (some 13))), (1, .inl x1), (2, .inr (.inl x2)), (4, .inl x4)]) (st' := [.inr (.inr (some 13))]) (pc' := 13) rfl rfl rfl rfl ?_
    refine ev_get (v := .inr (.inr (some 14))) (pc' := 16) rfl rfl rfl rfl ?_
    refine ev_lo (lo' := [(0, .inr (.inr (some 13))), (1, .inl x1), (2, .inr (.inl x2)), (4, .inl x4)]) (st' := [.inl x1, .inr (.inr (some 14))]) (pc' := 17) rfl rfl rfl rfl ?_
    obtain ⟨hs0, h⟩ := h
    refine ev_ald (t := 1) (n := 11) (f := aF_at M) (w := fun x => .inr (.inl x)) (pc' := 18) rfl rfl (fun _ _ => rfl) rfl hs0 rfl ?_
    refine ev_lo (lo' := [(0, .inr (.inr (some 13))), (1, .inl x1), (2, .inr (.inl x2)), (4, .inl x4)]) (st' := [.inr (.inl x2), .inr (.inl (aF_at M (x1).toNat))]) (pc' := 19) rfl rfl rfl rfl ?_
    refine ev_kc (st' := [.inr (.inl (-1)), .inr (.inl x2), .inr (.inl (aF_at M (x1).toNat))]) (pc' := 22) rfl rfl rfl rfl ?_
    refine ev_ll (f := fun a b => a ^^^ b) (pc' := 23) rfl rfl (fun _ => rfl) rfl rfl ?_
    refine ev_ll (f := fun a b => a &&& b) (pc' := 24) rfl rfl (fun _ => rfl) rfl rfl ?_
    refine ev_pu (st' := [.inr (.inl 0), .inr (.inl (tm_l2 (fun a b => a &&& b) (aF_at M (x1).toNat) (tm_l2 (fun a b => a ^^^ b) x2 (-1))))]) (pc' := 25) rfl rfl rfl rfl ?_
    refine ev_lcmp (pc1 := 26) (pc' := 92) (pc2 := 29) rfl rfl rfl (by decide) rfl rfl (fun hc => ?_) (fun hc => ?_)
    · replace h := h.1 (of_decide_eq_true hc)
      exact ev_pick [] rfl rfl h
    · replace h := h.2 (of_decide_eq_false hc)
      refine ev_pu (st' := [.inl 0]) (pc' := 30) rfl rfl rfl rfl ?_
      refine ev_lo (lo' := [(5, .inl 0), (0, .inr (.inr (some 13))), (1, .inl x1), (2, .inr (.inl x2)), (4, .inl x4)]) (st' := []) (pc' := 32) rfl rfl rfl rfl ?_
      exact ev_pick [0, 1, 2, 4, 5] rfl rfl h
set_option maxRecDepth 10000 in
theorem b31_32 {x1 x2 x4 x5 : Int} {M : ev_M} {Q : ev_M → Prop}
    (h : ((sA_count M) ≤ x5 → (tm_iI (x4 + 1) ∧ (c31_5 x1 x2 (x4 + 1) M Q))) ∧ (¬ ((sA_count M) ≤ x5) → ((0 ≤ x1 ∧ x1 < 11) ∧ ((0 ≤ x5 ∧ x5 < 64) ∧ (1 : Int) * 2 ^ (x5).toNat < 9223372036854775808 ∧ ((0 ≤ (tm_l2 (fun a b => a &&& b) (aF_at M (x1).toNat) (tm_l2 (fun a b => a ^^^ b) x2 (-1))) ∧ (tm_l2 (fun a b => a &&& b) (aF_at M (x1).toNat) (tm_l2 (fun a b => a ^^^ b) x2 (-1))) < 9223372036854775808) ∧ (0 ≤ (tm_sl 1 x5) ∧ (tm_sl 1 x5) < 9223372036854775808) ∧ (((tm_an (tm_l2 (fun a b => a &&& b) (aF_at M (x1).toNat) (tm_l2 (fun a b => a ^^^ b) x2 (-1))) (tm_sl 1 x5)) = 0 → (c31_80 x1 x2 x4 x5 M Q)) ∧ (¬ ((tm_an (tm_l2 (fun a b => a &&& b) (aF_at M (x1).toNat) (tm_l2 (fun a b => a ^^^ b) x2 (-1))) (tm_sl 1 x5)) = 0) → ((0 ≤ x5 ∧ x5 < 64) ∧ (1 : Int) * 2 ^ (x5).toNat < 9223372036854775808 ∧ ((0 ≤ x2 ∧ x2 < 9223372036854775808) ∧ (0 ≤ (tm_sl 1 x5) ∧ (tm_sl 1 x5) < 9223372036854775808) ∧ (m30 x1 x5 M (fun M1 => c31_80 x1 (tm_or x2 (tm_sl 1 x5)) x4 x5 M1 Q))))))))))) : c31_32 x1 x2 x4 x5 M Q := by
  unfold c31_32
  refine ev_lo (lo' := [(0, .inr (.inr (some 13))), (1, .inl x1), (2, .inr (.inl x2)), (4, .inl x4), (5, .inl x5)]) (st' := [.inl x5]) (pc' := 34) rfl rfl rfl rfl ?_
  refine ev_lo (lo' := [(0, .inr (.inr (some 13))), (1, .inl x1), (2, .inr (.inl x2)), (4, .inl x4), (5, .inl x5)]) (st' := [.inr (.inr (some 13)), .inl x5]) (pc' := 35) rfl rfl rfl rfl ?_
  refine ev_get (v := .inr (.inr (some 5))) (pc' := 38) rfl rfl rfl rfl ?_
  refine ev_get (v := .inl (sA_count M)) (pc' := 41) rfl rfl rfl rfl ?_
  refine ev_icmp (pc' := 86) (pc2 := 44) rfl (by decide) rfl rfl (fun hc => ?_) (fun hc => ?_)
  · replace h := h.1 (of_decide_eq_true hc)
    obtain ⟨hs, h⟩ := h
    refine ev_iinc (lo' := [(4, .inl (x4 + 1)), (0, .inr (.inr (some 13))), (1, .inl x1), (2, .inr (.inl x2)), (5, .inl x5)]) (pc' := 89) rfl rfl (by decide) (tm_add hs) rfl rfl ?_
    refine ev_br (pc' := 5) (st' := []) rfl rfl rfl ?_
    exact ev_pick [0, 1, 2, 4] rfl rfl h
  · replace h := h.2 (of_decide_eq_false hc)
    refine ev_lo (lo' := [(0, .inr (.inr (some 13))), (1, .inl x1), (2, .inr (.inl x2)), (4, .inl x4), (5, .inl x5)]) (st' := [.inr (.inr (some 13))]) (pc' := 45) rfl rfl rfl rfl ?_
    refine ev_get (v := .inr (.inr (some 14))) (pc' := 48) rfl rfl rfl rfl ?_
    refine ev_lo (lo' := [(0, .inr (.inr (some 13))), (1, .inl x1), (2, .inr (.inl x2)), (4, .inl x4), (5, .inl x5)]) (st' := [.inl x1, .inr (.inr (some 14))]) (pc' := 49) rfl rfl rfl rfl ?_
    obtain ⟨hs0, h⟩ := h
    refine ev_ald (t := 1) (n := 11) (f := aF_at M) (w := fun x => .inr (.inl x)) (pc' := 50) rfl rfl (fun _ _ => rfl) rfl hs0 rfl ?_
    refine ev_lo (lo' := [(0, .inr (.inr (some 13))), (1, .inl x1), (2, .inr (.inl x2)), (4, .inl x4), (5, .inl x5)]) (st' := [.inr (.inl x2), .inr (.inl (aF_at M (x1).toNat))]) (pc' := 51) rfl rfl rfl rfl ?_
    refine ev_kc (st' := [.inr (.inl (-1)), .inr (.inl x2), .inr (.inl (aF_at M (x1).toNat))]) (pc' := 54) rfl rfl rfl rfl ?_
    refine ev_ll (f := fun a b => a ^^^ b) (pc' := 55) rfl rfl (fun _ => rfl) rfl rfl ?_
    refine ev_ll (f := fun a b => a &&& b) (pc' := 56) rfl rfl (fun _ => rfl) rfl rfl ?_
    refine ev_pu (st' := [.inr (.inl 1), .inr (.inl (tm_l2 (fun a b => a &&& b) (aF_at M (x1).toNat) (tm_l2 (fun a b => a ^^^ b) x2 (-1))))]) (pc' := 57) rfl rfl rfl rfl ?_
    refine ev_lo (lo' := [(0, .inr (.inr (some 13))), (1, .inl x1), (2, .inr (.inl x2)), (4, .inl x4), (5, .inl x5)]) (st' := [.inl x5, .inr (.inl 1), .inr (.inl (tm_l2 (fun a b => a &&& b) (aF_at M (x1).toNat) (tm_l2 (fun a b => a ^^^ b) x2 (-1))))]) (pc' := 59) rfl rfl rfl rfl ?_
    obtain ⟨hs1, hs2, h⟩ := h
    refine ev_lshl (pc' := 60) rfl (tm_lsl_eq (by decide) hs1 hs2) rfl ?_
    obtain ⟨hs0, hs1, h⟩ := h
    refine ev_ll (f := fun a b => a &&& b) (pc' := 61) rfl rfl (fun _ => rfl) (tm_lan_eq hs0 hs1) rfl ?_
    refine ev_pu (st' := [.inr (.inl 0), .inr (.inl (tm_an (tm_l2 (fun a b => a &&& b) (aF_at M (x1).toNat) (tm_l2 (fun a b => a ^^^ b) x2 (-1))) (tm_sl 1 x5)))]) (pc' := 62) rfl rfl rfl rfl ?_
    refine ev_lcmp (pc1 := 63) (pc' := 80) (pc2 := 66) rfl rfl rfl (by decide) rfl rfl (fun hc => ?_) (fun hc => ?_)
    · replace h := h.1 (of_decide_eq_true hc)
      exact ev_pick [0, 1, 2, 4, 5] rfl rfl h
    · replace h := h.2 (of_decide_eq_false hc)
      refine ev_lo (lo' := [(0, .inr (.inr (some 13))), (1, .inl x1), (2, .inr (.inl x2)), (4, .inl x4), (5, .inl x5)]) (st' := [.inr (.inl x2)]) (pc' := 67) rfl rfl rfl rfl ?_
      refine ev_pu (st' := [.inr (.inl 1), .inr (.inl x2)]) (pc' := 68) rfl rfl rfl rfl ?_
      refine ev_lo (lo' := [(0, .inr (.inr (some 13))), (1, .inl x1), (2, .inr (.inl x2)), (4, .inl x4), (5, .inl x5)]) (st' := [.inl x5, .inr (.inl 1), .inr (.inl x2)]) (pc' := 70) rfl rfl rfl rfl ?_
      obtain ⟨hs1, hs2, h⟩ := h
      refine ev_lshl (pc' := 71) rfl (tm_lsl_eq (by decide) hs1 hs2) rfl ?_
      obtain ⟨hs0, hs1, h⟩ := h
      refine ev_ll (f := fun a b => a ||| b) (pc' := 72) rfl rfl (fun _ => rfl) (tm_lor_eq hs0 hs1) rfl ?_
      refine ev_lo (lo' := [(2, .inr (.inl (tm_or x2 (tm_sl 1 x5)))), (0, .inr (.inr (some 13))), (1, .inl x1), (4, .inl x4), (5, .inl x5)]) (st' := []) (pc' := 73) rfl rfl rfl rfl ?_
      refine ev_lo (lo' := [(2, .inr (.inl (tm_or x2 (tm_sl 1 x5)))), (0, .inr (.inr (some 13))), (1, .inl x1), (4, .inl x4), (5, .inl x5)]) (st' := [.inr (.inr (some 13))]) (pc' := 74) rfl rfl rfl rfl ?_
      refine ev_lo (lo' := [(2, .inr (.inl (tm_or x2 (tm_sl 1 x5)))), (0, .inr (.inr (some 13))), (1, .inl x1), (4, .inl x4), (5, .inl x5)]) (st' := [.inl x1, .inr (.inr (some 13))]) (pc' := 75) rfl rfl rfl rfl ?_
      refine ev_lo (lo' := [(2, .inr (.inl (tm_or x2 (tm_sl 1 x5)))), (0, .inr (.inr (some 13))), (1, .inl x1), (4, .inl x4), (5, .inl x5)]) (st' := [.inl x5, .inl x1, .inr (.inr (some 13))]) (pc' := 77) rfl rfl rfl rfl ?_
      refine ev_call (as := [.inr (.inr (some 13)), .inl x1, .inl x5]) (r := []) (pc' := 80) rfl rfl (Nat.le_of_ble_eq_true rfl) (Nat.le_of_ble_eq_true rfl) ⟨rfl, rfl⟩ (Nat.le_of_ble_eq_true rfl) rfl rfl rfl rfl ?_
      refine ev.post h (fun v M1 h => ?_)
      obtain ⟨rfl, h⟩ := h
      show ev 31 80 [(2, .inr (.inl (tm_or x2 (tm_sl 1 x5)))), (0, .inr (.inr (some 13))), (1, .inl x1), (4, .inl x4), (5, .inl x5)] [] M1 _
      exact ev_pick [0, 1, 2, 4, 5] rfl rfl h
set_option maxRecDepth 10000 in
theorem b31_80 {x1 x2 x4 x5 : Int} {M : ev_M} {Q : ev_M → Prop}
    (h : tm_iI (x5 + 1) ∧ (c31_32 x1 x2 x4 (x5 + 1) M Q)) : c31_80 x1 x2 x4 x5 M Q := by
  unfold c31_80
  obtain ⟨hs, h⟩ := h
  refine ev_iinc (lo' := [(5, .inl (x5 + 1)), (0, .inr (.inr (some 13))), (1, .inl x1), (2, .inr (.inl x2)), (4, .inl x4)]) (pc' := 83) rfl rfl (by decide) (tm_add hs) rfl rfl ?_
  refine ev_br (pc' := 32) (st' := []) rfl rfl rfl ?_
  exact ev_pick [0, 1, 2, 4, 5] rfl rfl h
set_option maxRecDepth 10000 in
theorem b31_92 {M : ev_M} {Q : ev_M → Prop}
    (h : Q M) : c31_92 M Q := by
  unfold c31_92
  exact ev_rt rfl rfl rfl ⟨rfl, h⟩
/-! NulledForest$Frontier.fill()V -/
def m32 (M : ev_M) (Q : ev_M → Prop) : Prop := ev 32 0 [(0, .inr (.inr (some 13)))] [] M (fun v M1 => v = none ∧ Q M1)
def c32_17 (x1 : Int) (M : ev_M) (Q : ev_M → Prop) : Prop := ev 32 17 [(0, .inr (.inr (some 13))), (1, .inl x1)] [] M (fun v M1 => v = none ∧ Q M1)
set_option maxRecDepth 10000 in
theorem b32 {M : ev_M} {Q : ev_M → Prop}
    (h : m2 14 0 M (fun M1 => c32_17 0 (ev_sA M1 14 0 1) Q)) : m32 M Q := by
  unfold m32
  refine ev_lo (lo' := [(0, .inr (.inr (some 13)))]) (st' := [.inr (.inr (some 13))]) (pc' := 1) rfl rfl rfl rfl ?_
  refine ev_get (v := .inr (.inr (some 14))) (pc' := 4) rfl rfl rfl rfl ?_
  refine ev_pu (st' := [.inr (.inl 0), .inr (.inr (some 14))]) (pc' := 5) rfl rfl rfl rfl ?_
  refine ev_call (as := [.inr (.inr (some 14)), .inr (.inl 0)]) (r := []) (pc' := 8) rfl rfl (Nat.le_of_ble_eq_true rfl) (Nat.le_of_ble_eq_true rfl) ⟨rfl, rfl⟩ (Nat.le_of_ble_eq_true rfl) rfl rfl rfl rfl ?_
  refine ev.post h (fun v M1 h => ?_)
  obtain ⟨rfl, h⟩ := h
  show ev 32 8 [(0, .inr (.inr (some 13)))] [] M1 _
  refine ev_lo (lo' := [(0, .inr (.inr (some 13)))]) (st' := [.inr (.inr (some 13))]) (pc' := 9) rfl rfl rfl rfl ?_
  refine ev_get (v := .inr (.inr (some 14))) (pc' := 12) rfl rfl rfl rfl ?_
  refine ev_pu (st' := [.inl 0, .inr (.inr (some 14))]) (pc' := 13) rfl rfl rfl rfl ?_
  refine ev_pu (st' := [.inr (.inl 1), .inl 0, .inr (.inr (some 14))]) (pc' := 14) rfl rfl rfl rfl ?_
  refine ev_last (n := 11) (f := aF_at M1) (M' := ev_sA M1 14 0 1) (pc' := 15) rfl rfl (by decide) (hp_a14 _ _ _) rfl ?_
  refine ev_pu (st' := [.inl 0]) (pc' := 16) rfl rfl rfl rfl ?_
  refine ev_lo (lo' := [(1, .inl 0), (0, .inr (.inr (some 13)))]) (st' := []) (pc' := 17) rfl rfl rfl rfl ?_
  exact ev_pick [0, 1] rfl rfl h
set_option maxRecDepth 10000 in
theorem b32_17 {x1 : Int} {M : ev_M} {Q : ev_M → Prop}
    (h : ((sC_size M) < x1 → (Q M)) ∧ (¬ ((sC_size M) < x1) → (m31 x1 M (fun M1 => tm_iI (x1 + 1) ∧ (c32_17 (x1 + 1) M1 Q))))) : c32_17 x1 M Q := by
  unfold c32_17
  refine ev_lo (lo' := [(0, .inr (.inr (some 13))), (1, .inl x1)]) (st' := [.inl x1]) (pc' := 18) rfl rfl rfl rfl ?_
  refine ev_lo (lo' := [(0, .inr (.inr (some 13))), (1, .inl x1)]) (st' := [.inr (.inr (some 13)), .inl x1]) (pc' := 19) rfl rfl rfl rfl ?_
  refine ev_get (v := .inr (.inr (some 10))) (pc' := 22) rfl rfl rfl rfl ?_
  refine ev_get (v := .inl (sC_size M)) (pc' := 25) rfl rfl rfl rfl ?_
  refine ev_icmp (pc' := 39) (pc2 := 28) rfl (by decide) rfl rfl (fun hc => ?_) (fun hc => ?_)
  · replace h := h.1 (of_decide_eq_true hc)
    exact ev_rt rfl rfl rfl ⟨rfl, h⟩
  · replace h := h.2 (of_decide_eq_false hc)
    refine ev_lo (lo' := [(0, .inr (.inr (some 13))), (1, .inl x1)]) (st' := [.inr (.inr (some 13))]) (pc' := 29) rfl rfl rfl rfl ?_
    refine ev_lo (lo' := [(0, .inr (.inr (some 13))), (1, .inl x1)]) (st' := [.inl x1, .inr (.inr (some 13))]) (pc' := 30) rfl rfl rfl rfl ?_
    refine ev_call (as := [.inr (.inr (some 13)), .inl x1]) (r := []) (pc' := 33) rfl rfl (Nat.le_of_ble_eq_true rfl) (Nat.le_of_ble_eq_true rfl) ⟨rfl, rfl⟩ (Nat.le_of_ble_eq_true rfl) rfl rfl rfl rfl ?_
    refine ev.post h (fun v M1 h => ?_)
    obtain ⟨rfl, h⟩ := h
    show ev 32 33 [(0, .inr (.inr (some 13))), (1, .inl x1)] [] M1 _
    obtain ⟨hs, h⟩ := h
    refine ev_iinc (lo' := [(1, .inl (x1 + 1)), (0, .inr (.inr (some 13)))]) (pc' := 36) rfl rfl (by decide) (tm_add hs) rfl rfl ?_
    refine ev_br (pc' := 17) (st' := []) rfl rfl rfl ?_
    exact ev_pick [0, 1] rfl rfl h
