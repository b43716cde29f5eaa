/-! Block rules, written by wip/whole/gen3.py -/
/-! NulledForest$Grammar.symbol(II)I -/
def m4 (x1 x2 : Int) (M : ev_M) (Q : Int → ev_M → Prop) : Prop := ev 4 0 [(0, .inr (.inr (some 1))), (1, .inl x1), (2, .inl x2)] [] M (fun v M1 => ∃ w : Int, v = some (.inl w) ∧ Q w M1)
set_option maxRecDepth 10000 in
theorem b4 {x1 x2 : Int} {M : ev_M} {Q : Int → ev_M → Prop}
    (h : tm_iI (x1 * 4) ∧ (tm_iI ((x1 * 4) + x2) ∧ ((0 ≤ ((x1 * 4) + x2) ∧ ((x1 * 4) + x2) < 56) ∧ (Q (aG_right M ((x1 * 4) + x2).toNat) M)))) : m4 x1 x2 M Q := by
  unfold m4
  refine ev_lo (lo' := [(0, .inr (.inr (some 1))), (1, .inl x1), (2, .inl x2)]) (st' := [.inr (.inr (some 1))]) (pc' := 1) rfl rfl rfl rfl ?_
  refine ev_get (v := .inr (.inr (some 4))) (pc' := 4) rfl rfl rfl rfl ?_
  refine ev_lo (lo' := [(0, .inr (.inr (some 1))), (1, .inl x1), (2, .inl x2)]) (st' := [.inl x1, .inr (.inr (some 4))]) (pc' := 5) rfl rfl rfl rfl ?_
  refine ev_pu (st' := [.inl 4, .inl x1, .inr (.inr (some 4))]) (pc' := 6) rfl rfl rfl rfl ?_
  obtain ⟨hs, h⟩ := h
  refine ev_ii (f := fun a b => a * b) (pc' := 7) rfl rfl (fun _ => rfl) (tm_mul hs) rfl ?_
  refine ev_lo (lo' := [(0, .inr (.inr (some 1))), (1, .inl x1), (2, .inl x2)]) (st' := [.inl x2, .inl (x1 * 4), .inr (.inr (some 4))]) (pc' := 8) rfl rfl rfl rfl ?_
  obtain ⟨hs, h⟩ := h
  refine ev_ii (f := fun a b => a + b) (pc' := 9) rfl rfl (fun _ => rfl) (tm_add hs) rfl ?_
  obtain ⟨hs0, h⟩ := h
  refine ev_ald (t := 0) (n := 56) (f := aG_right M) (w := fun x => .inl x) (pc' := 10) rfl rfl (fun _ _ => rfl) rfl hs0 rfl ?_
  exact ev_rt rfl rfl rfl ⟨_, rfl, h⟩
/-! NulledForest.isMaker(I)Z -/
def m5 (x0 : Int) (M : ev_M) (Q : Int → ev_M → Prop) : Prop := ev 5 0 [(0, .inl x0)] [] M (fun v M1 => ∃ w : Int, v = some (.inl w) ∧ Q w M1)
def c5_14 (M : ev_M) (Q : Int → ev_M → Prop) : Prop := ev 5 14 [] [] M (fun v M1 => ∃ w : Int, v = some (.inl w) ∧ Q w M1)
def c5_15 (t0 : Int) (M : ev_M) (Q : Int → ev_M → Prop) : Prop := ev 5 15 [] [.inl t0] M (fun v M1 => ∃ w : Int, v = some (.inl w) ∧ Q w M1)
set_option maxRecDepth 10000 in
theorem b5 {x0 : Int} {M : ev_M} {Q : Int → ev_M → Prop}
    (h : (x0 < 0 → (c5_14 M Q)) ∧ (¬ (x0 < 0) → ((6 ≤ x0 → (c5_14 M Q)) ∧ (¬ (6 ≤ x0) → (c5_15 1 M Q))))) : m5 x0 M Q := by
  unfold m5
  refine ev_lo (lo' := [(0, .inl x0)]) (st' := [.inl x0]) (pc' := 1) rfl rfl rfl rfl ?_
  refine ev_ifT (pc' := 14) (pc2 := 4) rfl (by decide) rfl rfl (fun hc => ?_) (fun hc => ?_)
  · replace h := h.1 (of_decide_eq_true hc)
    exact ev_pick [] rfl rfl h
  · replace h := h.2 (of_decide_eq_false hc)
    refine ev_lo (lo' := [(0, .inl x0)]) (st' := [.inl x0]) (pc' := 5) rfl rfl rfl rfl ?_
    refine ev_pu (st' := [.inl 6, .inl x0]) (pc' := 7) rfl rfl rfl rfl ?_
    refine ev_icmp (pc' := 14) (pc2 := 10) rfl (by decide) rfl rfl (fun hc => ?_) (fun hc => ?_)
    · replace h := h.1 (of_decide_eq_true hc)
      exact ev_pick [] rfl rfl h
    · replace h := h.2 (of_decide_eq_false hc)
      refine ev_pu (st' := [.inl 1]) (pc' := 11) rfl rfl rfl rfl ?_
      refine ev_br (pc' := 15) (st' := [.inl 1]) rfl rfl rfl ?_
      exact ev_pick [] rfl rfl h
set_option maxRecDepth 10000 in
theorem b5_14 {M : ev_M} {Q : Int → ev_M → Prop}
    (h : c5_15 0 M Q) : c5_14 M Q := by
  unfold c5_14
  refine ev_pu (st' := [.inl 0]) (pc' := 15) rfl rfl rfl rfl ?_
  exact ev_pick [] rfl rfl h
set_option maxRecDepth 10000 in
theorem b5_15 {t0 : Int} {M : ev_M} {Q : Int → ev_M → Prop}
    (h : (t0 = 0 ∨ t0 = 1) ∧ Q t0 M) : c5_15 t0 M Q := by
  unfold c5_15
  obtain ⟨hs, h⟩ := h
  exact ev_rtZ rfl rfl hs ⟨_, rfl, h⟩
/-! NulledForest$Grammar.rightSize(I)I -/
def m6 (x1 : Int) (M : ev_M) (Q : Int → ev_M → Prop) : Prop := ev 6 0 [(0, .inr (.inr (some 1))), (1, .inl x1)] [] M (fun v M1 => ∃ w : Int, v = some (.inl w) ∧ Q w M1)
def c6_2 (x1 x2 : Int) (M : ev_M) (Q : Int → ev_M → Prop) : Prop := ev 6 2 [(0, .inr (.inr (some 1))), (1, .inl x1), (2, .inl x2)] [] M (fun v M1 => ∃ w : Int, v = some (.inl w) ∧ Q w M1)
set_option maxRecDepth 10000 in
theorem b6 {x1 : Int} {M : ev_M} {Q : Int → ev_M → Prop}
    (h : c6_2 x1 0 M Q) : m6 x1 M Q := by
  unfold m6
  refine ev_pu (st' := [.inl 0]) (pc' := 1) rfl rfl rfl rfl ?_
  refine ev_lo (lo' := [(2, .inl 0), (0, .inr (.inr (some 1))), (1, .inl x1)]) (st' := []) (pc' := 2) rfl rfl rfl rfl ?_
  exact ev_pick [0, 1, 2] rfl rfl h
set_option maxRecDepth 10000 in
theorem b6_2 {x1 x2 : Int} {M : ev_M} {Q : Int → ev_M → Prop}
    (h : (4 ≤ x2 → (Q 4 M)) ∧ (¬ (4 ≤ x2) → (m4 x1 x2 M (fun w1 M1 => (¬ w1 = (-1) → (tm_iI (x2 + 1) ∧ (c6_2 x1 (x2 + 1) M1 Q))) ∧ (¬ (¬ w1 = (-1)) → (Q x2 M1)))))) : c6_2 x1 x2 M Q := by
  unfold c6_2
  refine ev_lo (lo' := [(0, .inr (.inr (some 1))), (1, .inl x1), (2, .inl x2)]) (st' := [.inl x2]) (pc' := 3) rfl rfl rfl rfl ?_
  refine ev_pu (st' := [.inl 4, .inl x2]) (pc' := 4) rfl rfl rfl rfl ?_
  refine ev_icmp (pc' := 25) (pc2 := 7) rfl (by decide) rfl rfl (fun hc => ?_) (fun hc => ?_)
  · replace h := h.1 (of_decide_eq_true hc)
    refine ev_pu (st' := [.inl 4]) (pc' := 26) rfl rfl rfl rfl ?_
    exact ev_rt rfl rfl rfl ⟨_, rfl, h⟩
  · replace h := h.2 (of_decide_eq_false hc)
    refine ev_lo (lo' := [(0, .inr (.inr (some 1))), (1, .inl x1), (2, .inl x2)]) (st' := [.inr (.inr (some 1))]) (pc' := 8) rfl rfl rfl rfl ?_
    refine ev_lo (lo' := [(0, .inr (.inr (some 1))), (1, .inl x1), (2, .inl x2)]) (st' := [.inl x1, .inr (.inr (some 1))]) (pc' := 9) rfl rfl rfl rfl ?_
    refine ev_lo (lo' := [(0, .inr (.inr (some 1))), (1, .inl x1), (2, .inl x2)]) (st' := [.inl x2, .inl x1, .inr (.inr (some 1))]) (pc' := 10) rfl rfl rfl rfl ?_
    refine ev_call (as := [.inr (.inr (some 1)), .inl x1, .inl x2]) (r := []) (pc' := 13) rfl rfl (Nat.le_of_ble_eq_true rfl) (Nat.le_of_ble_eq_true rfl) ⟨rfl, rfl⟩ (Nat.le_of_ble_eq_true rfl) rfl rfl rfl rfl ?_
    refine ev.post h (fun v M1 h => ?_)
    obtain ⟨w1, rfl, h⟩ := h
    show ev 6 13 [(0, .inr (.inr (some 1))), (1, .inl x1), (2, .inl x2)] [.inl w1] M1 _
    refine ev_pu (st' := [.inl (-1), .inl w1]) (pc' := 14) rfl rfl rfl rfl ?_
    refine ev_icmp (pc' := 19) (pc2 := 17) rfl (by decide) rfl rfl (fun hc => ?_) (fun hc => ?_)
    · replace h := h.1 (of_decide_eq_true hc)
      obtain ⟨hs, h⟩ := h
      refine ev_iinc (lo' := [(2, .inl (x2 + 1)), (0, .inr (.inr (some 1))), (1, .inl x1)]) (pc' := 22) rfl rfl (by decide) (tm_add hs) rfl rfl ?_
      refine ev_br (pc' := 2) (st' := []) rfl rfl rfl ?_
      exact ev_pick [0, 1, 2] rfl rfl h
    · replace h := h.2 (of_decide_eq_false hc)
      refine ev_lo (lo' := [(0, .inr (.inr (some 1))), (1, .inl x1), (2, .inl x2)]) (st' := [.inl x2]) (pc' := 18) rfl rfl rfl rfl ?_
      exact ev_rt rfl rfl rfl ⟨_, rfl, h⟩
/-! NulledForest$Grammar.hasSymbolsOnly(I)Z -/
def m7 (x1 : Int) (M : ev_M) (Q : Int → ev_M → Prop) : Prop := ev 7 0 [(0, .inr (.inr (some 1))), (1, .inl x1)] [] M (fun v M1 => ∃ w : Int, v = some (.inl w) ∧ Q w M1)
def c7_2 (x1 x2 : Int) (M : ev_M) (Q : Int → ev_M → Prop) : Prop := ev 7 2 [(0, .inr (.inr (some 1))), (1, .inl x1), (2, .inl x2)] [] M (fun v M1 => ∃ w : Int, v = some (.inl w) ∧ Q w M1)
def c7_32 (M : ev_M) (Q : Int → ev_M → Prop) : Prop := ev 7 32 [] [] M (fun v M1 => ∃ w : Int, v = some (.inl w) ∧ Q w M1)
set_option maxRecDepth 10000 in
theorem b7 {x1 : Int} {M : ev_M} {Q : Int → ev_M → Prop}
    (h : c7_2 x1 0 M Q) : m7 x1 M Q := by
  unfold m7
  refine ev_pu (st' := [.inl 0]) (pc' := 1) rfl rfl rfl rfl ?_
  refine ev_lo (lo' := [(2, .inl 0), (0, .inr (.inr (some 1))), (1, .inl x1)]) (st' := []) (pc' := 2) rfl rfl rfl rfl ?_
  exact ev_pick [0, 1, 2] rfl rfl h
set_option maxRecDepth 10000 in
theorem b7_2 {x1 x2 : Int} {M : ev_M} {Q : Int → ev_M → Prop}
    (h : (0 ≤ x1 ∧ x1 < 14) ∧ (((aG_size M (x1).toNat) ≤ x2 → (Q 1 M)) ∧ (¬ ((aG_size M (x1).toNat) ≤ x2) → (m4 x1 x2 M (fun w1 M1 => (w1 < 0 → (c7_32 M1 Q)) ∧ (¬ (w1 < 0) → (m4 x1 x2 M1 (fun w2 M2 => (w2 < 10 → (tm_iI (x2 + 1) ∧ (c7_2 x1 (x2 + 1) M2 Q))) ∧ (¬ (w2 < 10) → (c7_32 M2 Q)))))))))) : c7_2 x1 x2 M Q := by
  unfold c7_2
  refine ev_lo (lo' := [(0, .inr (.inr (some 1))), (1, .inl x1), (2, .inl x2)]) (st' := [.inl x2]) (pc' := 3) rfl rfl rfl rfl ?_
  refine ev_lo (lo' := [(0, .inr (.inr (some 1))), (1, .inl x1), (2, .inl x2)]) (st' := [.inr (.inr (some 1)), .inl x2]) (pc' := 4) rfl rfl rfl rfl ?_
  refine ev_get (v := .inr (.inr (some 3))) (pc' := 7) rfl rfl rfl rfl ?_
  refine ev_lo (lo' := [(0, .inr (.inr (some 1))), (1, .inl x1), (2, .inl x2)]) (st' := [.inl x1, .inr (.inr (some 3)), .inl x2]) (pc' := 8) rfl rfl rfl rfl ?_
  obtain ⟨hs0, h⟩ := h
  refine ev_ald (t := 0) (n := 14) (f := aG_size M) (w := fun x => .inl x) (pc' := 9) rfl rfl (fun _ _ => rfl) rfl hs0 rfl ?_
  refine ev_icmp (pc' := 40) (pc2 := 12) rfl (by decide) rfl rfl (fun hc => ?_) (fun hc => ?_)
  · replace h := h.1 (of_decide_eq_true hc)
    refine ev_pu (st' := [.inl 1]) (pc' := 41) rfl rfl rfl rfl ?_
    exact ev_rt rfl rfl rfl ⟨_, rfl, h⟩
  · replace h := h.2 (of_decide_eq_false hc)
    refine ev_lo (lo' := [(0, .inr (.inr (some 1))), (1, .inl x1), (2, .inl x2)]) (st' := [.inr (.inr (some 1))]) (pc' := 13) rfl rfl rfl rfl ?_
    refine ev_lo (lo' := [(0, .inr (.inr (some 1))), (1, .inl x1), (2, .inl x2)]) (st' := [.inl x1, .inr (.inr (some 1))]) (pc' := 14) rfl rfl rfl rfl ?_
    refine ev_lo (lo' := [(0, .inr (.inr (some 1))), (1, .inl x1), (2, .inl x2)]) (st' := [.inl x2, .inl x1, .inr (.inr (some 1))]) (pc' := 15) rfl rfl rfl rfl ?_
    refine ev_call (as := [.inr (.inr (some 1)), .inl x1, .inl x2]) (r := []) (pc' := 18) rfl rfl (Nat.le_of_ble_eq_true rfl) (Nat.le_of_ble_eq_true rfl) ⟨rfl, rfl⟩ (Nat.le_of_ble_eq_true rfl) rfl rfl rfl rfl ?_
    refine ev.post h (fun v M1 h => ?_)
    obtain ⟨w1, rfl, h⟩ := h
    show ev 7 18 [(0, .inr (.inr (some 1))), (1, .inl x1), (2, .inl x2)] [.inl w1] M1 _
    refine ev_ifT (pc' := 32) (pc2 := 21) rfl (by decide) rfl rfl (fun hc => ?_) (fun hc => ?_)
    · replace h := h.1 (of_decide_eq_true hc)
      exact ev_pick [] rfl rfl h
    · replace h := h.2 (of_decide_eq_false hc)
      refine ev_lo (lo' := [(0, .inr (.inr (some 1))), (1, .inl x1), (2, .inl x2)]) (st' := [.inr (.inr (some 1))]) (pc' := 22) rfl rfl rfl rfl ?_
      refine ev_lo (lo' := [(0, .inr (.inr (some 1))), (1, .inl x1), (2, .inl x2)]) (st' := [.inl x1, .inr (.inr (some 1))]) (pc' := 23) rfl rfl rfl rfl ?_
      refine ev_lo (lo' := [(0, .inr (.inr (some 1))), (1, .inl x1), (2, .inl x2)]) (st' := [.inl x2, .inl x1, .inr (.inr (some 1))]) (pc' := 24) rfl rfl rfl rfl ?_
      refine ev_call (as := [.inr (.inr (some 1)), .inl x1, .inl x2]) (r := []) (pc' := 27) rfl rfl (Nat.le_of_ble_eq_true rfl) (Nat.le_of_ble_eq_true rfl) ⟨rfl, rfl⟩ (Nat.le_of_ble_eq_true rfl) rfl rfl rfl rfl ?_
      refine ev.post h (fun v M2 h => ?_)
      obtain ⟨w2, rfl, h⟩ := h
      show ev 7 27 [(0, .inr (.inr (some 1))), (1, .inl x1), (2, .inl x2)] [.inl w2] M2 _
      refine ev_pu (st' := [.inl 10, .inl w2]) (pc' := 29) rfl rfl rfl rfl ?_
      refine ev_icmp (pc' := 34) (pc2 := 32) rfl (by decide) rfl rfl (fun hc => ?_) (fun hc => ?_)
      · replace h := h.1 (of_decide_eq_true hc)
        obtain ⟨hs, h⟩ := h
        refine ev_iinc (lo' := [(2, .inl (x2 + 1)), (0, .inr (.inr (some 1))), (1, .inl x1)]) (pc' := 37) rfl rfl (by decide) (tm_add hs) rfl rfl ?_
        refine ev_br (pc' := 2) (st' := []) rfl rfl rfl ?_
        exact ev_pick [0, 1, 2] rfl rfl h
      · replace h := h.2 (of_decide_eq_false hc)
        exact ev_pick [] rfl rfl h
set_option maxRecDepth 10000 in
theorem b7_32 {M : ev_M} {Q : Int → ev_M → Prop}
    (h : Q 0 M) : c7_32 M Q := by
  unfold c7_32
  refine ev_pu (st' := [.inl 0]) (pc' := 33) rfl rfl rfl rfl ?_
  exact ev_rt rfl rfl rfl ⟨_, rfl, h⟩
/-! NulledForest$Grammar.isSame(II)Z -/
def m8 (x1 x2 : Int) (M : ev_M) (Q : Int → ev_M → Prop) : Prop := ev 8 0 [(0, .inr (.inr (some 1))), (1, .inl x1), (2, .inl x2)] [] M (fun v M1 => ∃ w : Int, v = some (.inl w) ∧ Q w M1)
def c8_30 (M : ev_M) (Q : Int → ev_M → Prop) : Prop := ev 8 30 [] [] M (fun v M1 => ∃ w : Int, v = some (.inl w) ∧ Q w M1)
def c8_34 (x1 x2 x3 : Int) (M : ev_M) (Q : Int → ev_M → Prop) : Prop := ev 8 34 [(0, .inr (.inr (some 1))), (1, .inl x1), (2, .inl x2), (3, .inl x3)] [] M (fun v M1 => ∃ w : Int, v = some (.inl w) ∧ Q w M1)
set_option maxRecDepth 10000 in
theorem b8 {x1 x2 : Int} {M : ev_M} {Q : Int → ev_M → Prop}
    (h : (0 ≤ x1 ∧ x1 < 14) ∧ ((0 ≤ x2 ∧ x2 < 14) ∧ ((¬ (aG_left M (x1).toNat) = (aG_left M (x2).toNat) → (c8_30 M Q)) ∧ (¬ (¬ (aG_left M (x1).toNat) = (aG_left M (x2).toNat)) → ((0 ≤ x1 ∧ x1 < 14) ∧ ((0 ≤ x2 ∧ x2 < 14) ∧ (((aG_size M (x1).toNat) = (aG_size M (x2).toNat) → (c8_34 x1 x2 0 M Q)) ∧ (¬ ((aG_size M (x1).toNat) = (aG_size M (x2).toNat)) → (c8_30 M Q))))))))) : m8 x1 x2 M Q := by
  unfold m8
  refine ev_lo (lo' := [(0, .inr (.inr (some 1))), (1, .inl x1), (2, .inl x2)]) (st' := [.inr (.inr (some 1))]) (pc' := 1) rfl rfl rfl rfl ?_
  refine ev_get (v := .inr (.inr (some 2))) (pc' := 4) rfl rfl rfl rfl ?_
  refine ev_lo (lo' := [(0, .inr (.inr (some 1))), (1, .inl x1), (2, .inl x2)]) (st' := [.inl x1, .inr (.inr (some 2))]) (pc' := 5) rfl rfl rfl rfl ?_
  obtain ⟨hs0, h⟩ := h
  refine ev_ald (t := 0) (n := 14) (f := aG_left M) (w := fun x => .inl x) (pc' := 6) rfl rfl (fun _ _ => rfl) rfl hs0 rfl ?_
  refine ev_lo (lo' := [(0, .inr (.inr (some 1))), (1, .inl x1), (2, .inl x2)]) (st' := [.inr (.inr (some 1)), .inl (aG_left M (x1).toNat)]) (pc' := 7) rfl rfl rfl rfl ?_
  refine ev_get (v := .inr (.inr (some 2))) (pc' := 10) rfl rfl rfl rfl ?_
  refine ev_lo (lo' := [(0, .inr (.inr (some 1))), (1, .inl x1), (2, .inl x2)]) (st' := [.inl x2, .inr (.inr (some 2)), .inl (aG_left M (x1).toNat)]) (pc' := 11) rfl rfl rfl rfl ?_
  obtain ⟨hs0, h⟩ := h
  refine ev_ald (t := 0) (n := 14) (f := aG_left M) (w := fun x => .inl x) (pc' := 12) rfl rfl (fun _ _ => rfl) rfl hs0 rfl ?_
  refine ev_icmp (pc' := 30) (pc2 := 15) rfl (by decide) rfl rfl (fun hc => ?_) (fun hc => ?_)
  · replace h := h.1 (of_decide_eq_true hc)
    exact ev_pick [] rfl rfl h
  · replace h := h.2 (of_decide_eq_false hc)
    refine ev_lo (lo' := [(0, .inr (.inr (some 1))), (1, .inl x1), (2, .inl x2)]) (st' := [.inr (.inr (some 1))]) (pc' := 16) rfl rfl rfl rfl ?_
    refine ev_get (v := .inr (.inr (some 3))) (pc' := 19) rfl rfl rfl rfl ?_
    refine ev_lo (lo' := [(0, .inr (.inr (some 1))), (1, .inl x1), (2, .inl x2)]) (st' := [.inl x1, .inr (.inr (some 3))]) (pc' := 20) rfl rfl rfl rfl ?_
    obtain ⟨hs0, h⟩ := h
    refine ev_ald (t := 0) (n := 14) (f := aG_size M) (w := fun x => .inl x) (pc' := 21) rfl rfl (fun _ _ => rfl) rfl hs0 rfl ?_
    refine ev_lo (lo' := [(0, .inr (.inr (some 1))), (1, .inl x1), (2, .inl x2)]) (st' := [.inr (.inr (some 1)), .inl (aG_size M (x1).toNat)]) (pc' := 22) rfl rfl rfl rfl ?_
    refine ev_get (v := .inr (.inr (some 3))) (pc' := 25) rfl rfl rfl rfl ?_
    refine ev_lo (lo' := [(0, .inr (.inr (some 1))), (1, .inl x1), (2, .inl x2)]) (st' := [.inl x2, .inr (.inr (some 3)), .inl (aG_size M (x1).toNat)]) (pc' := 26) rfl rfl rfl rfl ?_
    obtain ⟨hs0, h⟩ := h
    refine ev_ald (t := 0) (n := 14) (f := aG_size M) (w := fun x => .inl x) (pc' := 27) rfl rfl (fun _ _ => rfl) rfl hs0 rfl ?_
    refine ev_icmp (pc' := 32) (pc2 := 30) rfl (by decide) rfl rfl (fun hc => ?_) (fun hc => ?_)
    · replace h := h.1 (of_decide_eq_true hc)
      refine ev_pu (st' := [.inl 0]) (pc' := 33) rfl rfl rfl rfl ?_
      refine ev_lo (lo' := [(3, .inl 0), (0, .inr (.inr (some 1))), (1, .inl x1), (2, .inl x2)]) (st' := []) (pc' := 34) rfl rfl rfl rfl ?_
      exact ev_pick [0, 1, 2, 3] rfl rfl h
    · replace h := h.2 (of_decide_eq_false hc)
      exact ev_pick [] rfl rfl h
set_option maxRecDepth 10000 in
theorem b8_30 {M : ev_M} {Q : Int → ev_M → Prop}
    (h : Q 0 M) : c8_30 M Q := by
  unfold c8_30
  refine ev_pu (st' := [.inl 0]) (pc' := 31) rfl rfl rfl rfl ?_
  exact ev_rt rfl rfl rfl ⟨_, rfl, h⟩
set_option maxRecDepth 10000 in
theorem b8_34 {x1 x2 x3 : Int} {M : ev_M} {Q : Int → ev_M → Prop}
    (h : (0 ≤ x1 ∧ x1 < 14) ∧ (((aG_size M (x1).toNat) ≤ x3 → (Q 1 M)) ∧ (¬ ((aG_size M (x1).toNat) ≤ x3) → (m4 x1 x3 M (fun w1 M1 => m4 x2 x3 M1 (fun w2 M2 => (w1 = w2 → (tm_iI (x3 + 1) ∧ (c8_34 x1 x2 (x3 + 1) M2 Q))) ∧ (¬ (w1 = w2) → (Q 0 M2)))))))) : c8_34 x1 x2 x3 M Q := by
  unfold c8_34
  refine ev_lo (lo' := [(0, .inr (.inr (some 1))), (1, .inl x1), (2, .inl x2), (3, .inl x3)]) (st' := [.inl x3]) (pc' := 35) rfl rfl rfl rfl ?_
  refine ev_lo (lo' := [(0, .inr (.inr (some 1))), (1, .inl x1), (2, .inl x2), (3, .inl x3)]) (st' := [.inr (.inr (some 1)), .inl x3]) (pc' := 36) rfl rfl rfl rfl ?_
  refine ev_get (v := .inr (.inr (some 3))) (pc' := 39) rfl rfl rfl rfl ?_
  refine ev_lo (lo' := [(0, .inr (.inr (some 1))), (1, .inl x1), (2, .inl x2), (3, .inl x3)]) (st' := [.inl x1, .inr (.inr (some 3)), .inl x3]) (pc' := 40) rfl rfl rfl rfl ?_
  obtain ⟨hs0, h⟩ := h
  refine ev_ald (t := 0) (n := 14) (f := aG_size M) (w := fun x => .inl x) (pc' := 41) rfl rfl (fun _ _ => rfl) rfl hs0 rfl ?_
  refine ev_icmp (pc' := 67) (pc2 := 44) rfl (by decide) rfl rfl (fun hc => ?_) (fun hc => ?_)
  · replace h := h.1 (of_decide_eq_true hc)
    refine ev_pu (st' := [.inl 1]) (pc' := 68) rfl rfl rfl rfl ?_
    exact ev_rt rfl rfl rfl ⟨_, rfl, h⟩
  · replace h := h.2 (of_decide_eq_false hc)
    refine ev_lo (lo' := [(0, .inr (.inr (some 1))), (1, .inl x1), (2, .inl x2), (3, .inl x3)]) (st' := [.inr (.inr (some 1))]) (pc' := 45) rfl rfl rfl rfl ?_
    refine ev_lo (lo' := [(0, .inr (.inr (some 1))), (1, .inl x1), (2, .inl x2), (3, .inl x3)]) (st' := [.inl x1, .inr (.inr (some 1))]) (pc' := 46) rfl rfl rfl rfl ?_
    refine ev_lo (lo' := [(0, .inr (.inr (some 1))), (1, .inl x1), (2, .inl x2), (3, .inl x3)]) (st' := [.inl x3, .inl x1, .inr (.inr (some 1))]) (pc' := 47) rfl rfl rfl rfl ?_
    refine ev_call (as := [.inr (.inr (some 1)), .inl x1, .inl x3]) (r := []) (pc' := 50) rfl rfl (Nat.le_of_ble_eq_true rfl) (Nat.le_of_ble_eq_true rfl) ⟨rfl, rfl⟩ (Nat.le_of_ble_eq_true rfl) rfl rfl rfl rfl ?_
    refine ev.post h (fun v M1 h => ?_)
    obtain ⟨w1, rfl, h⟩ := h
    show ev 8 50 [(0, .inr (.inr (some 1))), (1, .inl x1), (2, .inl x2), (3, .inl x3)] [.inl w1] M1 _
    refine ev_lo (lo' := [(0, .inr (.inr (some 1))), (1, .inl x1), (2, .inl x2), (3, .inl x3)]) (st' := [.inr (.inr (some 1)), .inl w1]) (pc' := 51) rfl rfl rfl rfl ?_
    refine ev_lo (lo' := [(0, .inr (.inr (some 1))), (1, .inl x1), (2, .inl x2), (3, .inl x3)]) (st' := [.inl x2, .inr (.inr (some 1)), .inl w1]) (pc' := 52) rfl rfl rfl rfl ?_
    refine ev_lo (lo' := [(0, .inr (.inr (some 1))), (1, .inl x1), (2, .inl x2), (3, .inl x3)]) (st' := [.inl x3, .inl x2, .inr (.inr (some 1)), .inl w1]) (pc' := 53) rfl rfl rfl rfl ?_
    refine ev_call (as := [.inr (.inr (some 1)), .inl x2, .inl x3]) (r := [.inl w1]) (pc' := 56) rfl rfl (Nat.le_of_ble_eq_true rfl) (Nat.le_of_ble_eq_true rfl) ⟨rfl, rfl⟩ (Nat.le_of_ble_eq_true rfl) rfl rfl rfl rfl ?_
    refine ev.post h (fun v M2 h => ?_)
    obtain ⟨w2, rfl, h⟩ := h
    show ev 8 56 [(0, .inr (.inr (some 1))), (1, .inl x1), (2, .inl x2), (3, .inl x3)] [.inl w2, .inl w1] M2 _
    refine ev_icmp (pc' := 61) (pc2 := 59) rfl (by decide) rfl rfl (fun hc => ?_) (fun hc => ?_)
    · replace h := h.1 (of_decide_eq_true hc)
      obtain ⟨hs, h⟩ := h
      refine ev_iinc (lo' := [(3, .inl (x3 + 1)), (0, .inr (.inr (some 1))), (1, .inl x1), (2, .inl x2)]) (pc' := 64) rfl rfl (by decide) (tm_add hs) rfl rfl ?_
      refine ev_br (pc' := 34) (st' := []) rfl rfl rfl ?_
      exact ev_pick [0, 1, 2, 3] rfl rfl h
    · replace h := h.2 (of_decide_eq_false hc)
      refine ev_pu (st' := [.inl 0]) (pc' := 60) rfl rfl rfl rfl ?_
      exact ev_rt rfl rfl rfl ⟨_, rfl, h⟩
/-! NulledForest$Grammar.isRepeated(I)Z -/
def m9 (x1 : Int) (M : ev_M) (Q : Int → ev_M → Prop) : Prop := ev 9 0 [(0, .inr (.inr (some 1))), (1, .inl x1)] [] M (fun v M1 => ∃ w : Int, v = some (.inl w) ∧ Q w M1)
def c9_2 (x1 x2 : Int) (M : ev_M) (Q : Int → ev_M → Prop) : Prop := ev 9 2 [(0, .inr (.inr (some 1))), (1, .inl x1), (2, .inl x2)] [] M (fun v M1 => ∃ w : Int, v = some (.inl w) ∧ Q w M1)
set_option maxRecDepth 10000 in
theorem b9 {x1 : Int} {M : ev_M} {Q : Int → ev_M → Prop}
    (h : c9_2 x1 0 M Q) : m9 x1 M Q := by
  unfold m9
  refine ev_pu (st' := [.inl 0]) (pc' := 1) rfl rfl rfl rfl ?_
  refine ev_lo (lo' := [(2, .inl 0), (0, .inr (.inr (some 1))), (1, .inl x1)]) (st' := []) (pc' := 2) rfl rfl rfl rfl ?_
  exact ev_pick [0, 1, 2] rfl rfl h
set_option maxRecDepth 10000 in
theorem b9_2 {x1 x2 : Int} {M : ev_M} {Q : Int → ev_M → Prop}
    (h : (x1 ≤ x2 → (Q 0 M)) ∧ (¬ (x1 ≤ x2) → (m8 x2 x1 M (fun w1 M1 => (w1 = 0 → (tm_iI (x2 + 1) ∧ (c9_2 x1 (x2 + 1) M1 Q))) ∧ (¬ (w1 = 0) → (Q 1 M1)))))) : c9_2 x1 x2 M Q := by
  unfold c9_2
  refine ev_lo (lo' := [(0, .inr (.inr (some 1))), (1, .inl x1), (2, .inl x2)]) (st' := [.inl x2]) (pc' := 3) rfl rfl rfl rfl ?_
  refine ev_lo (lo' := [(0, .inr (.inr (some 1))), (1, .inl x1), (2, .inl x2)]) (st' := [.inl x1, .inl x2]) (pc' := 4) rfl rfl rfl rfl ?_
  refine ev_icmp (pc' := 24) (pc2 := 7) rfl (by decide) rfl rfl (fun hc => ?_) (fun hc => ?_)
  · replace h := h.1 (of_decide_eq_true hc)
    refine ev_pu (st' := [.inl 0]) (pc' := 25) rfl rfl rfl rfl ?_
    exact ev_rt rfl rfl rfl ⟨_, rfl, h⟩
  · replace h := h.2 (of_decide_eq_false hc)
    refine ev_lo (lo' := [(0, .inr (.inr (some 1))), (1, .inl x1), (2, .inl x2)]) (st' := [.inr (.inr (some 1))]) (pc' := 8) rfl rfl rfl rfl ?_
    refine ev_lo (lo' := [(0, .inr (.inr (some 1))), (1, .inl x1), (2, .inl x2)]) (st' := [.inl x2, .inr (.inr (some 1))]) (pc' := 9) rfl rfl rfl rfl ?_
    refine ev_lo (lo' := [(0, .inr (.inr (some 1))), (1, .inl x1), (2, .inl x2)]) (st' := [.inl x1, .inl x2, .inr (.inr (some 1))]) (pc' := 10) rfl rfl rfl rfl ?_
    refine ev_call (as := [.inr (.inr (some 1)), .inl x2, .inl x1]) (r := []) (pc' := 13) rfl rfl (Nat.le_of_ble_eq_true rfl) (Nat.le_of_ble_eq_true rfl) ⟨rfl, rfl⟩ (Nat.le_of_ble_eq_true rfl) rfl rfl rfl rfl ?_
    refine ev.post h (fun v M1 h => ?_)
    obtain ⟨w1, rfl, h⟩ := h
    show ev 9 13 [(0, .inr (.inr (some 1))), (1, .inl x1), (2, .inl x2)] [.inl w1] M1 _
    refine ev_ifT (pc' := 18) (pc2 := 16) rfl (by decide) rfl rfl (fun hc => ?_) (fun hc => ?_)
    · replace h := h.1 (of_decide_eq_true hc)
      obtain ⟨hs, h⟩ := h
      refine ev_iinc (lo' := [(2, .inl (x2 + 1)), (0, .inr (.inr (some 1))), (1, .inl x1)]) (pc' := 21) rfl rfl (by decide) (tm_add hs) rfl rfl ?_
      refine ev_br (pc' := 2) (st' := []) rfl rfl rfl ?_
      exact ev_pick [0, 1, 2] rfl rfl h
    · replace h := h.2 (of_decide_eq_false hc)
      refine ev_pu (st' := [.inl 1]) (pc' := 17) rfl rfl rfl rfl ?_
      exact ev_rt rfl rfl rfl ⟨_, rfl, h⟩
/-! NulledForest$Grammar.add(IIIII)Z -/
def m10 (x1 x2 x3 x4 x5 : Int) (M : ev_M) (Q : Int → ev_M → Prop) : Prop := ev 10 0 [(0, .inr (.inr (some 1))), (1, .inl x1), (2, .inl x2), (3, .inl x3), (4, .inl x4), (5, .inl x5)] [] M (fun v M1 => ∃ w : Int, v = some (.inl w) ∧ Q w M1)
def c10_16 (M : ev_M) (Q : Int → ev_M → Prop) : Prop := ev 10 16 [] [] M (fun v M1 => ∃ w : Int, v = some (.inl w) ∧ Q w M1)
def c10_115 (M : ev_M) (Q : Int → ev_M → Prop) : Prop := ev 10 115 [] [] M (fun v M1 => ∃ w : Int, v = some (.inl w) ∧ Q w M1)
set_option maxRecDepth 10000 in
theorem b10 {x1 x2 x3 x4 x5 : Int} {M : ev_M} {Q : Int → ev_M → Prop}
    (h : m5 x1 M (fun w1 M1 => (w1 = 0 → (c10_16 M1 Q)) ∧ (¬ (w1 = 0) → (((sG_count M1) < 14 → (tm_iI ((sG_count M1) * 4) ∧ ((0 ≤ ((sG_count M1) * 4) ∧ ((sG_count M1) * 4) < 56) ∧ (tm_iI (((sG_count M1) * 4) + 1) ∧ ((0 ≤ (((sG_count M1) * 4) + 1) ∧ (((sG_count M1) * 4) + 1) < 56) ∧ (tm_iI (((sG_count M1) * 4) + 2) ∧ ((0 ≤ (((sG_count M1) * 4) + 2) ∧ (((sG_count M1) * 4) + 2) < 56) ∧ (tm_iI (((sG_count M1) * 4) + 3) ∧ ((0 ≤ (((sG_count M1) * 4) + 3) ∧ (((sG_count M1) * 4) + 3) < 56) ∧ ((0 ≤ (sG_count M1) ∧ (sG_count M1) < 14) ∧ (m6 (sG_count M1) (ev_sA (ev_sA (ev_sA (ev_sA (ev_sA M1 4 ((sG_count M1) * 4).toNat x2) 4 (((sG_count M1) * 4) + 1).toNat x3) 4 (((sG_count M1) * 4) + 2).toNat x4) 4 (((sG_count M1) * 4) + 3).toNat x5) 2 (sG_count M1).toNat x1) (fun w2 M2 => (0 ≤ (sG_count M1) ∧ (sG_count M1) < 14) ∧ (m7 (sG_count M2) (ev_sA M2 3 (sG_count M1).toNat w2) (fun w3 M3 => (w3 = 0 → (c10_115 M3 Q)) ∧ (¬ (w3 = 0) → (m9 (sG_count M3) M3 (fun w4 M4 => (w4 = 0 → (tm_iI ((sG_count M4) + 1) ∧ (Q 1 (ev_sS M4 3 ((sG_count M4) + 1))))) ∧ (¬ (w4 = 0) → (c10_115 M4 Q))))))))))))))))))) ∧ (¬ ((sG_count M1) < 14) → (c10_16 M1 Q)))))) : m10 x1 x2 x3 x4 x5 M Q := by
  unfold m10
  refine ev_lo (lo' := [(0, .inr (.inr (some 1))), (1, .inl x1), (2, .inl x2), (3, .inl x3), (4, .inl x4), (5, .inl x5)]) (st' := [.inl x1]) (pc' := 1) rfl rfl rfl rfl ?_
  refine ev_call (as := [.inl x1]) (r := []) (pc' := 4) rfl rfl (Nat.le_of_ble_eq_true rfl) (Nat.le_of_ble_eq_true rfl) ⟨rfl, rfl⟩ (Nat.le_of_ble_eq_true rfl) rfl rfl rfl rfl ?_
  refine ev.post h (fun v M1 h => ?_)
  obtain ⟨w1, rfl, h⟩ := h
  show ev 10 4 [(0, .inr (.inr (some 1))), (1, .inl x1), (2, .inl x2), (3, .inl x3), (4, .inl x4), (5, .inl x5)] [.inl w1] M1 _
  refine ev_ifT (pc' := 16) (pc2 := 7) rfl (by decide) rfl rfl (fun hc => ?_) (fun hc => ?_)
  · replace h := h.1 (of_decide_eq_true hc)
    exact ev_pick [] rfl rfl h
  · replace h := h.2 (of_decide_eq_false hc)
    refine ev_lo (lo' := [(0, .inr (.inr (some 1))), (1, .inl x1), (2, .inl x2), (3, .inl x3), (4, .inl x4), (5, .inl x5)]) (st' := [.inr (.inr (some 1))]) (pc' := 8) rfl rfl rfl rfl ?_
    refine ev_get (v := .inl (sG_count M1)) (pc' := 11) rfl rfl rfl rfl ?_
    refine ev_pu (st' := [.inl 14, .inl (sG_count M1)]) (pc' := 13) rfl rfl rfl rfl ?_
    refine ev_icmp (pc' := 18) (pc2 := 16) rfl (by decide) rfl rfl (fun hc => ?_) (fun hc => ?_)
    · replace h := h.1 (of_decide_eq_true hc)
      refine ev_lo (lo' := [(0, .inr (.inr (some 1))), (1, .inl x1), (2, .inl x2), (3, .inl x3), (4, .inl x4), (5, .inl x5)]) (st' := [.inr (.inr (some 1))]) (pc' := 19) rfl rfl rfl rfl ?_
      refine ev_get (v := .inl (sG_count M1)) (pc' := 22) rfl rfl rfl rfl ?_
      refine ev_pu (st' := [.inl 4, .inl (sG_count M1)]) (pc' := 23) rfl rfl rfl rfl ?_
      obtain ⟨hs, h⟩ := h
      refine ev_ii (f := fun a b => a * b) (pc' := 24) rfl rfl (fun _ => rfl) (tm_mul hs) rfl ?_
      refine ev_lo (lo' := [(6, .inl ((sG_count M1) * 4)), (0, .inr (.inr (some 1))), (1, .inl x1), (2, .inl x2), (3, .inl x3), (4, .inl x4), (5, .inl x5)]) (st' := []) (pc' := 26) rfl rfl rfl rfl ?_
      refine ev_lo (lo' := [(6, .inl ((sG_count M1) * 4)), (0, .inr (.inr (some 1))), (1, .inl x1), (2, .inl x2), (3, .inl x3), (4, .inl x4), (5, .inl x5)]) (st' := [.inr (.inr (some 1))]) (pc' := 27) rfl rfl rfl rfl ?_
      refine ev_get (v := .inr (.inr (some 4))) (pc' := 30) rfl rfl rfl rfl ?_
      refine ev_lo (lo' := [(6, .inl ((sG_count M1) * 4)), (0, .inr (.inr (some 1))), (1, .inl x1), (2, .inl x2), (3, .inl x3), (4, .inl x4), (5, .inl x5)]) (st' := [.inl ((sG_count M1) * 4), .inr (.inr (some 4))]) (pc' := 32) rfl rfl rfl rfl ?_
      refine ev_lo (lo' := [(6, .inl ((sG_count M1) * 4)), (0, .inr (.inr (some 1))), (1, .inl x1), (2, .inl x2), (3, .inl x3), (4, .inl x4), (5, .inl x5)]) (st' := [.inl x2, .inl ((sG_count M1) * 4), .inr (.inr (some 4))]) (pc' := 33) rfl rfl rfl rfl ?_
      obtain ⟨hs0, h⟩ := h
      refine ev_iast (n := 56) (f := aG_right M1) (M' := ev_sA M1 4 ((sG_count M1) * 4).toNat x2) (pc' := 34) rfl rfl hs0 (hp_a4 _ _ _) rfl ?_
      refine ev_lo (lo' := [(6, .inl ((sG_count M1) * 4)), (0, .inr (.inr (some 1))), (1, .inl x1), (2, .inl x2), (3, .inl x3), (4, .inl x4), (5, .inl x5)]) (st' := [.inr (.inr (some 1))]) (pc' := 35) rfl rfl rfl rfl ?_
      refine ev_get (v := .inr (.inr (some 4))) (pc' := 38) rfl rfl rfl rfl ?_
      refine ev_lo (lo' := [(6, .inl ((sG_count M1) * 4)), (0, .inr (.inr (some 1))), (1, .inl x1), (2, .inl x2), (3, .inl x3), (4, .inl x4), (5, .inl x5)]) (st' := [.inl ((sG_count M1) * 4), .inr (.inr (some 4))]) (pc' := 40) rfl rfl rfl rfl ?_
      refine ev_pu (st' := [.inl 1, .inl ((sG_count M1) * 4), .inr (.inr (some 4))]) (pc' := 41) rfl rfl rfl rfl ?_
      obtain ⟨hs, h⟩ := h
      refine ev_ii (f := fun a b => a + b) (pc' := 42) rfl rfl (fun _ => rfl) (tm_add hs) rfl ?_
      refine ev_lo (lo' := [(6, .inl ((sG_count M1) * 4)), (0, .inr (.inr (some 1))), (1, .inl x1), (2, .inl x2), (3, .inl x3), (4, .inl x4), (5, .inl x5)]) (st' := [.inl x3, .inl (((sG_count M1) * 4) + 1), .inr (.inr (some 4))]) (pc' := 43) rfl rfl rfl rfl ?_
      obtain ⟨hs0, h⟩ := h
      refine ev_iast (n := 56) (f := (ev_sA M1 4 ((sG_count M1) * 4).toNat x2).2 4) (M' := ev_sA (ev_sA M1 4 ((sG_count M1) * 4).toNat x2) 4 (((sG_count M1) * 4) + 1).toNat x3) (pc' := 44) rfl rfl hs0 (hp_a4 _ _ _) rfl ?_
      refine ev_lo (lo' := [(6, .inl ((sG_count M1) * 4)), (0, .inr (.inr (some 1))), (1, .inl x1), (2, .inl x2), (3, .inl x3), (4, .inl x4), (5, .inl x5)]) (st' := [.inr (.inr (some 1))]) (pc' := 45) rfl rfl rfl rfl ?_
      refine ev_get (v := .inr (.inr (some 4))) (pc' := 48) rfl rfl rfl rfl ?_
      refine ev_lo (lo' := [(6, .inl ((sG_count M1) * 4)), (0, .inr (.inr (some 1))), (1, .inl x1), (2, .inl x2), (3, .inl x3), (4, .inl x4), (5, .inl x5)]) (st' := [.inl ((sG_count M1) * 4), .inr (.inr (some 4))]) (pc' := 50) rfl rfl rfl rfl ?_
      refine ev_pu (st' := [.inl 2, .inl ((sG_count M1) * 4), .inr (.inr (some 4))]) (pc' := 51) rfl rfl rfl rfl ?_
      obtain ⟨hs, h⟩ := h
      refine ev_ii (f := fun a b => a + b) (pc' := 52) rfl rfl (fun _ => rfl) (tm_add hs) rfl ?_
      refine ev_lo (lo' := [(6, .inl ((sG_count M1) * 4)), (0, .inr (.inr (some 1))), (1, .inl x1), (2, .inl x2), (3, .inl x3), (4, .inl x4), (5, .inl x5)]) (st' := [.inl x4, .inl (((sG_count M1) * 4) + 2), .inr (.inr (some 4))]) (pc' := 54) rfl rfl rfl rfl ?_
      obtain ⟨hs0, h⟩ := h
      refine ev_iast (n := 56) (f := (ev_sA (ev_sA M1 4 ((sG_count M1) * 4).toNat x2) 4 (((sG_count M1) * 4) + 1).toNat x3).2 4) (M' := ev_sA (ev_sA (ev_sA M1 4 ((sG_count M1) * 4).toNat x2) 4 (((sG_count M1) * 4) + 1).toNat x3) 4 (((sG_count M1) * 4) + 2).toNat x4) (pc' := 55) rfl rfl hs0 (hp_a4 _ _ _) rfl ?_
      refine ev_lo (lo' := [(6, .inl ((sG_count M1) * 4)), (0, .inr (.inr (some 1))), (1, .inl x1), (2, .inl x2), (3, .inl x3), (4, .inl x4), (5, .inl x5)]) (st' := [.inr (.inr (some 1))]) (pc' := 56) rfl rfl rfl rfl ?_
      refine ev_get (v := .inr (.inr (some 4))) (pc' := 59) rfl rfl rfl rfl ?_
      refine ev_lo (lo' := [(6, .inl ((sG_count M1) * 4)), (0, .inr (.inr (some 1))), (1, .inl x1), (2, .inl x2), (3, .inl x3), (4, .inl x4), (5, .inl x5)]) (st' := [.inl ((sG_count M1) * 4), .inr (.inr (some 4))]) (pc' := 61) rfl rfl rfl rfl ?_
      refine ev_pu (st' := [.inl 3, .inl ((sG_count M1) * 4), .inr (.inr (some 4))]) (pc' := 62) rfl rfl rfl rfl ?_
      obtain ⟨hs, h⟩ := h
      refine ev_ii (f := fun a b => a + b) (pc' := 63) rfl rfl (fun _ => rfl) (tm_add hs) rfl ?_
      refine ev_lo (lo' := [(6, .inl ((sG_count M1) * 4)), (0, .inr (.inr (some 1))), (1, .inl x1), (2, .inl x2), (3, .inl x3), (4, .inl x4), (5, .inl x5)]) (st' := [.inl x5, .inl (((sG_count M1) * 4) + 3), .inr (.inr (some 4))]) (pc' := 65) rfl rfl rfl rfl ?_
      obtain ⟨hs0, h⟩ := h
      refine ev_iast (n := 56) (f := (ev_sA (ev_sA (ev_sA M1 4 ((sG_count M1) * 4).toNat x2) 4 (((sG_count M1) * 4) + 1).toNat x3) 4 (((sG_count M1) * 4) + 2).toNat x4).2 4) (M' := ev_sA (ev_sA (ev_sA (ev_sA M1 4 ((sG_count M1) * 4).toNat x2) 4 (((sG_count M1) * 4) + 1).toNat x3) 4 (((sG_count M1) * 4) + 2).toNat x4) 4 (((sG_count M1) * 4) + 3).toNat x5) (pc' := 66) rfl rfl hs0 (hp_a4 _ _ _) rfl ?_
      refine ev_lo (lo' := [(6, .inl ((sG_count M1) * 4)), (0, .inr (.inr (some 1))), (1, .inl x1), (2, .inl x2), (3, .inl x3), (4, .inl x4), (5, .inl x5)]) (st' := [.inr (.inr (some 1))]) (pc' := 67) rfl rfl rfl rfl ?_
      refine ev_get (v := .inr (.inr (some 2))) (pc' := 70) rfl rfl rfl rfl ?_
      refine ev_lo (lo' := [(6, .inl ((sG_count M1) * 4)), (0, .inr (.inr (some 1))), (1, .inl x1), (2, .inl x2), (3, .inl x3), (4, .inl x4), (5, .inl x5)]) (st' := [.inr (.inr (some 1)), .inr (.inr (some 2))]) (pc' := 71) rfl rfl rfl rfl ?_
      refine ev_get (v := .inl (sG_count M1)) (pc' := 74) rfl rfl rfl rfl ?_
      refine ev_lo (lo' := [(6, .inl ((sG_count M1) * 4)), (0, .inr (.inr (some 1))), (1, .inl x1), (2, .inl x2), (3, .inl x3), (4, .inl x4), (5, .inl x5)]) (st' := [.inl x1, .inl (sG_count M1), .inr (.inr (some 2))]) (pc' := 75) rfl rfl rfl rfl ?_
      obtain ⟨hs0, h⟩ := h
      refine ev_iast (n := 14) (f := aG_left M1) (M' := ev_sA (ev_sA (ev_sA (ev_sA (ev_sA M1 4 ((sG_count M1) * 4).toNat x2) 4 (((sG_count M1) * 4) + 1).toNat x3) 4 (((sG_count M1) * 4) + 2).toNat x4) 4 (((sG_count M1) * 4) + 3).toNat x5) 2 (sG_count M1).toNat x1) (pc' := 76) rfl rfl hs0 (hp_a2 _ _ _) rfl ?_
      refine ev_lo (lo' := [(6, .inl ((sG_count M1) * 4)), (0, .inr (.inr (some 1))), (1, .inl x1), (2, .inl x2), (3, .inl x3), (4, .inl x4), (5, .inl x5)]) (st' := [.inr (.inr (some 1))]) (pc' := 77) rfl rfl rfl rfl ?_
      refine ev_get (v := .inr (.inr (some 3))) (pc' := 80) rfl rfl rfl rfl ?_
      refine ev_lo (lo' := [(6, .inl ((sG_count M1) * 4)), (0, .inr (.inr (some 1))), (1, .inl x1), (2, .inl x2), (3, .inl x3), (4, .inl x4), (5, .inl x5)]) (st' := [.inr (.inr (some 1)), .inr (.inr (some 3))]) (pc' := 81) rfl rfl rfl rfl ?_
      refine ev_get (v := .inl (sG_count M1)) (pc' := 84) rfl rfl rfl rfl ?_
      refine ev_lo (lo' := [(6, .inl ((sG_count M1) * 4)), (0, .inr (.inr (some 1))), (1, .inl x1), (2, .inl x2), (3, .inl x3), (4, .inl x4), (5, .inl x5)]) (st' := [.inr (.inr (some 1)), .inl (sG_count M1), .inr (.inr (some 3))]) (pc' := 85) rfl rfl rfl rfl ?_
      refine ev_lo (lo' := [(6, .inl ((sG_count M1) * 4)), (0, .inr (.inr (some 1))), (1, .inl x1), (2, .inl x2), (3, .inl x3), (4, .inl x4), (5, .inl x5)]) (st' := [.inr (.inr (some 1)), .inr (.inr (some 1)), .inl (sG_count M1), .inr (.inr (some 3))]) (pc' := 86) rfl rfl rfl rfl ?_
      refine ev_get (v := .inl (sG_count M1)) (pc' := 89) rfl rfl rfl rfl ?_
      refine ev_call (as := [.inr (.inr (some 1)), .inl (sG_count M1)]) (r := [.inl (sG_count M1), .inr (.inr (some 3))]) (pc' := 92) rfl rfl (Nat.le_of_ble_eq_true rfl) (Nat.le_of_ble_eq_true rfl) ⟨rfl, rfl⟩ (Nat.le_of_ble_eq_true rfl) rfl rfl rfl rfl ?_
      refine ev.post h (fun v M2 h => ?_)
      obtain ⟨w2, rfl, h⟩ := h
      show ev 10 92 [(6, .inl ((sG_count M1) * 4)), (0, .inr (.inr (some 1))), (1, .inl x1), (2, .inl x2), (3, .inl x3), (4, .inl x4), (5, .inl x5)] [.inl w2, .inl (sG_count M1), .inr (.inr (some 3))] M2 _
      obtain ⟨hs0, h⟩ := h
      refine ev_iast (n := 14) (f := aG_size M2) (M' := ev_sA M2 3 (sG_count M1).toNat w2) (pc' := 93) rfl rfl hs0 (hp_a3 _ _ _) rfl ?_
      refine ev_lo (lo' := [(6, .inl ((sG_count M1) * 4)), (0, .inr (.inr (some 1))), (1, .inl x1), (2, .inl x2), (3, .inl x3), (4, .inl x4), (5, .inl x5)]) (st' := [.inr (.inr (some 1))]) (pc' := 94) rfl rfl rfl rfl ?_
      refine ev_lo (lo' := [(6, .inl ((sG_count M1) * 4)), (0, .inr (.inr (some 1))), (1, .inl x1), (2, .inl x2), (3, .inl x3), (4, .inl x4), (5, .inl x5)]) (st' := [.inr (.inr (some 1)), .inr (.inr (some 1))]) (pc' := 95) rfl rfl rfl rfl ?_
      refine ev_get (v := .inl (sG_count M2)) (pc' := 98) rfl rfl rfl rfl ?_
      refine ev_call (as := [.inr (.inr (some 1)), .inl (sG_count M2)]) (r := []) (pc' := 101) rfl rfl (Nat.le_of_ble_eq_true rfl) (Nat.le_of_ble_eq_true rfl) ⟨rfl, rfl⟩ (Nat.le_of_ble_eq_true rfl) rfl rfl rfl rfl ?_
      refine ev.post h (fun v M3 h => ?_)
      obtain ⟨w3, rfl, h⟩ := h
      show ev 10 101 [(6, .inl ((sG_count M1) * 4)), (0, .inr (.inr (some 1))), (1, .inl x1), (2, .inl x2), (3, .inl x3), (4, .inl x4), (5, .inl x5)] [.inl w3] M3 _
      refine ev_ifT (pc' := 115) (pc2 := 104) rfl (by decide) rfl rfl (fun hc => ?_) (fun hc => ?_)
      · replace h := h.1 (of_decide_eq_true hc)
        exact ev_pick [] rfl rfl h
      · replace h := h.2 (of_decide_eq_false hc)
        refine ev_lo (lo' := [(6, .inl ((sG_count M1) * 4)), (0, .inr (.inr (some 1))), (1, .inl x1), (2, .inl x2), (3, .inl x3), (4, .inl x4), (5, .inl x5)]) (st' := [.inr (.inr (some 1))]) (pc' := 105) rfl rfl rfl rfl ?_
        refine ev_lo (lo' := [(6, .inl ((sG_count M1) * 4)), (0, .inr (.inr (some 1))), (1, .inl x1), (2, .inl x2), (3, .inl x3), (4, .inl x4), (5, .inl x5)]) (st' := [.inr (.inr (some 1)), .inr (.inr (some 1))]) (pc' := 106) rfl rfl rfl rfl ?_
        refine ev_get (v := .inl (sG_count M3)) (pc' := 109) rfl rfl rfl rfl ?_
        refine ev_call (as := [.inr (.inr (some 1)), .inl (sG_count M3)]) (r := []) (pc' := 112) rfl rfl (Nat.le_of_ble_eq_true rfl) (Nat.le_of_ble_eq_true rfl) ⟨rfl, rfl⟩ (Nat.le_of_ble_eq_true rfl) rfl rfl rfl rfl ?_
        refine ev.post h (fun v M4 h => ?_)
        obtain ⟨w4, rfl, h⟩ := h
        show ev 10 112 [(6, .inl ((sG_count M1) * 4)), (0, .inr (.inr (some 1))), (1, .inl x1), (2, .inl x2), (3, .inl x3), (4, .inl x4), (5, .inl x5)] [.inl w4] M4 _
        refine ev_ifT (pc' := 117) (pc2 := 115) rfl (by decide) rfl rfl (fun hc => ?_) (fun hc => ?_)
        · replace h := h.1 (of_decide_eq_true hc)
          refine ev_lo (lo' := [(6, .inl ((sG_count M1) * 4)), (0, .inr (.inr (some 1))), (1, .inl x1), (2, .inl x2), (3, .inl x3), (4, .inl x4), (5, .inl x5)]) (st' := [.inr (.inr (some 1))]) (pc' := 118) rfl rfl rfl rfl ?_
          refine ev_pu (st' := [.inr (.inr (some 1)), .inr (.inr (some 1))]) (pc' := 119) rfl rfl rfl rfl ?_
          refine ev_get (v := .inl (sG_count M4)) (pc' := 122) rfl rfl rfl rfl ?_
          refine ev_pu (st' := [.inl 1, .inl (sG_count M4), .inr (.inr (some 1))]) (pc' := 123) rfl rfl rfl rfl ?_
          obtain ⟨hs, h⟩ := h
          refine ev_ii (f := fun a b => a + b) (pc' := 124) rfl rfl (fun _ => rfl) (tm_add hs) rfl ?_
          refine ev_put (M' := ev_sS M4 3 ((sG_count M4) + 1)) (pc' := 127) rfl rfl (Nat.le_of_ble_eq_true rfl) rfl (hp_s3 _ _) rfl ?_
          refine ev_pu (st' := [.inl 1]) (pc' := 128) rfl rfl rfl rfl ?_
          exact ev_rt rfl rfl rfl ⟨_, rfl, h⟩
        · replace h := h.2 (of_decide_eq_false hc)
          exact ev_pick [] rfl rfl h
    · replace h := h.2 (of_decide_eq_false hc)
      exact ev_pick [] rfl rfl h
set_option maxRecDepth 10000 in
theorem b10_16 {M : ev_M} {Q : Int → ev_M → Prop}
    (h : Q 0 M) : c10_16 M Q := by
  unfold c10_16
  refine ev_pu (st' := [.inl 0]) (pc' := 17) rfl rfl rfl rfl ?_
  exact ev_rt rfl rfl rfl ⟨_, rfl, h⟩
set_option maxRecDepth 10000 in
theorem b10_115 {M : ev_M} {Q : Int → ev_M → Prop}
    (h : Q 0 M) : c10_115 M Q := by
  unfold c10_115
  refine ev_pu (st' := [.inl 0]) (pc' := 116) rfl rfl rfl rfl ?_
  exact ev_rt rfl rfl rfl ⟨_, rfl, h⟩
/-! NulledForest$Grammar.dropLast()V -/
def m11 (M : ev_M) (Q : ev_M → Prop) : Prop := ev 11 0 [(0, .inr (.inr (some 1)))] [] M (fun v M1 => v = none ∧ Q M1)
def c11_17 (M : ev_M) (Q : ev_M → Prop) : Prop := ev 11 17 [] [] M (fun v M1 => v = none ∧ Q M1)
set_option maxRecDepth 10000 in
theorem b11 {M : ev_M} {Q : ev_M → Prop}
    (h : ((sG_count M) ≤ 0 → (c11_17 M Q)) ∧ (¬ ((sG_count M) ≤ 0) → (tm_iI ((sG_count M) - 1) ∧ (c11_17 (ev_sS M 3 ((sG_count M) - 1)) Q)))) : m11 M Q := by
  unfold m11
  refine ev_lo (lo' := [(0, .inr (.inr (some 1)))]) (st' := [.inr (.inr (some 1))]) (pc' := 1) rfl rfl rfl rfl ?_
  refine ev_get (v := .inl (sG_count M)) (pc' := 4) rfl rfl rfl rfl ?_
  refine ev_ifT (pc' := 17) (pc2 := 7) rfl (by decide) rfl rfl (fun hc => ?_) (fun hc => ?_)
  · replace h := h.1 (of_decide_eq_true hc)
    exact ev_pick [] rfl rfl h
  · replace h := h.2 (of_decide_eq_false hc)
    refine ev_lo (lo' := [(0, .inr (.inr (some 1)))]) (st' := [.inr (.inr (some 1))]) (pc' := 8) rfl rfl rfl rfl ?_
    refine ev_pu (st' := [.inr (.inr (some 1)), .inr (.inr (some 1))]) (pc' := 9) rfl rfl rfl rfl ?_
    refine ev_get (v := .inl (sG_count M)) (pc' := 12) rfl rfl rfl rfl ?_
    refine ev_pu (st' := [.inl 1, .inl (sG_count M), .inr (.inr (some 1))]) (pc' := 13) rfl rfl rfl rfl ?_
    obtain ⟨hs, h⟩ := h
    refine ev_ii (f := fun a b => a - b) (pc' := 14) rfl rfl (fun _ => rfl) (tm_sub' hs) rfl ?_
    refine ev_put (M' := ev_sS M 3 ((sG_count M) - 1)) (pc' := 17) rfl rfl (Nat.le_of_ble_eq_true rfl) rfl (hp_s3 _ _) rfl ?_
    exact ev_pick [] rfl rfl h
set_option maxRecDepth 10000 in
theorem b11_17 {M : ev_M} {Q : ev_M → Prop}
    (h : Q M) : c11_17 M Q := by
  unfold c11_17
  exact ev_rt rfl rfl rfl ⟨rfl, h⟩
