/-! Block rules, written by wip/whole/gen3.py -/
/-! NulledForest.outdate()V -/
def m63 (M : ev_M) (Q : ev_M → Prop) : Prop := ev 63 0 [(0, .inr (.inr (some 0)))] [] M (fun v M1 => v = none ∧ Q M1)
set_option maxRecDepth 10000 in
theorem b63 {M : ev_M} {Q : ev_M → Prop}
    (h : Q (ev_sS (ev_sS (ev_sS M 0 0) 1 0) 2 0)) : m63 M Q := by
  unfold m63
  refine ev_lo (lo' := [(0, .inr (.inr (some 0)))]) (st' := [.inr (.inr (some 0))]) (pc' := 1) rfl rfl rfl rfl ?_
  refine ev_pu (st' := [.inl 0, .inr (.inr (some 0))]) (pc' := 2) rfl rfl rfl rfl ?_
  refine ev_put (M' := ev_sS M 0 0) (pc' := 5) rfl rfl (Nat.le_of_ble_eq_true rfl) rfl (hp_s0 _ _) rfl ?_
  refine ev_lo (lo' := [(0, .inr (.inr (some 0)))]) (st' := [.inr (.inr (some 0))]) (pc' := 6) rfl rfl rfl rfl ?_
  refine ev_pu (st' := [.inl 0, .inr (.inr (some 0))]) (pc' := 7) rfl rfl rfl rfl ?_
  refine ev_put (M' := ev_sS (ev_sS M 0 0) 1 0) (pc' := 10) rfl rfl (Nat.le_of_ble_eq_true rfl) rfl (hp_s1 _ _) rfl ?_
  refine ev_lo (lo' := [(0, .inr (.inr (some 0)))]) (st' := [.inr (.inr (some 0))]) (pc' := 11) rfl rfl rfl rfl ?_
  refine ev_pu (st' := [.inl 0, .inr (.inr (some 0))]) (pc' := 12) rfl rfl rfl rfl ?_
  refine ev_put (M' := ev_sS (ev_sS (ev_sS M 0 0) 1 0) 2 0) (pc' := 15) rfl rfl (Nat.le_of_ble_eq_true rfl) rfl (hp_s2 _ _) rfl ?_
  exact ev_rt rfl rfl rfl ⟨rfl, h⟩
/-! NulledForest.rule(IIIII)I -/
def m64 (x1 x2 x3 x4 x5 : Int) (M : ev_M) (Q : Int → ev_M → Prop) : Prop := ev 64 0 [(0, .inr (.inr (some 0))), (1, .inl x1), (2, .inl x2), (3, .inl x3), (4, .inl x4), (5, .inl x5)] [] M (fun v M1 => ∃ w : Int, v = some (.inl w) ∧ Q w M1)
set_option maxRecDepth 10000 in
theorem b64 {x1 x2 x3 x4 x5 : Int} {M : ev_M} {Q : Int → ev_M → Prop}
    (h : m10 x1 x2 x3 x4 x5 M (fun w1 M1 => (¬ w1 = 0 → (m19 M1 (fun w2 M2 => (¬ w2 = 0 → (m63 M2 (fun M3 => tm_iI ((sG_count M3) - 1) ∧ (Q ((sG_count M3) - 1) M3)))) ∧ (¬ (¬ w2 = 0) → (m11 M2 (fun M4 => m19 M4 (fun w5 M5 => Q (-1) M5))))))) ∧ (¬ (¬ w1 = 0) → (Q (-1) M1)))) : m64 x1 x2 x3 x4 x5 M Q := by
  unfold m64
  refine ev_lo (lo' := [(0, .inr (.inr (some 0))), (1, .inl x1), (2, .inl x2), (3, .inl x3), (4, .inl x4), (5, .inl x5)]) (st' := [.inr (.inr (some 0))]) (pc' := 1) rfl rfl rfl rfl ?_
  refine ev_get (v := .inr (.inr (some 1))) (pc' := 4) rfl rfl rfl rfl ?_
  refine ev_lo (lo' := [(0, .inr (.inr (some 0))), (1, .inl x1), (2, .inl x2), (3, .inl x3), (4, .inl x4), (5, .inl x5)]) (st' := [.inl x1, .inr (.inr (some 1))]) (pc' := 5) rfl rfl rfl rfl ?_
  refine ev_lo (lo' := [(0, .inr (.inr (some 0))), (1, .inl x1), (2, .inl x2), (3, .inl x3), (4, .inl x4), (5, .inl x5)]) (st' := [.inl x2, .inl x1, .inr (.inr (some 1))]) (pc' := 6) rfl rfl rfl rfl ?_
  refine ev_lo (lo' := [(0, .inr (.inr (some 0))), (1, .inl x1), (2, .inl x2), (3, .inl x3), (4, .inl x4), (5, .inl x5)]) (st' := [.inl x3, .inl x2, .inl x1, .inr (.inr (some 1))]) (pc' := 7) rfl rfl rfl rfl ?_
  refine ev_lo (lo' := [(0, .inr (.inr (some 0))), (1, .inl x1), (2, .inl x2), (3, .inl x3), (4, .inl x4), (5, .inl x5)]) (st' := [.inl x4, .inl x3, .inl x2, .inl x1, .inr (.inr (some 1))]) (pc' := 9) rfl rfl rfl rfl ?_
  refine ev_lo (lo' := [(0, .inr (.inr (some 0))), (1, .inl x1), (2, .inl x2), (3, .inl x3), (4, .inl x4), (5, .inl x5)]) (st' := [.inl x5, .inl x4, .inl x3, .inl x2, .inl x1, .inr (.inr (some 1))]) (pc' := 11) rfl rfl rfl rfl ?_
  refine ev_call (as := [.inr (.inr (some 1)), .inl x1, .inl x2, .inl x3, .inl x4, .inl x5]) (r := []) (pc' := 14) rfl rfl (Nat.le_of_ble_eq_true rfl) (Nat.le_of_ble_eq_true rfl) ⟨rfl, rfl⟩ (Nat.le_of_ble_eq_true rfl) rfl rfl rfl rfl ?_
  refine ev.post h (fun v M1 h => ?_)
  obtain ⟨w1, rfl, h⟩ := h
  show ev 64 14 [(0, .inr (.inr (some 0))), (1, .inl x1), (2, .inl x2), (3, .inl x3), (4, .inl x4), (5, .inl x5)] [.inl w1] M1 _
  refine ev_ifT (pc' := 19) (pc2 := 17) rfl (by decide) rfl rfl (fun hc => ?_) (fun hc => ?_)
  · replace h := h.1 (of_decide_eq_true hc)
    refine ev_lo (lo' := [(0, .inr (.inr (some 0))), (1, .inl x1), (2, .inl x2), (3, .inl x3), (4, .inl x4), (5, .inl x5)]) (st' := [.inr (.inr (some 0))]) (pc' := 20) rfl rfl rfl rfl ?_
    refine ev_get (v := .inr (.inr (some 5))) (pc' := 23) rfl rfl rfl rfl ?_
    refine ev_call (as := [.inr (.inr (some 5))]) (r := []) (pc' := 26) rfl rfl (Nat.le_of_ble_eq_true rfl) (Nat.le_of_ble_eq_true rfl) ⟨rfl, rfl⟩ (Nat.le_of_ble_eq_true rfl) rfl rfl rfl rfl ?_
    refine ev.post h (fun v M2 h => ?_)
    obtain ⟨w2, rfl, h⟩ := h
    show ev 64 26 [(0, .inr (.inr (some 0))), (1, .inl x1), (2, .inl x2), (3, .inl x3), (4, .inl x4), (5, .inl x5)] [.inl w2] M2 _
    refine ev_ifT (pc' := 46) (pc2 := 29) rfl (by decide) rfl rfl (fun hc => ?_) (fun hc => ?_)
    · replace h := h.1 (of_decide_eq_true hc)
      refine ev_lo (lo' := [(0, .inr (.inr (some 0))), (1, .inl x1), (2, .inl x2), (3, .inl x3), (4, .inl x4), (5, .inl x5)]) (st' := [.inr (.inr (some 0))]) (pc' := 47) rfl rfl rfl rfl ?_
      refine ev_call (as := [.inr (.inr (some 0))]) (r := []) (pc' := 50) rfl rfl (Nat.le_of_ble_eq_true rfl) (Nat.le_of_ble_eq_true rfl) ⟨rfl, rfl⟩ (Nat.le_of_ble_eq_true rfl) rfl rfl rfl rfl ?_
      refine ev.post h (fun v M3 h => ?_)
      obtain ⟨rfl, h⟩ := h
      show ev 64 50 [(0, .inr (.inr (some 0))), (1, .inl x1), (2, .inl x2), (3, .inl x3), (4, .inl x4), (5, .inl x5)] [] M3 _
      refine ev_lo (lo' := [(0, .inr (.inr (some 0))), (1, .inl x1), (2, .inl x2), (3, .inl x3), (4, .inl x4), (5, .inl x5)]) (st' := [.inr (.inr (some 0))]) (pc' := 51) rfl rfl rfl rfl ?_
      refine ev_get (v := .inr (.inr (some 1))) (pc' := 54) rfl rfl rfl rfl ?_
      refine ev_get (v := .inl (sG_count M3)) (pc' := 57) rfl rfl rfl rfl ?_
      refine ev_pu (st' := [.inl 1, .inl (sG_count M3)]) (pc' := 58) rfl rfl rfl rfl ?_
      obtain ⟨hs, h⟩ := h
      refine ev_ii (f := fun a b => a - b) (pc' := 59) rfl rfl (fun _ => rfl) (tm_sub' hs) rfl ?_
      exact ev_rt rfl rfl rfl ⟨_, rfl, h⟩
    · replace h := h.2 (of_decide_eq_false hc)
      refine ev_lo (lo' := [(0, .inr (.inr (some 0))), (1, .inl x1), (2, .inl x2), (3, .inl x3), (4, .inl x4), (5, .inl x5)]) (st' := [.inr (.inr (some 0))]) (pc' := 30) rfl rfl rfl rfl ?_
      refine ev_get (v := .inr (.inr (some 1))) (pc' := 33) rfl rfl rfl rfl ?_
      refine ev_call (as := [.inr (.inr (some 1))]) (r := []) (pc' := 36) rfl rfl (Nat.le_of_ble_eq_true rfl) (Nat.le_of_ble_eq_true rfl) ⟨rfl, rfl⟩ (Nat.le_of_ble_eq_true rfl) rfl rfl rfl rfl ?_
      refine ev.post h (fun v M4 h => ?_)
      obtain ⟨rfl, h⟩ := h
      show ev 64 36 [(0, .inr (.inr (some 0))), (1, .inl x1), (2, .inl x2), (3, .inl x3), (4, .inl x4), (5, .inl x5)] [] M4 _
      refine ev_lo (lo' := [(0, .inr (.inr (some 0))), (1, .inl x1), (2, .inl x2), (3, .inl x3), (4, .inl x4), (5, .inl x5)]) (st' := [.inr (.inr (some 0))]) (pc' := 37) rfl rfl rfl rfl ?_
      refine ev_get (v := .inr (.inr (some 5))) (pc' := 40) rfl rfl rfl rfl ?_
      refine ev_call (as := [.inr (.inr (some 5))]) (r := []) (pc' := 43) rfl rfl (Nat.le_of_ble_eq_true rfl) (Nat.le_of_ble_eq_true rfl) ⟨rfl, rfl⟩ (Nat.le_of_ble_eq_true rfl) rfl rfl rfl rfl ?_
      refine ev.post h (fun v M5 h => ?_)
      obtain ⟨w5, rfl, h⟩ := h
      show ev 64 43 [(0, .inr (.inr (some 0))), (1, .inl x1), (2, .inl x2), (3, .inl x3), (4, .inl x4), (5, .inl x5)] [.inl w5] M5 _
      refine ev_pu (st' := []) (pc' := 44) rfl rfl rfl rfl ?_
      refine ev_pu (st' := [.inl (-1)]) (pc' := 45) rfl rfl rfl rfl ?_
      exact ev_rt rfl rfl rfl ⟨_, rfl, h⟩
  · replace h := h.2 (of_decide_eq_false hc)
    refine ev_pu (st' := [.inl (-1)]) (pc' := 18) rfl rfl rfl rfl ?_
    exact ev_rt rfl rfl rfl ⟨_, rfl, h⟩
/-! NulledForest.word(I)Z -/
def m65 (x1 : Int) (M : ev_M) (Q : Int → ev_M → Prop) : Prop := ev 65 0 [(0, .inr (.inr (some 0))), (1, .inl x1)] [] M (fun v M1 => ∃ w : Int, v = some (.inl w) ∧ Q w M1)
def c65_24 (M : ev_M) (Q : Int → ev_M → Prop) : Prop := ev 65 24 [] [] M (fun v M1 => ∃ w : Int, v = some (.inl w) ∧ Q w M1)
set_option maxRecDepth 10000 in
theorem b65 {x1 : Int} {M : ev_M} {Q : Int → ev_M → Prop}
    (h : (x1 < 6 → (c65_24 M Q)) ∧ (¬ (x1 < 6) → ((10 ≤ x1 → (c65_24 M Q)) ∧ (¬ (10 ≤ x1) → (((sC_size M) < 10 → ((0 ≤ (sC_size M) ∧ (sC_size M) < 10) ∧ (tm_iI ((sC_size M) + 1) ∧ (m63 (ev_sS (ev_sA M 11 (sC_size M).toNat x1) 5 ((sC_size M) + 1)) (fun M1 => Q 1 M1))))) ∧ (¬ ((sC_size M) < 10) → (c65_24 M Q))))))) : m65 x1 M Q := by
  unfold m65
  refine ev_lo (lo' := [(0, .inr (.inr (some 0))), (1, .inl x1)]) (st' := [.inl x1]) (pc' := 1) rfl rfl rfl rfl ?_
  refine ev_pu (st' := [.inl 6, .inl x1]) (pc' := 3) rfl rfl rfl rfl ?_
  refine ev_icmp (pc' := 24) (pc2 := 6) rfl (by decide) rfl rfl (fun hc => ?_) (fun hc => ?_)
  · replace h := h.1 (of_decide_eq_true hc)
    exact ev_pick [] rfl rfl h
  · replace h := h.2 (of_decide_eq_false hc)
    refine ev_lo (lo' := [(0, .inr (.inr (some 0))), (1, .inl x1)]) (st' := [.inl x1]) (pc' := 7) rfl rfl rfl rfl ?_
    refine ev_pu (st' := [.inl 10, .inl x1]) (pc' := 9) rfl rfl rfl rfl ?_
    refine ev_icmp (pc' := 24) (pc2 := 12) rfl (by decide) rfl rfl (fun hc => ?_) (fun hc => ?_)
    · replace h := h.1 (of_decide_eq_true hc)
      exact ev_pick [] rfl rfl h
    · replace h := h.2 (of_decide_eq_false hc)
      refine ev_lo (lo' := [(0, .inr (.inr (some 0))), (1, .inl x1)]) (st' := [.inr (.inr (some 0))]) (pc' := 13) rfl rfl rfl rfl ?_
      refine ev_get (v := .inr (.inr (some 10))) (pc' := 16) rfl rfl rfl rfl ?_
      refine ev_get (v := .inl (sC_size M)) (pc' := 19) rfl rfl rfl rfl ?_
      refine ev_pu (st' := [.inl 10, .inl (sC_size M)]) (pc' := 21) rfl rfl rfl rfl ?_
      refine ev_icmp (pc' := 26) (pc2 := 24) rfl (by decide) rfl rfl (fun hc => ?_) (fun hc => ?_)
      · replace h := h.1 (of_decide_eq_true hc)
        refine ev_lo (lo' := [(0, .inr (.inr (some 0))), (1, .inl x1)]) (st' := [.inr (.inr (some 0))]) (pc' := 27) rfl rfl rfl rfl ?_
        refine ev_get (v := .inr (.inr (some 10))) (pc' := 30) rfl rfl rfl rfl ?_
        refine ev_get (v := .inr (.inr (some 11))) (pc' := 33) rfl rfl rfl rfl ?_
        refine ev_lo (lo' := [(0, .inr (.inr (some 0))), (1, .inl x1)]) (st' := [.inr (.inr (some 0)), .inr (.inr (some 11))]) (pc' := 34) rfl rfl rfl rfl ?_
        refine ev_get (v := .inr (.inr (some 10))) (pc' := 37) rfl rfl rfl rfl ?_
        refine ev_get (v := .inl (sC_size M)) (pc' := 40) rfl rfl rfl rfl ?_
        refine ev_lo (lo' := [(0, .inr (.inr (some 0))), (1, .inl x1)]) (st' := [.inl x1, .inl (sC_size M), .inr (.inr (some 11))]) (pc' := 41) rfl rfl rfl rfl ?_
        obtain ⟨hs0, h⟩ := h
        refine ev_iast (n := 10) (f := aC_text M) (M' := ev_sA M 11 (sC_size M).toNat x1) (pc' := 42) rfl rfl hs0 (hp_a11 _ _ _) rfl ?_
        refine ev_lo (lo' := [(0, .inr (.inr (some 0))), (1, .inl x1)]) (st' := [.inr (.inr (some 0))]) (pc' := 43) rfl rfl rfl rfl ?_
        refine ev_get (v := .inr (.inr (some 10))) (pc' := 46) rfl rfl rfl rfl ?_
        refine ev_pu (st' := [.inr (.inr (some 10)), .inr (.inr (some 10))]) (pc' := 47) rfl rfl rfl rfl ?_
        refine ev_get (v := .inl (sC_size M)) (pc' := 50) rfl rfl rfl rfl ?_
        refine ev_pu (st' := [.inl 1, .inl (sC_size M), .inr (.inr (some 10))]) (pc' := 51) rfl rfl rfl rfl ?_
        obtain ⟨hs, h⟩ := h
        refine ev_ii (f := fun a b => a + b) (pc' := 52) rfl rfl (fun _ => rfl) (tm_add hs) rfl ?_
        refine ev_put (M' := ev_sS (ev_sA M 11 (sC_size M).toNat x1) 5 ((sC_size M) + 1)) (pc' := 55) rfl rfl (Nat.le_of_ble_eq_true rfl) rfl (hp_s5 _ _) rfl ?_
        refine ev_lo (lo' := [(0, .inr (.inr (some 0))), (1, .inl x1)]) (st' := [.inr (.inr (some 0))]) (pc' := 56) rfl rfl rfl rfl ?_
        refine ev_call (as := [.inr (.inr (some 0))]) (r := []) (pc' := 59) rfl rfl (Nat.le_of_ble_eq_true rfl) (Nat.le_of_ble_eq_true rfl) ⟨rfl, rfl⟩ (Nat.le_of_ble_eq_true rfl) rfl rfl rfl rfl ?_
        refine ev.post h (fun v M1 h => ?_)
        obtain ⟨rfl, h⟩ := h
        show ev 65 59 [(0, .inr (.inr (some 0))), (1, .inl x1)] [] M1 _
        refine ev_pu (st' := [.inl 1]) (pc' := 60) rfl rfl rfl rfl ?_
        exact ev_rt rfl rfl rfl ⟨_, rfl, h⟩
      · replace h := h.2 (of_decide_eq_false hc)
        exact ev_pick [] rfl rfl h
set_option maxRecDepth 10000 in
theorem b65_24 {M : ev_M} {Q : Int → ev_M → Prop}
    (h : Q 0 M) : c65_24 M Q := by
  unfold c65_24
  refine ev_pu (st' := [.inl 0]) (pc' := 25) rfl rfl rfl rfl ?_
  exact ev_rt rfl rfl rfl ⟨_, rfl, h⟩
/-! NulledForest.erase()I -/
def m66 (M : ev_M) (Q : Int → ev_M → Prop) : Prop := ev 66 0 [(0, .inr (.inr (some 0)))] [] M (fun v M1 => ∃ w : Int, v = some (.inl w) ∧ Q w M1)
set_option maxRecDepth 10000 in
theorem b66 {M : ev_M} {Q : Int → ev_M → Prop}
    (h : m63 (ev_sS M 5 0) (fun M1 => Q (sC_size M) M1)) : m66 M Q := by
  unfold m66
  refine ev_lo (lo' := [(0, .inr (.inr (some 0)))]) (st' := [.inr (.inr (some 0))]) (pc' := 1) rfl rfl rfl rfl ?_
  refine ev_get (v := .inr (.inr (some 10))) (pc' := 4) rfl rfl rfl rfl ?_
  refine ev_get (v := .inl (sC_size M)) (pc' := 7) rfl rfl rfl rfl ?_
  refine ev_lo (lo' := [(1, .inl (sC_size M)), (0, .inr (.inr (some 0)))]) (st' := []) (pc' := 8) rfl rfl rfl rfl ?_
  refine ev_lo (lo' := [(1, .inl (sC_size M)), (0, .inr (.inr (some 0)))]) (st' := [.inr (.inr (some 0))]) (pc' := 9) rfl rfl rfl rfl ?_
  refine ev_get (v := .inr (.inr (some 10))) (pc' := 12) rfl rfl rfl rfl ?_
  refine ev_pu (st' := [.inl 0, .inr (.inr (some 10))]) (pc' := 13) rfl rfl rfl rfl ?_
  refine ev_put (M' := ev_sS M 5 0) (pc' := 16) rfl rfl (Nat.le_of_ble_eq_true rfl) rfl (hp_s5 _ _) rfl ?_
  refine ev_lo (lo' := [(1, .inl (sC_size M)), (0, .inr (.inr (some 0)))]) (st' := [.inr (.inr (some 0))]) (pc' := 17) rfl rfl rfl rfl ?_
  refine ev_call (as := [.inr (.inr (some 0))]) (r := []) (pc' := 20) rfl rfl (Nat.le_of_ble_eq_true rfl) (Nat.le_of_ble_eq_true rfl) ⟨rfl, rfl⟩ (Nat.le_of_ble_eq_true rfl) rfl rfl rfl rfl ?_
  refine ev.post h (fun v M1 h => ?_)
  obtain ⟨rfl, h⟩ := h
  show ev 66 20 [(1, .inl (sC_size M)), (0, .inr (.inr (some 0)))] [] M1 _
  refine ev_lo (lo' := [(1, .inl (sC_size M)), (0, .inr (.inr (some 0)))]) (st' := [.inl (sC_size M)]) (pc' := 21) rfl rfl rfl rfl ?_
  exact ev_rt rfl rfl rfl ⟨_, rfl, h⟩
/-! NulledForest.clear()I -/
def m67 (M : ev_M) (Q : Int → ev_M → Prop) : Prop := ev 67 0 [(0, .inr (.inr (some 0)))] [] M (fun v M1 => ∃ w : Int, v = some (.inl w) ∧ Q w M1)
set_option maxRecDepth 10000 in
theorem b67 {M : ev_M} {Q : Int → ev_M → Prop}
    (h : m19 (ev_sS (ev_sS M 3 0) 5 0) (fun w1 M1 => m63 M1 (fun M2 => Q (sG_count M) M2))) : m67 M Q := by
  unfold m67
  refine ev_lo (lo' := [(0, .inr (.inr (some 0)))]) (st' := [.inr (.inr (some 0))]) (pc' := 1) rfl rfl rfl rfl ?_
  refine ev_get (v := .inr (.inr (some 1))) (pc' := 4) rfl rfl rfl rfl ?_
  refine ev_get (v := .inl (sG_count M)) (pc' := 7) rfl rfl rfl rfl ?_
  refine ev_lo (lo' := [(1, .inl (sG_count M)), (0, .inr (.inr (some 0)))]) (st' := []) (pc' := 8) rfl rfl rfl rfl ?_
  refine ev_lo (lo' := [(1, .inl (sG_count M)), (0, .inr (.inr (some 0)))]) (st' := [.inr (.inr (some 0))]) (pc' := 9) rfl rfl rfl rfl ?_
  refine ev_get (v := .inr (.inr (some 1))) (pc' := 12) rfl rfl rfl rfl ?_
  refine ev_pu (st' := [.inl 0, .inr (.inr (some 1))]) (pc' := 13) rfl rfl rfl rfl ?_
  refine ev_put (M' := ev_sS M 3 0) (pc' := 16) rfl rfl (Nat.le_of_ble_eq_true rfl) rfl (hp_s3 _ _) rfl ?_
  refine ev_lo (lo' := [(1, .inl (sG_count M)), (0, .inr (.inr (some 0)))]) (st' := [.inr (.inr (some 0))]) (pc' := 17) rfl rfl rfl rfl ?_
  refine ev_get (v := .inr (.inr (some 10))) (pc' := 20) rfl rfl rfl rfl ?_
  refine ev_pu (st' := [.inl 0, .inr (.inr (some 10))]) (pc' := 21) rfl rfl rfl rfl ?_
  refine ev_put (M' := ev_sS (ev_sS M 3 0) 5 0) (pc' := 24) rfl rfl (Nat.le_of_ble_eq_true rfl) rfl (hp_s5 _ _) rfl ?_
  refine ev_lo (lo' := [(1, .inl (sG_count M)), (0, .inr (.inr (some 0)))]) (st' := [.inr (.inr (some 0))]) (pc' := 25) rfl rfl rfl rfl ?_
  refine ev_get (v := .inr (.inr (some 5))) (pc' := 28) rfl rfl rfl rfl ?_
  refine ev_call (as := [.inr (.inr (some 5))]) (r := []) (pc' := 31) rfl rfl (Nat.le_of_ble_eq_true rfl) (Nat.le_of_ble_eq_true rfl) ⟨rfl, rfl⟩ (Nat.le_of_ble_eq_true rfl) rfl rfl rfl rfl ?_
  refine ev.post h (fun v M1 h => ?_)
  obtain ⟨w1, rfl, h⟩ := h
  show ev 67 31 [(1, .inl (sG_count M)), (0, .inr (.inr (some 0)))] [.inl w1] M1 _
  refine ev_pu (st' := []) (pc' := 32) rfl rfl rfl rfl ?_
  refine ev_lo (lo' := [(1, .inl (sG_count M)), (0, .inr (.inr (some 0)))]) (st' := [.inr (.inr (some 0))]) (pc' := 33) rfl rfl rfl rfl ?_
  refine ev_call (as := [.inr (.inr (some 0))]) (r := []) (pc' := 36) rfl rfl (Nat.le_of_ble_eq_true rfl) (Nat.le_of_ble_eq_true rfl) ⟨rfl, rfl⟩ (Nat.le_of_ble_eq_true rfl) rfl rfl rfl rfl ?_
  refine ev.post h (fun v M2 h => ?_)
  obtain ⟨rfl, h⟩ := h
  show ev 67 36 [(1, .inl (sG_count M)), (0, .inr (.inr (some 0)))] [] M2 _
  refine ev_lo (lo' := [(1, .inl (sG_count M)), (0, .inr (.inr (some 0)))]) (st' := [.inl (sG_count M)]) (pc' := 37) rfl rfl rfl rfl ?_
  exact ev_rt rfl rfl rfl ⟨_, rfl, h⟩
/-! NulledForest.readyChart()V -/
def m68 (M : ev_M) (Q : ev_M → Prop) : Prop := ev 68 0 [(0, .inr (.inr (some 0)))] [] M (fun v M1 => v = none ∧ Q M1)
def c68_19 (M : ev_M) (Q : ev_M → Prop) : Prop := ev 68 19 [] [] M (fun v M1 => v = none ∧ Q M1)
set_option maxRecDepth 10000 in
theorem b68 {M : ev_M} {Q : ev_M → Prop}
    (h : (¬ (sX_chartReady M) = 0 → (c68_19 M Q)) ∧ (¬ (¬ (sX_chartReady M) = 0) → (m28 M (fun M1 => c68_19 (ev_sS M1 0 1) Q)))) : m68 M Q := by
  unfold m68
  refine ev_lo (lo' := [(0, .inr (.inr (some 0)))]) (st' := [.inr (.inr (some 0))]) (pc' := 1) rfl rfl rfl rfl ?_
  refine ev_get (v := .inl (sX_chartReady M)) (pc' := 4) rfl rfl rfl rfl ?_
  refine ev_ifT (pc' := 19) (pc2 := 7) rfl (by decide) rfl rfl (fun hc => ?_) (fun hc => ?_)
  · replace h := h.1 (of_decide_eq_true hc)
    exact ev_pick [] rfl rfl h
  · replace h := h.2 (of_decide_eq_false hc)
    refine ev_lo (lo' := [(0, .inr (.inr (some 0)))]) (st' := [.inr (.inr (some 0))]) (pc' := 8) rfl rfl rfl rfl ?_
    refine ev_get (v := .inr (.inr (some 10))) (pc' := 11) rfl rfl rfl rfl ?_
    refine ev_call (as := [.inr (.inr (some 10))]) (r := []) (pc' := 14) rfl rfl (Nat.le_of_ble_eq_true rfl) (Nat.le_of_ble_eq_true rfl) ⟨rfl, rfl⟩ (Nat.le_of_ble_eq_true rfl) rfl rfl rfl rfl ?_
    refine ev.post h (fun v M1 h => ?_)
    obtain ⟨rfl, h⟩ := h
    show ev 68 14 [(0, .inr (.inr (some 0)))] [] M1 _
    refine ev_lo (lo' := [(0, .inr (.inr (some 0)))]) (st' := [.inr (.inr (some 0))]) (pc' := 15) rfl rfl rfl rfl ?_
    refine ev_pu (st' := [.inl 1, .inr (.inr (some 0))]) (pc' := 16) rfl rfl rfl rfl ?_
    refine ev_put (M' := ev_sS M1 0 1) (pc' := 19) rfl rfl (Nat.le_of_ble_eq_true rfl) rfl (hp_s0 _ _) rfl ?_
    exact ev_pick [] rfl rfl h
set_option maxRecDepth 10000 in
theorem b68_19 {M : ev_M} {Q : ev_M → Prop}
    (h : Q M) : c68_19 M Q := by
  unfold c68_19
  exact ev_rt rfl rfl rfl ⟨rfl, h⟩
/-! NulledForest.nullable(I)Z -/
def m69 (x1 : Int) (M : ev_M) (Q : Int → ev_M → Prop) : Prop := ev 69 0 [(0, .inr (.inr (some 0))), (1, .inl x1)] [] M (fun v M1 => ∃ w : Int, v = some (.inl w) ∧ Q w M1)
set_option maxRecDepth 10000 in
theorem b69 {x1 : Int} {M : ev_M} {Q : Int → ev_M → Prop}
    (h : m5 x1 M (fun w1 M1 => (¬ w1 = 0 → (m68 M1 (fun M2 => m20 x1 M2 (fun w3 M3 => (w3 = 0 ∨ w3 = 1) ∧ Q w3 M3)))) ∧ (¬ (¬ w1 = 0) → (Q 0 M1)))) : m69 x1 M Q := by
  unfold m69
  refine ev_lo (lo' := [(0, .inr (.inr (some 0))), (1, .inl x1)]) (st' := [.inl x1]) (pc' := 1) rfl rfl rfl rfl ?_
  refine ev_call (as := [.inl x1]) (r := []) (pc' := 4) rfl rfl (Nat.le_of_ble_eq_true rfl) (Nat.le_of_ble_eq_true rfl) ⟨rfl, rfl⟩ (Nat.le_of_ble_eq_true rfl) rfl rfl rfl rfl ?_
  refine ev.post h (fun v M1 h => ?_)
  obtain ⟨w1, rfl, h⟩ := h
  show ev 69 4 [(0, .inr (.inr (some 0))), (1, .inl x1)] [.inl w1] M1 _
  refine ev_ifT (pc' := 9) (pc2 := 7) rfl (by decide) rfl rfl (fun hc => ?_) (fun hc => ?_)
  · replace h := h.1 (of_decide_eq_true hc)
    refine ev_lo (lo' := [(0, .inr (.inr (some 0))), (1, .inl x1)]) (st' := [.inr (.inr (some 0))]) (pc' := 10) rfl rfl rfl rfl ?_
    refine ev_call (as := [.inr (.inr (some 0))]) (r := []) (pc' := 13) rfl rfl (Nat.le_of_ble_eq_true rfl) (Nat.le_of_ble_eq_true rfl) ⟨rfl, rfl⟩ (Nat.le_of_ble_eq_true rfl) rfl rfl rfl rfl ?_
    refine ev.post h (fun v M2 h => ?_)
    obtain ⟨rfl, h⟩ := h
    show ev 69 13 [(0, .inr (.inr (some 0))), (1, .inl x1)] [] M2 _
    refine ev_lo (lo' := [(0, .inr (.inr (some 0))), (1, .inl x1)]) (st' := [.inr (.inr (some 0))]) (pc' := 14) rfl rfl rfl rfl ?_
    refine ev_get (v := .inr (.inr (some 10))) (pc' := 17) rfl rfl rfl rfl ?_
    refine ev_lo (lo' := [(0, .inr (.inr (some 0))), (1, .inl x1)]) (st' := [.inl x1, .inr (.inr (some 10))]) (pc' := 18) rfl rfl rfl rfl ?_
    refine ev_call (as := [.inr (.inr (some 10)), .inl x1]) (r := []) (pc' := 21) rfl rfl (Nat.le_of_ble_eq_true rfl) (Nat.le_of_ble_eq_true rfl) ⟨rfl, rfl⟩ (Nat.le_of_ble_eq_true rfl) rfl rfl rfl rfl ?_
    refine ev.post h (fun v M3 h => ?_)
    obtain ⟨w3, rfl, h⟩ := h
    show ev 69 21 [(0, .inr (.inr (some 0))), (1, .inl x1)] [.inl w3] M3 _
    obtain ⟨hs, h⟩ := h
    exact ev_rtZ rfl rfl hs ⟨_, rfl, h⟩
  · replace h := h.2 (of_decide_eq_false hc)
    refine ev_pu (st' := [.inl 0]) (pc' := 8) rfl rfl rfl rfl ?_
    exact ev_rt rfl rfl rfl ⟨_, rfl, h⟩
/-! NulledForest.states()I -/
def m70 (M : ev_M) (Q : Int → ev_M → Prop) : Prop := ev 70 0 [(0, .inr (.inr (some 0)))] [] M (fun v M1 => ∃ w : Int, v = some (.inl w) ∧ Q w M1)
set_option maxRecDepth 10000 in
theorem b70 {M : ev_M} {Q : Int → ev_M → Prop}
    (h : Q (sA_count M) M) : m70 M Q := by
  unfold m70
  refine ev_lo (lo' := [(0, .inr (.inr (some 0)))]) (st' := [.inr (.inr (some 0))]) (pc' := 1) rfl rfl rfl rfl ?_
  refine ev_get (v := .inr (.inr (some 5))) (pc' := 4) rfl rfl rfl rfl ?_
  refine ev_get (v := .inl (sA_count M)) (pc' := 7) rfl rfl rfl rfl ?_
  exact ev_rt rfl rfl rfl ⟨_, rfl, h⟩
/-! NulledForest.isState(I)Z -/
def m71 (x1 : Int) (M : ev_M) (Q : Int → ev_M → Prop) : Prop := ev 71 0 [(0, .inr (.inr (some 0))), (1, .inl x1)] [] M (fun v M1 => ∃ w : Int, v = some (.inl w) ∧ Q w M1)
def c71_19 (M : ev_M) (Q : Int → ev_M → Prop) : Prop := ev 71 19 [] [] M (fun v M1 => ∃ w : Int, v = some (.inl w) ∧ Q w M1)
def c71_20 (t0 : Int) (M : ev_M) (Q : Int → ev_M → Prop) : Prop := ev 71 20 [] [.inl t0] M (fun v M1 => ∃ w : Int, v = some (.inl w) ∧ Q w M1)
set_option maxRecDepth 10000 in
theorem b71 {x1 : Int} {M : ev_M} {Q : Int → ev_M → Prop}
    (h : (x1 < 0 → (c71_19 M Q)) ∧ (¬ (x1 < 0) → (((sA_count M) ≤ x1 → (c71_19 M Q)) ∧ (¬ ((sA_count M) ≤ x1) → (c71_20 1 M Q))))) : m71 x1 M Q := by
  unfold m71
  refine ev_lo (lo' := [(0, .inr (.inr (some 0))), (1, .inl x1)]) (st' := [.inl x1]) (pc' := 1) rfl rfl rfl rfl ?_
  refine ev_ifT (pc' := 19) (pc2 := 4) rfl (by decide) rfl rfl (fun hc => ?_) (fun hc => ?_)
  · replace h := h.1 (of_decide_eq_true hc)
    exact ev_pick [] rfl rfl h
  · replace h := h.2 (of_decide_eq_false hc)
    refine ev_lo (lo' := [(0, .inr (.inr (some 0))), (1, .inl x1)]) (st' := [.inl x1]) (pc' := 5) rfl rfl rfl rfl ?_
    refine ev_lo (lo' := [(0, .inr (.inr (some 0))), (1, .inl x1)]) (st' := [.inr (.inr (some 0)), .inl x1]) (pc' := 6) rfl rfl rfl rfl ?_
    refine ev_get (v := .inr (.inr (some 5))) (pc' := 9) rfl rfl rfl rfl ?_
    refine ev_get (v := .inl (sA_count M)) (pc' := 12) rfl rfl rfl rfl ?_
    refine ev_icmp (pc' := 19) (pc2 := 15) rfl (by decide) rfl rfl (fun hc => ?_) (fun hc => ?_)
    · replace h := h.1 (of_decide_eq_true hc)
      exact ev_pick [] rfl rfl h
    · replace h := h.2 (of_decide_eq_false hc)
      refine ev_pu (st' := [.inl 1]) (pc' := 16) rfl rfl rfl rfl ?_
      refine ev_br (pc' := 20) (st' := [.inl 1]) rfl rfl rfl ?_
      exact ev_pick [] rfl rfl h
set_option maxRecDepth 10000 in
theorem b71_19 {M : ev_M} {Q : Int → ev_M → Prop}
    (h : c71_20 0 M Q) : c71_19 M Q := by
  unfold c71_19
  refine ev_pu (st' := [.inl 0]) (pc' := 20) rfl rfl rfl rfl ?_
  exact ev_pick [] rfl rfl h
set_option maxRecDepth 10000 in
theorem b71_20 {t0 : Int} {M : ev_M} {Q : Int → ev_M → Prop}
    (h : (t0 = 0 ∨ t0 = 1) ∧ Q t0 M) : c71_20 t0 M Q := by
  unfold c71_20
  obtain ⟨hs, h⟩ := h
  exact ev_rtZ rfl rfl hs ⟨_, rfl, h⟩
/-! NulledForest.leads(II)I -/
def m72 (x1 x2 : Int) (M : ev_M) (Q : Int → ev_M → Prop) : Prop := ev 72 0 [(0, .inr (.inr (some 0))), (1, .inl x1), (2, .inl x2)] [] M (fun v M1 => ∃ w : Int, v = some (.inl w) ∧ Q w M1)
def c72_30 (M : ev_M) (Q : Int → ev_M → Prop) : Prop := ev 72 30 [] [] M (fun v M1 => ∃ w : Int, v = some (.inl w) ∧ Q w M1)
def c72_31 (t0 : Int) (M : ev_M) (Q : Int → ev_M → Prop) : Prop := ev 72 31 [] [.inl t0] M (fun v M1 => ∃ w : Int, v = some (.inl w) ∧ Q w M1)
set_option maxRecDepth 10000 in
theorem b72 {x1 x2 : Int} {M : ev_M} {Q : Int → ev_M → Prop}
    (h : m71 x1 M (fun w1 M1 => (w1 = 0 → (c72_30 M1 Q)) ∧ (¬ (w1 = 0) → ((x2 < 0 → (c72_30 M1 Q)) ∧ (¬ (x2 < 0) → ((10 ≤ x2 → (c72_30 M1 Q)) ∧ (¬ (10 ≤ x2) → (m13 x1 x2 M1 (fun w2 M2 => c72_31 w2 M2 Q))))))))) : m72 x1 x2 M Q := by
  unfold m72
  refine ev_lo (lo' := [(0, .inr (.inr (some 0))), (1, .inl x1), (2, .inl x2)]) (st' := [.inr (.inr (some 0))]) (pc' := 1) rfl rfl rfl rfl ?_
  refine ev_lo (lo' := [(0, .inr (.inr (some 0))), (1, .inl x1), (2, .inl x2)]) (st' := [.inl x1, .inr (.inr (some 0))]) (pc' := 2) rfl rfl rfl rfl ?_
  refine ev_call (as := [.inr (.inr (some 0)), .inl x1]) (r := []) (pc' := 5) rfl rfl (Nat.le_of_ble_eq_true rfl) (Nat.le_of_ble_eq_true rfl) ⟨rfl, rfl⟩ (Nat.le_of_ble_eq_true rfl) rfl rfl rfl rfl ?_
  refine ev.post h (fun v M1 h => ?_)
  obtain ⟨w1, rfl, h⟩ := h
  show ev 72 5 [(0, .inr (.inr (some 0))), (1, .inl x1), (2, .inl x2)] [.inl w1] M1 _
  refine ev_ifT (pc' := 30) (pc2 := 8) rfl (by decide) rfl rfl (fun hc => ?_) (fun hc => ?_)
  · replace h := h.1 (of_decide_eq_true hc)
    exact ev_pick [] rfl rfl h
  · replace h := h.2 (of_decide_eq_false hc)
    refine ev_lo (lo' := [(0, .inr (.inr (some 0))), (1, .inl x1), (2, .inl x2)]) (st' := [.inl x2]) (pc' := 9) rfl rfl rfl rfl ?_
    refine ev_ifT (pc' := 30) (pc2 := 12) rfl (by decide) rfl rfl (fun hc => ?_) (fun hc => ?_)
    · replace h := h.1 (of_decide_eq_true hc)
      exact ev_pick [] rfl rfl h
    · replace h := h.2 (of_decide_eq_false hc)
      refine ev_lo (lo' := [(0, .inr (.inr (some 0))), (1, .inl x1), (2, .inl x2)]) (st' := [.inl x2]) (pc' := 13) rfl rfl rfl rfl ?_
      refine ev_pu (st' := [.inl 10, .inl x2]) (pc' := 15) rfl rfl rfl rfl ?_
      refine ev_icmp (pc' := 30) (pc2 := 18) rfl (by decide) rfl rfl (fun hc => ?_) (fun hc => ?_)
      · replace h := h.1 (of_decide_eq_true hc)
        exact ev_pick [] rfl rfl h
      · replace h := h.2 (of_decide_eq_false hc)
        refine ev_lo (lo' := [(0, .inr (.inr (some 0))), (1, .inl x1), (2, .inl x2)]) (st' := [.inr (.inr (some 0))]) (pc' := 19) rfl rfl rfl rfl ?_
        refine ev_get (v := .inr (.inr (some 5))) (pc' := 22) rfl rfl rfl rfl ?_
        refine ev_lo (lo' := [(0, .inr (.inr (some 0))), (1, .inl x1), (2, .inl x2)]) (st' := [.inl x1, .inr (.inr (some 5))]) (pc' := 23) rfl rfl rfl rfl ?_
        refine ev_lo (lo' := [(0, .inr (.inr (some 0))), (1, .inl x1), (2, .inl x2)]) (st' := [.inl x2, .inl x1, .inr (.inr (some 5))]) (pc' := 24) rfl rfl rfl rfl ?_
        refine ev_call (as := [.inr (.inr (some 5)), .inl x1, .inl x2]) (r := []) (pc' := 27) rfl rfl (Nat.le_of_ble_eq_true rfl) (Nat.le_of_ble_eq_true rfl) ⟨rfl, rfl⟩ (Nat.le_of_ble_eq_true rfl) rfl rfl rfl rfl ?_
        refine ev.post h (fun v M2 h => ?_)
        obtain ⟨w2, rfl, h⟩ := h
        show ev 72 27 [(0, .inr (.inr (some 0))), (1, .inl x1), (2, .inl x2)] [.inl w2] M2 _
        refine ev_br (pc' := 31) (st' := [.inl w2]) rfl rfl rfl ?_
        exact ev_pick [] rfl rfl h
set_option maxRecDepth 10000 in
theorem b72_30 {M : ev_M} {Q : Int → ev_M → Prop}
    (h : c72_31 (-1) M Q) : c72_30 M Q := by
  unfold c72_30
  refine ev_pu (st' := [.inl (-1)]) (pc' := 31) rfl rfl rfl rfl ?_
  exact ev_pick [] rfl rfl h
set_option maxRecDepth 10000 in
theorem b72_31 {t0 : Int} {M : ev_M} {Q : Int → ev_M → Prop}
    (h : Q t0 M) : c72_31 t0 M Q := by
  unfold c72_31
  exact ev_rt rfl rfl rfl ⟨_, rfl, h⟩
/-! NulledForest.reduces(I)I -/
def m73 (x1 : Int) (M : ev_M) (Q : Int → ev_M → Prop) : Prop := ev 73 0 [(0, .inr (.inr (some 0))), (1, .inl x1)] [] M (fun v M1 => ∃ w : Int, v = some (.inl w) ∧ Q w M1)
set_option maxRecDepth 10000 in
theorem b73 {x1 : Int} {M : ev_M} {Q : Int → ev_M → Prop}
    (h : m71 x1 M (fun w1 M1 => (¬ w1 = 0 → (m68 M1 (fun M2 => m21 x1 M2 (fun w3 M3 => Q w3 M3)))) ∧ (¬ (¬ w1 = 0) → (Q (-1) M1)))) : m73 x1 M Q := by
  unfold m73
  refine ev_lo (lo' := [(0, .inr (.inr (some 0))), (1, .inl x1)]) (st' := [.inr (.inr (some 0))]) (pc' := 1) rfl rfl rfl rfl ?_
  refine ev_lo (lo' := [(0, .inr (.inr (some 0))), (1, .inl x1)]) (st' := [.inl x1, .inr (.inr (some 0))]) (pc' := 2) rfl rfl rfl rfl ?_
  refine ev_call (as := [.inr (.inr (some 0)), .inl x1]) (r := []) (pc' := 5) rfl rfl (Nat.le_of_ble_eq_true rfl) (Nat.le_of_ble_eq_true rfl) ⟨rfl, rfl⟩ (Nat.le_of_ble_eq_true rfl) rfl rfl rfl rfl ?_
  refine ev.post h (fun v M1 h => ?_)
  obtain ⟨w1, rfl, h⟩ := h
  show ev 73 5 [(0, .inr (.inr (some 0))), (1, .inl x1)] [.inl w1] M1 _
  refine ev_ifT (pc' := 10) (pc2 := 8) rfl (by decide) rfl rfl (fun hc => ?_) (fun hc => ?_)
  · replace h := h.1 (of_decide_eq_true hc)
    refine ev_lo (lo' := [(0, .inr (.inr (some 0))), (1, .inl x1)]) (st' := [.inr (.inr (some 0))]) (pc' := 11) rfl rfl rfl rfl ?_
    refine ev_call (as := [.inr (.inr (some 0))]) (r := []) (pc' := 14) rfl rfl (Nat.le_of_ble_eq_true rfl) (Nat.le_of_ble_eq_true rfl) ⟨rfl, rfl⟩ (Nat.le_of_ble_eq_true rfl) rfl rfl rfl rfl ?_
    refine ev.post h (fun v M2 h => ?_)
    obtain ⟨rfl, h⟩ := h
    show ev 73 14 [(0, .inr (.inr (some 0))), (1, .inl x1)] [] M2 _
    refine ev_lo (lo' := [(0, .inr (.inr (some 0))), (1, .inl x1)]) (st' := [.inr (.inr (some 0))]) (pc' := 15) rfl rfl rfl rfl ?_
    refine ev_get (v := .inr (.inr (some 5))) (pc' := 18) rfl rfl rfl rfl ?_
    refine ev_lo (lo' := [(0, .inr (.inr (some 0))), (1, .inl x1)]) (st' := [.inl x1, .inr (.inr (some 5))]) (pc' := 19) rfl rfl rfl rfl ?_
    refine ev_lo (lo' := [(0, .inr (.inr (some 0))), (1, .inl x1)]) (st' := [.inr (.inr (some 0)), .inl x1, .inr (.inr (some 5))]) (pc' := 20) rfl rfl rfl rfl ?_
    refine ev_get (v := .inr (.inr (some 10))) (pc' := 23) rfl rfl rfl rfl ?_
    refine ev_call (as := [.inr (.inr (some 5)), .inl x1, .inr (.inr (some 10))]) (r := []) (pc' := 26) rfl rfl (Nat.le_of_ble_eq_true rfl) (Nat.le_of_ble_eq_true rfl) ⟨rfl, rfl⟩ (Nat.le_of_ble_eq_true rfl) rfl rfl rfl rfl ?_
    refine ev.post h (fun v M3 h => ?_)
    obtain ⟨w3, rfl, h⟩ := h
    show ev 73 26 [(0, .inr (.inr (some 0))), (1, .inl x1)] [.inl w3] M3 _
    exact ev_rt rfl rfl rfl ⟨_, rfl, h⟩
  · replace h := h.2 (of_decide_eq_false hc)
    refine ev_pu (st' := [.inl (-1)]) (pc' := 9) rfl rfl rfl rfl ?_
    exact ev_rt rfl rfl rfl ⟨_, rfl, h⟩
/-! NulledForest.isPlace(I)Z -/
def m74 (x1 : Int) (M : ev_M) (Q : Int → ev_M → Prop) : Prop := ev 74 0 [(0, .inr (.inr (some 0))), (1, .inl x1)] [] M (fun v M1 => ∃ w : Int, v = some (.inl w) ∧ Q w M1)
def c74_19 (M : ev_M) (Q : Int → ev_M → Prop) : Prop := ev 74 19 [] [] M (fun v M1 => ∃ w : Int, v = some (.inl w) ∧ Q w M1)
def c74_20 (t0 : Int) (M : ev_M) (Q : Int → ev_M → Prop) : Prop := ev 74 20 [] [.inl t0] M (fun v M1 => ∃ w : Int, v = some (.inl w) ∧ Q w M1)
set_option maxRecDepth 10000 in
theorem b74 {x1 : Int} {M : ev_M} {Q : Int → ev_M → Prop}
    (h : (x1 < 0 → (c74_19 M Q)) ∧ (¬ (x1 < 0) → (((sC_size M) < x1 → (c74_19 M Q)) ∧ (¬ ((sC_size M) < x1) → (c74_20 1 M Q))))) : m74 x1 M Q := by
  unfold m74
  refine ev_lo (lo' := [(0, .inr (.inr (some 0))), (1, .inl x1)]) (st' := [.inl x1]) (pc' := 1) rfl rfl rfl rfl ?_
  refine ev_ifT (pc' := 19) (pc2 := 4) rfl (by decide) rfl rfl (fun hc => ?_) (fun hc => ?_)
  · replace h := h.1 (of_decide_eq_true hc)
    exact ev_pick [] rfl rfl h
  · replace h := h.2 (of_decide_eq_false hc)
    refine ev_lo (lo' := [(0, .inr (.inr (some 0))), (1, .inl x1)]) (st' := [.inl x1]) (pc' := 5) rfl rfl rfl rfl ?_
    refine ev_lo (lo' := [(0, .inr (.inr (some 0))), (1, .inl x1)]) (st' := [.inr (.inr (some 0)), .inl x1]) (pc' := 6) rfl rfl rfl rfl ?_
    refine ev_get (v := .inr (.inr (some 10))) (pc' := 9) rfl rfl rfl rfl ?_
    refine ev_get (v := .inl (sC_size M)) (pc' := 12) rfl rfl rfl rfl ?_
    refine ev_icmp (pc' := 19) (pc2 := 15) rfl (by decide) rfl rfl (fun hc => ?_) (fun hc => ?_)
    · replace h := h.1 (of_decide_eq_true hc)
      exact ev_pick [] rfl rfl h
    · replace h := h.2 (of_decide_eq_false hc)
      refine ev_pu (st' := [.inl 1]) (pc' := 16) rfl rfl rfl rfl ?_
      refine ev_br (pc' := 20) (st' := [.inl 1]) rfl rfl rfl ?_
      exact ev_pick [] rfl rfl h
set_option maxRecDepth 10000 in
theorem b74_19 {M : ev_M} {Q : Int → ev_M → Prop}
    (h : c74_20 0 M Q) : c74_19 M Q := by
  unfold c74_19
  refine ev_pu (st' := [.inl 0]) (pc' := 20) rfl rfl rfl rfl ?_
  exact ev_pick [] rfl rfl h
set_option maxRecDepth 10000 in
theorem b74_20 {t0 : Int} {M : ev_M} {Q : Int → ev_M → Prop}
    (h : (t0 = 0 ∨ t0 = 1) ∧ Q t0 M) : c74_20 t0 M Q := by
  unfold c74_20
  obtain ⟨hs, h⟩ := h
  exact ev_rtZ rfl rfl hs ⟨_, rfl, h⟩
/-! NulledForest.readyFront()V -/
def m75 (M : ev_M) (Q : ev_M → Prop) : Prop := ev 75 0 [(0, .inr (.inr (some 0)))] [] M (fun v M1 => v = none ∧ Q M1)
def c75_23 (M : ev_M) (Q : ev_M → Prop) : Prop := ev 75 23 [] [] M (fun v M1 => v = none ∧ Q M1)
set_option maxRecDepth 10000 in
theorem b75 {M : ev_M} {Q : ev_M → Prop}
    (h : (¬ (sX_frontReady M) = 0 → (c75_23 M Q)) ∧ (¬ (¬ (sX_frontReady M) = 0) → (m68 M (fun M1 => m32 M1 (fun M2 => c75_23 (ev_sS M2 1 1) Q))))) : m75 M Q := by
  unfold m75
  refine ev_lo (lo' := [(0, .inr (.inr (some 0)))]) (st' := [.inr (.inr (some 0))]) (pc' := 1) rfl rfl rfl rfl ?_
  refine ev_get (v := .inl (sX_frontReady M)) (pc' := 4) rfl rfl rfl rfl ?_
  refine ev_ifT (pc' := 23) (pc2 := 7) rfl (by decide) rfl rfl (fun hc => ?_) (fun hc => ?_)
  · replace h := h.1 (of_decide_eq_true hc)
    exact ev_pick [] rfl rfl h
  · replace h := h.2 (of_decide_eq_false hc)
    refine ev_lo (lo' := [(0, .inr (.inr (some 0)))]) (st' := [.inr (.inr (some 0))]) (pc' := 8) rfl rfl rfl rfl ?_
    refine ev_call (as := [.inr (.inr (some 0))]) (r := []) (pc' := 11) rfl rfl (Nat.le_of_ble_eq_true rfl) (Nat.le_of_ble_eq_true rfl) ⟨rfl, rfl⟩ (Nat.le_of_ble_eq_true rfl) rfl rfl rfl rfl ?_
    refine ev.post h (fun v M1 h => ?_)
    obtain ⟨rfl, h⟩ := h
    show ev 75 11 [(0, .inr (.inr (some 0)))] [] M1 _
    refine ev_lo (lo' := [(0, .inr (.inr (some 0)))]) (st' := [.inr (.inr (some 0))]) (pc' := 12) rfl rfl rfl rfl ?_
    refine ev_get (v := .inr (.inr (some 13))) (pc' := 15) rfl rfl rfl rfl ?_
    refine ev_call (as := [.inr (.inr (some 13))]) (r := []) (pc' := 18) rfl rfl (Nat.le_of_ble_eq_true rfl) (Nat.le_of_ble_eq_true rfl) ⟨rfl, rfl⟩ (Nat.le_of_ble_eq_true rfl) rfl rfl rfl rfl ?_
    refine ev.post h (fun v M2 h => ?_)
    obtain ⟨rfl, h⟩ := h
    show ev 75 18 [(0, .inr (.inr (some 0)))] [] M2 _
    refine ev_lo (lo' := [(0, .inr (.inr (some 0)))]) (st' := [.inr (.inr (some 0))]) (pc' := 19) rfl rfl rfl rfl ?_
    refine ev_pu (st' := [.inl 1, .inr (.inr (some 0))]) (pc' := 20) rfl rfl rfl rfl ?_
    refine ev_put (M' := ev_sS M2 1 1) (pc' := 23) rfl rfl (Nat.le_of_ble_eq_true rfl) rfl (hp_s1 _ _) rfl ?_
    exact ev_pick [] rfl rfl h
set_option maxRecDepth 10000 in
theorem b75_23 {M : ev_M} {Q : ev_M → Prop}
    (h : Q M) : c75_23 M Q := by
  unfold c75_23
  exact ev_rt rfl rfl rfl ⟨rfl, h⟩
/-! NulledForest.stands(II)Z -/
def m76 (x1 x2 : Int) (M : ev_M) (Q : Int → ev_M → Prop) : Prop := ev 76 0 [(0, .inr (.inr (some 0))), (1, .inl x1), (2, .inl x2)] [] M (fun v M1 => ∃ w : Int, v = some (.inl w) ∧ Q w M1)
def c76_16 (M : ev_M) (Q : Int → ev_M → Prop) : Prop := ev 76 16 [] [] M (fun v M1 => ∃ w : Int, v = some (.inl w) ∧ Q w M1)
def c76_45 (t0 : Int) (M : ev_M) (Q : Int → ev_M → Prop) : Prop := ev 76 45 [] [.inl t0] M (fun v M1 => ∃ w : Int, v = some (.inl w) ∧ Q w M1)
set_option maxRecDepth 10000 in
theorem b76 {x1 x2 : Int} {M : ev_M} {Q : Int → ev_M → Prop}
    (h : m74 x1 M (fun w1 M1 => (w1 = 0 → (c76_16 M1 Q)) ∧ (¬ (w1 = 0) → (m71 x2 M1 (fun w2 M2 => (¬ w2 = 0 → (m75 M2 (fun M3 => (0 ≤ x1 ∧ x1 < 11) ∧ ((0 ≤ (aF_at M3 (x1).toNat) ∧ (aF_at M3 (x1).toNat) < 9223372036854775808) ∧ (0 ≤ x2 ∧ x2 < 64) ∧ ((0 ≤ (tm_sr (aF_at M3 (x1).toNat) x2) ∧ (tm_sr (aF_at M3 (x1).toNat) x2) < 9223372036854775808) ∧ (((tm_an (tm_sr (aF_at M3 (x1).toNat) x2) 1) = 0 → (c76_45 0 M3 Q)) ∧ (¬ ((tm_an (tm_sr (aF_at M3 (x1).toNat) x2) 1) = 0) → (c76_45 1 M3 Q)))))))) ∧ (¬ (¬ w2 = 0) → (c76_16 M2 Q))))))) : m76 x1 x2 M Q := by
  unfold m76
  refine ev_lo (lo' := [(0, .inr (.inr (some 0))), (1, .inl x1), (2, .inl x2)]) (st' := [.inr (.inr (some 0))]) (pc' := 1) rfl rfl rfl rfl ?_
  refine ev_lo (lo' := [(0, .inr (.inr (some 0))), (1, .inl x1), (2, .inl x2)]) (st' := [.inl x1, .inr (.inr (some 0))]) (pc' := 2) rfl rfl rfl rfl ?_
  refine ev_call (as := [.inr (.inr (some 0)), .inl x1]) (r := []) (pc' := 5) rfl rfl (Nat.le_of_ble_eq_true rfl) (Nat.le_of_ble_eq_true rfl) ⟨rfl, rfl⟩ (Nat.le_of_ble_eq_true rfl) rfl rfl rfl rfl ?_
  refine ev.post h (fun v M1 h => ?_)
  obtain ⟨w1, rfl, h⟩ := h
  show ev 76 5 [(0, .inr (.inr (some 0))), (1, .inl x1), (2, .inl x2)] [.inl w1] M1 _
  refine ev_ifT (pc' := 16) (pc2 := 8) rfl (by decide) rfl rfl (fun hc => ?_) (fun hc => ?_)
  · replace h := h.1 (of_decide_eq_true hc)
    exact ev_pick [] rfl rfl h
  · replace h := h.2 (of_decide_eq_false hc)
    refine ev_lo (lo' := [(0, .inr (.inr (some 0))), (1, .inl x1), (2, .inl x2)]) (st' := [.inr (.inr (some 0))]) (pc' := 9) rfl rfl rfl rfl ?_
    refine ev_lo (lo' := [(0, .inr (.inr (some 0))), (1, .inl x1), (2, .inl x2)]) (st' := [.inl x2, .inr (.inr (some 0))]) (pc' := 10) rfl rfl rfl rfl ?_
    refine ev_call (as := [.inr (.inr (some 0)), .inl x2]) (r := []) (pc' := 13) rfl rfl (Nat.le_of_ble_eq_true rfl) (Nat.le_of_ble_eq_true rfl) ⟨rfl, rfl⟩ (Nat.le_of_ble_eq_true rfl) rfl rfl rfl rfl ?_
    refine ev.post h (fun v M2 h => ?_)
    obtain ⟨w2, rfl, h⟩ := h
    show ev 76 13 [(0, .inr (.inr (some 0))), (1, .inl x1), (2, .inl x2)] [.inl w2] M2 _
    refine ev_ifT (pc' := 18) (pc2 := 16) rfl (by decide) rfl rfl (fun hc => ?_) (fun hc => ?_)
    · replace h := h.1 (of_decide_eq_true hc)
      refine ev_lo (lo' := [(0, .inr (.inr (some 0))), (1, .inl x1), (2, .inl x2)]) (st' := [.inr (.inr (some 0))]) (pc' := 19) rfl rfl rfl rfl ?_
      refine ev_call (as := [.inr (.inr (some 0))]) (r := []) (pc' := 22) rfl rfl (Nat.le_of_ble_eq_true rfl) (Nat.le_of_ble_eq_true rfl) ⟨rfl, rfl⟩ (Nat.le_of_ble_eq_true rfl) rfl rfl rfl rfl ?_
      refine ev.post h (fun v M3 h => ?_)
      obtain ⟨rfl, h⟩ := h
      show ev 76 22 [(0, .inr (.inr (some 0))), (1, .inl x1), (2, .inl x2)] [] M3 _
      refine ev_lo (lo' := [(0, .inr (.inr (some 0))), (1, .inl x1), (2, .inl x2)]) (st' := [.inr (.inr (some 0))]) (pc' := 23) rfl rfl rfl rfl ?_
      refine ev_get (v := .inr (.inr (some 13))) (pc' := 26) rfl rfl rfl rfl ?_
      refine ev_get (v := .inr (.inr (some 14))) (pc' := 29) rfl rfl rfl rfl ?_
      refine ev_lo (lo' := [(0, .inr (.inr (some 0))), (1, .inl x1), (2, .inl x2)]) (st' := [.inl x1, .inr (.inr (some 14))]) (pc' := 30) rfl rfl rfl rfl ?_
      obtain ⟨hs0, h⟩ := h
      refine ev_ald (t := 1) (n := 11) (f := aF_at M3) (w := fun x => .inr (.inl x)) (pc' := 31) rfl rfl (fun _ _ => rfl) rfl hs0 rfl ?_
      refine ev_lo (lo' := [(0, .inr (.inr (some 0))), (1, .inl x1), (2, .inl x2)]) (st' := [.inl x2, .inr (.inl (aF_at M3 (x1).toNat))]) (pc' := 32) rfl rfl rfl rfl ?_
      obtain ⟨hs0, hs1, h⟩ := h
      refine ev_lshr (pc' := 33) rfl (tm_lsr_eq hs0 hs1) rfl ?_
      refine ev_pu (st' := [.inr (.inl 1), .inr (.inl (tm_sr (aF_at M3 (x1).toNat) x2))]) (pc' := 34) rfl rfl rfl rfl ?_
      obtain ⟨hs0, h⟩ := h
      refine ev_ll (f := fun a b => a &&& b) (pc' := 35) rfl rfl (fun _ => rfl) (tm_lan_eq hs0 (by decide)) rfl ?_
      refine ev_pu (st' := [.inr (.inl 0), .inr (.inl (tm_an (tm_sr (aF_at M3 (x1).toNat) x2) 1))]) (pc' := 36) rfl rfl rfl rfl ?_
      refine ev_lcmp (pc1 := 37) (pc' := 44) (pc2 := 40) rfl rfl rfl (by decide) rfl rfl (fun hc => ?_) (fun hc => ?_)
      · replace h := h.1 (of_decide_eq_true hc)
        refine ev_pu (st' := [.inl 0]) (pc' := 45) rfl rfl rfl rfl ?_
        exact ev_pick [] rfl rfl h
      · replace h := h.2 (of_decide_eq_false hc)
        refine ev_pu (st' := [.inl 1]) (pc' := 41) rfl rfl rfl rfl ?_
        refine ev_br (pc' := 45) (st' := [.inl 1]) rfl rfl rfl ?_
        exact ev_pick [] rfl rfl h
    · replace h := h.2 (of_decide_eq_false hc)
      exact ev_pick [] rfl rfl h
set_option maxRecDepth 10000 in
theorem b76_16 {M : ev_M} {Q : Int → ev_M → Prop}
    (h : Q 0 M) : c76_16 M Q := by
  unfold c76_16
  refine ev_pu (st' := [.inl 0]) (pc' := 17) rfl rfl rfl rfl ?_
  exact ev_rt rfl rfl rfl ⟨_, rfl, h⟩
set_option maxRecDepth 10000 in
theorem b76_45 {t0 : Int} {M : ev_M} {Q : Int → ev_M → Prop}
    (h : (t0 = 0 ∨ t0 = 1) ∧ Q t0 M) : c76_45 t0 M Q := by
  unfold c76_45
  obtain ⟨hs, h⟩ := h
  exact ev_rtZ rfl rfl hs ⟨_, rfl, h⟩
/-! NulledForest.frontier(I)I -/
def m77 (x1 : Int) (M : ev_M) (Q : Int → ev_M → Prop) : Prop := ev 77 0 [(0, .inr (.inr (some 0))), (1, .inl x1)] [] M (fun v M1 => ∃ w : Int, v = some (.inl w) ∧ Q w M1)
set_option maxRecDepth 10000 in
theorem b77 {x1 : Int} {M : ev_M} {Q : Int → ev_M → Prop}
    (h : m74 x1 M (fun w1 M1 => (¬ w1 = 0 → (m75 M1 (fun M2 => (0 ≤ x1 ∧ x1 < 11) ∧ (m0 (aF_at M2 (x1).toNat) M2 (fun w3 M3 => Q w3 M3))))) ∧ (¬ (¬ w1 = 0) → (Q (-1) M1)))) : m77 x1 M Q := by
  unfold m77
  refine ev_lo (lo' := [(0, .inr (.inr (some 0))), (1, .inl x1)]) (st' := [.inr (.inr (some 0))]) (pc' := 1) rfl rfl rfl rfl ?_
  refine ev_lo (lo' := [(0, .inr (.inr (some 0))), (1, .inl x1)]) (st' := [.inl x1, .inr (.inr (some 0))]) (pc' := 2) rfl rfl rfl rfl ?_
  refine ev_call (as := [.inr (.inr (some 0)), .inl x1]) (r := []) (pc' := 5) rfl rfl (Nat.le_of_ble_eq_true rfl) (Nat.le_of_ble_eq_true rfl) ⟨rfl, rfl⟩ (Nat.le_of_ble_eq_true rfl) rfl rfl rfl rfl ?_
  refine ev.post h (fun v M1 h => ?_)
  obtain ⟨w1, rfl, h⟩ := h
  show ev 77 5 [(0, .inr (.inr (some 0))), (1, .inl x1)] [.inl w1] M1 _
  refine ev_ifT (pc' := 10) (pc2 := 8) rfl (by decide) rfl rfl (fun hc => ?_) (fun hc => ?_)
  · replace h := h.1 (of_decide_eq_true hc)
    refine ev_lo (lo' := [(0, .inr (.inr (some 0))), (1, .inl x1)]) (st' := [.inr (.inr (some 0))]) (pc' := 11) rfl rfl rfl rfl ?_
    refine ev_call (as := [.inr (.inr (some 0))]) (r := []) (pc' := 14) rfl rfl (Nat.le_of_ble_eq_true rfl) (Nat.le_of_ble_eq_true rfl) ⟨rfl, rfl⟩ (Nat.le_of_ble_eq_true rfl) rfl rfl rfl rfl ?_
    refine ev.post h (fun v M2 h => ?_)
    obtain ⟨rfl, h⟩ := h
    show ev 77 14 [(0, .inr (.inr (some 0))), (1, .inl x1)] [] M2 _
    refine ev_lo (lo' := [(0, .inr (.inr (some 0))), (1, .inl x1)]) (st' := [.inr (.inr (some 0))]) (pc' := 15) rfl rfl rfl rfl ?_
    refine ev_get (v := .inr (.inr (some 13))) (pc' := 18) rfl rfl rfl rfl ?_
    refine ev_get (v := .inr (.inr (some 14))) (pc' := 21) rfl rfl rfl rfl ?_
    refine ev_lo (lo' := [(0, .inr (.inr (some 0))), (1, .inl x1)]) (st' := [.inl x1, .inr (.inr (some 14))]) (pc' := 22) rfl rfl rfl rfl ?_
    obtain ⟨hs0, h⟩ := h
    refine ev_ald (t := 1) (n := 11) (f := aF_at M2) (w := fun x => .inr (.inl x)) (pc' := 23) rfl rfl (fun _ _ => rfl) rfl hs0 rfl ?_
    refine ev_call (as := [.inr (.inl (aF_at M2 (x1).toNat))]) (r := []) (pc' := 26) rfl rfl (Nat.le_of_ble_eq_true rfl) (Nat.le_of_ble_eq_true rfl) ⟨rfl, rfl⟩ (Nat.le_of_ble_eq_true rfl) rfl rfl rfl rfl ?_
    refine ev.post h (fun v M3 h => ?_)
    obtain ⟨w3, rfl, h⟩ := h
    show ev 77 26 [(0, .inr (.inr (some 0))), (1, .inl x1)] [.inl w3] M3 _
    exact ev_rt rfl rfl rfl ⟨_, rfl, h⟩
  · replace h := h.2 (of_decide_eq_false hc)
    refine ev_pu (st' := [.inl (-1)]) (pc' := 9) rfl rfl rfl rfl ?_
    exact ev_rt rfl rfl rfl ⟨_, rfl, h⟩
/-! NulledForest.accepted()Z -/
def m78 (M : ev_M) (Q : Int → ev_M → Prop) : Prop := ev 78 0 [(0, .inr (.inr (some 0)))] [] M (fun v M1 => ∃ w : Int, v = some (.inl w) ∧ Q w M1)
set_option maxRecDepth 10000 in
theorem b78 {M : ev_M} {Q : Int → ev_M → Prop}
    (h : m68 M (fun M1 => m24 0 0 (sC_size M1) M1 (fun w2 M2 => (w2 = 0 ∨ w2 = 1) ∧ Q w2 M2))) : m78 M Q := by
  unfold m78
  refine ev_lo (lo' := [(0, .inr (.inr (some 0)))]) (st' := [.inr (.inr (some 0))]) (pc' := 1) rfl rfl rfl rfl ?_
  refine ev_call (as := [.inr (.inr (some 0))]) (r := []) (pc' := 4) rfl rfl (Nat.le_of_ble_eq_true rfl) (Nat.le_of_ble_eq_true rfl) ⟨rfl, rfl⟩ (Nat.le_of_ble_eq_true rfl) rfl rfl rfl rfl ?_
  refine ev.post h (fun v M1 h => ?_)
  obtain ⟨rfl, h⟩ := h
  show ev 78 4 [(0, .inr (.inr (some 0)))] [] M1 _
  refine ev_lo (lo' := [(0, .inr (.inr (some 0)))]) (st' := [.inr (.inr (some 0))]) (pc' := 5) rfl rfl rfl rfl ?_
  refine ev_get (v := .inr (.inr (some 10))) (pc' := 8) rfl rfl rfl rfl ?_
  refine ev_pu (st' := [.inl 0, .inr (.inr (some 10))]) (pc' := 9) rfl rfl rfl rfl ?_
  refine ev_pu (st' := [.inl 0, .inl 0, .inr (.inr (some 10))]) (pc' := 10) rfl rfl rfl rfl ?_
  refine ev_lo (lo' := [(0, .inr (.inr (some 0)))]) (st' := [.inr (.inr (some 0)), .inl 0, .inl 0, .inr (.inr (some 10))]) (pc' := 11) rfl rfl rfl rfl ?_
  refine ev_get (v := .inr (.inr (some 10))) (pc' := 14) rfl rfl rfl rfl ?_
  refine ev_get (v := .inl (sC_size M1)) (pc' := 17) rfl rfl rfl rfl ?_
  refine ev_call (as := [.inr (.inr (some 10)), .inl 0, .inl 0, .inl (sC_size M1)]) (r := []) (pc' := 20) rfl rfl (Nat.le_of_ble_eq_true rfl) (Nat.le_of_ble_eq_true rfl) ⟨rfl, rfl⟩ (Nat.le_of_ble_eq_true rfl) rfl rfl rfl rfl ?_
  refine ev.post h (fun v M2 h => ?_)
  obtain ⟨w2, rfl, h⟩ := h
  show ev 78 20 [(0, .inr (.inr (some 0)))] [.inl w2] M2 _
  obtain ⟨hs, h⟩ := h
  exact ev_rtZ rfl rfl hs ⟨_, rfl, h⟩
/-! NulledForest.isPart(III)Z -/
def m79 (x1 x2 x3 : Int) (M : ev_M) (Q : Int → ev_M → Prop) : Prop := ev 79 0 [(0, .inr (.inr (some 0))), (1, .inl x1), (2, .inl x2), (3, .inl x3)] [] M (fun v M1 => ∃ w : Int, v = some (.inl w) ∧ Q w M1)
def c79_31 (M : ev_M) (Q : Int → ev_M → Prop) : Prop := ev 79 31 [] [] M (fun v M1 => ∃ w : Int, v = some (.inl w) ∧ Q w M1)
def c79_32 (t0 : Int) (M : ev_M) (Q : Int → ev_M → Prop) : Prop := ev 79 32 [] [.inl t0] M (fun v M1 => ∃ w : Int, v = some (.inl w) ∧ Q w M1)
set_option maxRecDepth 10000 in
theorem b79 {x1 x2 x3 : Int} {M : ev_M} {Q : Int → ev_M → Prop}
    (h : m5 x1 M (fun w1 M1 => (w1 = 0 → (c79_31 M1 Q)) ∧ (¬ (w1 = 0) → ((x2 < 0 → (c79_31 M1 Q)) ∧ (¬ (x2 < 0) → ((x3 < x2 → (c79_31 M1 Q)) ∧ (¬ (x3 < x2) → (((sC_size M1) < x3 → (c79_31 M1 Q)) ∧ (¬ ((sC_size M1) < x3) → (c79_32 1 M1 Q)))))))))) : m79 x1 x2 x3 M Q := by
  unfold m79
  refine ev_lo (lo' := [(0, .inr (.inr (some 0))), (1, .inl x1), (2, .inl x2), (3, .inl x3)]) (st' := [.inl x1]) (pc' := 1) rfl rfl rfl rfl ?_
  refine ev_call (as := [.inl x1]) (r := []) (pc' := 4) rfl rfl (Nat.le_of_ble_eq_true rfl) (Nat.le_of_ble_eq_true rfl) ⟨rfl, rfl⟩ (Nat.le_of_ble_eq_true rfl) rfl rfl rfl rfl ?_
  refine ev.post h (fun v M1 h => ?_)
  obtain ⟨w1, rfl, h⟩ := h
  show ev 79 4 [(0, .inr (.inr (some 0))), (1, .inl x1), (2, .inl x2), (3, .inl x3)] [.inl w1] M1 _
  refine ev_ifT (pc' := 31) (pc2 := 7) rfl (by decide) rfl rfl (fun hc => ?_) (fun hc => ?_)
  · replace h := h.1 (of_decide_eq_true hc)
    exact ev_pick [] rfl rfl h
  · replace h := h.2 (of_decide_eq_false hc)
    refine ev_lo (lo' := [(0, .inr (.inr (some 0))), (1, .inl x1), (2, .inl x2), (3, .inl x3)]) (st' := [.inl x2]) (pc' := 8) rfl rfl rfl rfl ?_
    refine ev_ifT (pc' := 31) (pc2 := 11) rfl (by decide) rfl rfl (fun hc => ?_) (fun hc => ?_)
    · replace h := h.1 (of_decide_eq_true hc)
      exact ev_pick [] rfl rfl h
    · replace h := h.2 (of_decide_eq_false hc)
      refine ev_lo (lo' := [(0, .inr (.inr (some 0))), (1, .inl x1), (2, .inl x2), (3, .inl x3)]) (st' := [.inl x2]) (pc' := 12) rfl rfl rfl rfl ?_
      refine ev_lo (lo' := [(0, .inr (.inr (some 0))), (1, .inl x1), (2, .inl x2), (3, .inl x3)]) (st' := [.inl x3, .inl x2]) (pc' := 13) rfl rfl rfl rfl ?_
      refine ev_icmp (pc' := 31) (pc2 := 16) rfl (by decide) rfl rfl (fun hc => ?_) (fun hc => ?_)
      · replace h := h.1 (of_decide_eq_true hc)
        exact ev_pick [] rfl rfl h
      · replace h := h.2 (of_decide_eq_false hc)
        refine ev_lo (lo' := [(0, .inr (.inr (some 0))), (1, .inl x1), (2, .inl x2), (3, .inl x3)]) (st' := [.inl x3]) (pc' := 17) rfl rfl rfl rfl ?_
        refine ev_lo (lo' := [(0, .inr (.inr (some 0))), (1, .inl x1), (2, .inl x2), (3, .inl x3)]) (st' := [.inr (.inr (some 0)), .inl x3]) (pc' := 18) rfl rfl rfl rfl ?_
        refine ev_get (v := .inr (.inr (some 10))) (pc' := 21) rfl rfl rfl rfl ?_
        refine ev_get (v := .inl (sC_size M1)) (pc' := 24) rfl rfl rfl rfl ?_
        refine ev_icmp (pc' := 31) (pc2 := 27) rfl (by decide) rfl rfl (fun hc => ?_) (fun hc => ?_)
        · replace h := h.1 (of_decide_eq_true hc)
          exact ev_pick [] rfl rfl h
        · replace h := h.2 (of_decide_eq_false hc)
          refine ev_pu (st' := [.inl 1]) (pc' := 28) rfl rfl rfl rfl ?_
          refine ev_br (pc' := 32) (st' := [.inl 1]) rfl rfl rfl ?_
          exact ev_pick [] rfl rfl h
set_option maxRecDepth 10000 in
theorem b79_31 {M : ev_M} {Q : Int → ev_M → Prop}
    (h : c79_32 0 M Q) : c79_31 M Q := by
  unfold c79_31
  refine ev_pu (st' := [.inl 0]) (pc' := 32) rfl rfl rfl rfl ?_
  exact ev_pick [] rfl rfl h
set_option maxRecDepth 10000 in
theorem b79_32 {t0 : Int} {M : ev_M} {Q : Int → ev_M → Prop}
    (h : (t0 = 0 ∨ t0 = 1) ∧ Q t0 M) : c79_32 t0 M Q := by
  unfold c79_32
  obtain ⟨hs, h⟩ := h
  exact ev_rtZ rfl rfl hs ⟨_, rfl, h⟩
/-! NulledForest.readyForest()V -/
def m80 (M : ev_M) (Q : ev_M → Prop) : Prop := ev 80 0 [(0, .inr (.inr (some 0)))] [] M (fun v M1 => v = none ∧ Q M1)
def c80_30 (M : ev_M) (Q : ev_M → Prop) : Prop := ev 80 30 [] [] M (fun v M1 => v = none ∧ Q M1)
set_option maxRecDepth 10000 in
theorem b80 {M : ev_M} {Q : ev_M → Prop}
    (h : (¬ (sX_forestReady M) = 0 → (c80_30 M Q)) ∧ (¬ (¬ (sX_forestReady M) = 0) → (m68 M (fun M1 => m41 M1 (fun M2 => m53 M2 (fun M3 => c80_30 (ev_sS M3 2 1) Q)))))) : m80 M Q := by
  unfold m80
  refine ev_lo (lo' := [(0, .inr (.inr (some 0)))]) (st' := [.inr (.inr (some 0))]) (pc' := 1) rfl rfl rfl rfl ?_
  refine ev_get (v := .inl (sX_forestReady M)) (pc' := 4) rfl rfl rfl rfl ?_
  refine ev_ifT (pc' := 30) (pc2 := 7) rfl (by decide) rfl rfl (fun hc => ?_) (fun hc => ?_)
  · replace h := h.1 (of_decide_eq_true hc)
    exact ev_pick [] rfl rfl h
  · replace h := h.2 (of_decide_eq_false hc)
    refine ev_lo (lo' := [(0, .inr (.inr (some 0)))]) (st' := [.inr (.inr (some 0))]) (pc' := 8) rfl rfl rfl rfl ?_
    refine ev_call (as := [.inr (.inr (some 0))]) (r := []) (pc' := 11) rfl rfl (Nat.le_of_ble_eq_true rfl) (Nat.le_of_ble_eq_true rfl) ⟨rfl, rfl⟩ (Nat.le_of_ble_eq_true rfl) rfl rfl rfl rfl ?_
    refine ev.post h (fun v M1 h => ?_)
    obtain ⟨rfl, h⟩ := h
    show ev 80 11 [(0, .inr (.inr (some 0)))] [] M1 _
    refine ev_lo (lo' := [(0, .inr (.inr (some 0)))]) (st' := [.inr (.inr (some 0))]) (pc' := 12) rfl rfl rfl rfl ?_
    refine ev_get (v := .inr (.inr (some 15))) (pc' := 15) rfl rfl rfl rfl ?_
    refine ev_call (as := [.inr (.inr (some 15))]) (r := []) (pc' := 18) rfl rfl (Nat.le_of_ble_eq_true rfl) (Nat.le_of_ble_eq_true rfl) ⟨rfl, rfl⟩ (Nat.le_of_ble_eq_true rfl) rfl rfl rfl rfl ?_
    refine ev.post h (fun v M2 h => ?_)
    obtain ⟨rfl, h⟩ := h
    show ev 80 18 [(0, .inr (.inr (some 0)))] [] M2 _
    refine ev_lo (lo' := [(0, .inr (.inr (some 0)))]) (st' := [.inr (.inr (some 0))]) (pc' := 19) rfl rfl rfl rfl ?_
    refine ev_get (v := .inr (.inr (some 20))) (pc' := 22) rfl rfl rfl rfl ?_
    refine ev_call (as := [.inr (.inr (some 20))]) (r := []) (pc' := 25) rfl rfl (Nat.le_of_ble_eq_true rfl) (Nat.le_of_ble_eq_true rfl) ⟨rfl, rfl⟩ (Nat.le_of_ble_eq_true rfl) rfl rfl rfl rfl ?_
    refine ev.post h (fun v M3 h => ?_)
    obtain ⟨rfl, h⟩ := h
    show ev 80 25 [(0, .inr (.inr (some 0)))] [] M3 _
    refine ev_lo (lo' := [(0, .inr (.inr (some 0)))]) (st' := [.inr (.inr (some 0))]) (pc' := 26) rfl rfl rfl rfl ?_
    refine ev_pu (st' := [.inl 1, .inr (.inr (some 0))]) (pc' := 27) rfl rfl rfl rfl ?_
    refine ev_put (M' := ev_sS M3 2 1) (pc' := 30) rfl rfl (Nat.le_of_ble_eq_true rfl) rfl (hp_s2 _ _) rfl ?_
    exact ev_pick [] rfl rfl h
set_option maxRecDepth 10000 in
theorem b80_30 {M : ev_M} {Q : ev_M → Prop}
    (h : Q M) : c80_30 M Q := by
  unfold c80_30
  exact ev_rt rfl rfl rfl ⟨rfl, h⟩
/-! NulledForest.used(III)Z -/
def m81 (x1 x2 x3 : Int) (M : ev_M) (Q : Int → ev_M → Prop) : Prop := ev 81 0 [(0, .inr (.inr (some 0))), (1, .inl x1), (2, .inl x2), (3, .inl x3)] [] M (fun v M1 => ∃ w : Int, v = some (.inl w) ∧ Q w M1)
set_option maxRecDepth 10000 in
theorem b81 {x1 x2 x3 : Int} {M : ev_M} {Q : Int → ev_M → Prop}
    (h : m79 x1 x2 x3 M (fun w1 M1 => (¬ w1 = 0 → (m80 M1 (fun M2 => m34 x1 x2 x3 M2 (fun w3 M3 => (w3 = 0 ∨ w3 = 1) ∧ Q w3 M3)))) ∧ (¬ (¬ w1 = 0) → (Q 0 M1)))) : m81 x1 x2 x3 M Q := by
  unfold m81
  refine ev_lo (lo' := [(0, .inr (.inr (some 0))), (1, .inl x1), (2, .inl x2), (3, .inl x3)]) (st' := [.inr (.inr (some 0))]) (pc' := 1) rfl rfl rfl rfl ?_
  refine ev_lo (lo' := [(0, .inr (.inr (some 0))), (1, .inl x1), (2, .inl x2), (3, .inl x3)]) (st' := [.inl x1, .inr (.inr (some 0))]) (pc' := 2) rfl rfl rfl rfl ?_
  refine ev_lo (lo' := [(0, .inr (.inr (some 0))), (1, .inl x1), (2, .inl x2), (3, .inl x3)]) (st' := [.inl x2, .inl x1, .inr (.inr (some 0))]) (pc' := 3) rfl rfl rfl rfl ?_
  refine ev_lo (lo' := [(0, .inr (.inr (some 0))), (1, .inl x1), (2, .inl x2), (3, .inl x3)]) (st' := [.inl x3, .inl x2, .inl x1, .inr (.inr (some 0))]) (pc' := 4) rfl rfl rfl rfl ?_
  refine ev_call (as := [.inr (.inr (some 0)), .inl x1, .inl x2, .inl x3]) (r := []) (pc' := 7) rfl rfl (Nat.le_of_ble_eq_true rfl) (Nat.le_of_ble_eq_true rfl) ⟨rfl, rfl⟩ (Nat.le_of_ble_eq_true rfl) rfl rfl rfl rfl ?_
  refine ev.post h (fun v M1 h => ?_)
  obtain ⟨w1, rfl, h⟩ := h
  show ev 81 7 [(0, .inr (.inr (some 0))), (1, .inl x1), (2, .inl x2), (3, .inl x3)] [.inl w1] M1 _
  refine ev_ifT (pc' := 12) (pc2 := 10) rfl (by decide) rfl rfl (fun hc => ?_) (fun hc => ?_)
  · replace h := h.1 (of_decide_eq_true hc)
    refine ev_lo (lo' := [(0, .inr (.inr (some 0))), (1, .inl x1), (2, .inl x2), (3, .inl x3)]) (st' := [.inr (.inr (some 0))]) (pc' := 13) rfl rfl rfl rfl ?_
    refine ev_call (as := [.inr (.inr (some 0))]) (r := []) (pc' := 16) rfl rfl (Nat.le_of_ble_eq_true rfl) (Nat.le_of_ble_eq_true rfl) ⟨rfl, rfl⟩ (Nat.le_of_ble_eq_true rfl) rfl rfl rfl rfl ?_
    refine ev.post h (fun v M2 h => ?_)
    obtain ⟨rfl, h⟩ := h
    show ev 81 16 [(0, .inr (.inr (some 0))), (1, .inl x1), (2, .inl x2), (3, .inl x3)] [] M2 _
    refine ev_lo (lo' := [(0, .inr (.inr (some 0))), (1, .inl x1), (2, .inl x2), (3, .inl x3)]) (st' := [.inr (.inr (some 0))]) (pc' := 17) rfl rfl rfl rfl ?_
    refine ev_get (v := .inr (.inr (some 15))) (pc' := 20) rfl rfl rfl rfl ?_
    refine ev_lo (lo' := [(0, .inr (.inr (some 0))), (1, .inl x1), (2, .inl x2), (3, .inl x3)]) (st' := [.inl x1, .inr (.inr (some 15))]) (pc' := 21) rfl rfl rfl rfl ?_
    refine ev_lo (lo' := [(0, .inr (.inr (some 0))), (1, .inl x1), (2, .inl x2), (3, .inl x3)]) (st' := [.inl x2, .inl x1, .inr (.inr (some 15))]) (pc' := 22) rfl rfl rfl rfl ?_
    refine ev_lo (lo' := [(0, .inr (.inr (some 0))), (1, .inl x1), (2, .inl x2), (3, .inl x3)]) (st' := [.inl x3, .inl x2, .inl x1, .inr (.inr (some 15))]) (pc' := 23) rfl rfl rfl rfl ?_
    refine ev_call (as := [.inr (.inr (some 15)), .inl x1, .inl x2, .inl x3]) (r := []) (pc' := 26) rfl rfl (Nat.le_of_ble_eq_true rfl) (Nat.le_of_ble_eq_true rfl) ⟨rfl, rfl⟩ (Nat.le_of_ble_eq_true rfl) rfl rfl rfl rfl ?_
    refine ev.post h (fun v M3 h => ?_)
    obtain ⟨w3, rfl, h⟩ := h
    show ev 81 26 [(0, .inr (.inr (some 0))), (1, .inl x1), (2, .inl x2), (3, .inl x3)] [.inl w3] M3 _
    obtain ⟨hs, h⟩ := h
    exact ev_rtZ rfl rfl hs ⟨_, rfl, h⟩
  · replace h := h.2 (of_decide_eq_false hc)
    refine ev_pu (st' := [.inl 0]) (pc' := 11) rfl rfl rfl rfl ?_
    exact ev_rt rfl rfl rfl ⟨_, rfl, h⟩
/-! NulledForest.families(III)I -/
def m82 (x1 x2 x3 : Int) (M : ev_M) (Q : Int → ev_M → Prop) : Prop := ev 82 0 [(0, .inr (.inr (some 0))), (1, .inl x1), (2, .inl x2), (3, .inl x3)] [] M (fun v M1 => ∃ w : Int, v = some (.inl w) ∧ Q w M1)
def c82_43 (t0 : Int) (M : ev_M) (Q : Int → ev_M → Prop) : Prop := ev 82 43 [] [.inl t0] M (fun v M1 => ∃ w : Int, v = some (.inl w) ∧ Q w M1)
set_option maxRecDepth 10000 in
theorem b82 {x1 x2 x3 : Int} {M : ev_M} {Q : Int → ev_M → Prop}
    (h : m79 x1 x2 x3 M (fun w1 M1 => (¬ w1 = 0 → (m80 M1 (fun M2 => m34 x1 x2 x3 M2 (fun w3 M3 => (w3 = 0 → (c82_43 0 M3 Q)) ∧ (¬ (w3 = 0) → (m43 x1 x2 x3 M3 (fun w4 M4 => c82_43 w4 M4 Q))))))) ∧ (¬ (¬ w1 = 0) → (Q 0 M1)))) : m82 x1 x2 x3 M Q := by
  unfold m82
  refine ev_lo (lo' := [(0, .inr (.inr (some 0))), (1, .inl x1), (2, .inl x2), (3, .inl x3)]) (st' := [.inr (.inr (some 0))]) (pc' := 1) rfl rfl rfl rfl ?_
  refine ev_lo (lo' := [(0, .inr (.inr (some 0))), (1, .inl x1), (2, .inl x2), (3, .inl x3)]) (st' := [.inl x1, .inr (.inr (some 0))]) (pc' := 2) rfl rfl rfl rfl ?_
  refine ev_lo (lo' := [(0, .inr (.inr (some 0))), (1, .inl x1), (2, .inl x2), (3, .inl x3)]) (st' := [.inl x2, .inl x1, .inr (.inr (some 0))]) (pc' := 3) rfl rfl rfl rfl ?_
  refine ev_lo (lo' := [(0, .inr (.inr (some 0))), (1, .inl x1), (2, .inl x2), (3, .inl x3)]) (st' := [.inl x3, .inl x2, .inl x1, .inr (.inr (some 0))]) (pc' := 4) rfl rfl rfl rfl ?_
  refine ev_call (as := [.inr (.inr (some 0)), .inl x1, .inl x2, .inl x3]) (r := []) (pc' := 7) rfl rfl (Nat.le_of_ble_eq_true rfl) (Nat.le_of_ble_eq_true rfl) ⟨rfl, rfl⟩ (Nat.le_of_ble_eq_true rfl) rfl rfl rfl rfl ?_
  refine ev.post h (fun v M1 h => ?_)
  obtain ⟨w1, rfl, h⟩ := h
  show ev 82 7 [(0, .inr (.inr (some 0))), (1, .inl x1), (2, .inl x2), (3, .inl x3)] [.inl w1] M1 _
  refine ev_ifT (pc' := 12) (pc2 := 10) rfl (by decide) rfl rfl (fun hc => ?_) (fun hc => ?_)
  · replace h := h.1 (of_decide_eq_true hc)
    refine ev_lo (lo' := [(0, .inr (.inr (some 0))), (1, .inl x1), (2, .inl x2), (3, .inl x3)]) (st' := [.inr (.inr (some 0))]) (pc' := 13) rfl rfl rfl rfl ?_
    refine ev_call (as := [.inr (.inr (some 0))]) (r := []) (pc' := 16) rfl rfl (Nat.le_of_ble_eq_true rfl) (Nat.le_of_ble_eq_true rfl) ⟨rfl, rfl⟩ (Nat.le_of_ble_eq_true rfl) rfl rfl rfl rfl ?_
    refine ev.post h (fun v M2 h => ?_)
    obtain ⟨rfl, h⟩ := h
    show ev 82 16 [(0, .inr (.inr (some 0))), (1, .inl x1), (2, .inl x2), (3, .inl x3)] [] M2 _
    refine ev_lo (lo' := [(0, .inr (.inr (some 0))), (1, .inl x1), (2, .inl x2), (3, .inl x3)]) (st' := [.inr (.inr (some 0))]) (pc' := 17) rfl rfl rfl rfl ?_
    refine ev_get (v := .inr (.inr (some 15))) (pc' := 20) rfl rfl rfl rfl ?_
    refine ev_lo (lo' := [(0, .inr (.inr (some 0))), (1, .inl x1), (2, .inl x2), (3, .inl x3)]) (st' := [.inl x1, .inr (.inr (some 15))]) (pc' := 21) rfl rfl rfl rfl ?_
    refine ev_lo (lo' := [(0, .inr (.inr (some 0))), (1, .inl x1), (2, .inl x2), (3, .inl x3)]) (st' := [.inl x2, .inl x1, .inr (.inr (some 15))]) (pc' := 22) rfl rfl rfl rfl ?_
    refine ev_lo (lo' := [(0, .inr (.inr (some 0))), (1, .inl x1), (2, .inl x2), (3, .inl x3)]) (st' := [.inl x3, .inl x2, .inl x1, .inr (.inr (some 15))]) (pc' := 23) rfl rfl rfl rfl ?_
    refine ev_call (as := [.inr (.inr (some 15)), .inl x1, .inl x2, .inl x3]) (r := []) (pc' := 26) rfl rfl (Nat.le_of_ble_eq_true rfl) (Nat.le_of_ble_eq_true rfl) ⟨rfl, rfl⟩ (Nat.le_of_ble_eq_true rfl) rfl rfl rfl rfl ?_
    refine ev.post h (fun v M3 h => ?_)
    obtain ⟨w3, rfl, h⟩ := h
    show ev 82 26 [(0, .inr (.inr (some 0))), (1, .inl x1), (2, .inl x2), (3, .inl x3)] [.inl w3] M3 _
    refine ev_ifT (pc' := 42) (pc2 := 29) rfl (by decide) rfl rfl (fun hc => ?_) (fun hc => ?_)
    · replace h := h.1 (of_decide_eq_true hc)
      refine ev_pu (st' := [.inl 0]) (pc' := 43) rfl rfl rfl rfl ?_
      exact ev_pick [] rfl rfl h
    · replace h := h.2 (of_decide_eq_false hc)
      refine ev_lo (lo' := [(0, .inr (.inr (some 0))), (1, .inl x1), (2, .inl x2), (3, .inl x3)]) (st' := [.inr (.inr (some 0))]) (pc' := 30) rfl rfl rfl rfl ?_
      refine ev_get (v := .inr (.inr (some 15))) (pc' := 33) rfl rfl rfl rfl ?_
      refine ev_lo (lo' := [(0, .inr (.inr (some 0))), (1, .inl x1), (2, .inl x2), (3, .inl x3)]) (st' := [.inl x1, .inr (.inr (some 15))]) (pc' := 34) rfl rfl rfl rfl ?_
      refine ev_lo (lo' := [(0, .inr (.inr (some 0))), (1, .inl x1), (2, .inl x2), (3, .inl x3)]) (st' := [.inl x2, .inl x1, .inr (.inr (some 15))]) (pc' := 35) rfl rfl rfl rfl ?_
      refine ev_lo (lo' := [(0, .inr (.inr (some 0))), (1, .inl x1), (2, .inl x2), (3, .inl x3)]) (st' := [.inl x3, .inl x2, .inl x1, .inr (.inr (some 15))]) (pc' := 36) rfl rfl rfl rfl ?_
      refine ev_call (as := [.inr (.inr (some 15)), .inl x1, .inl x2, .inl x3]) (r := []) (pc' := 39) rfl rfl (Nat.le_of_ble_eq_true rfl) (Nat.le_of_ble_eq_true rfl) ⟨rfl, rfl⟩ (Nat.le_of_ble_eq_true rfl) rfl rfl rfl rfl ?_
      refine ev.post h (fun v M4 h => ?_)
      obtain ⟨w4, rfl, h⟩ := h
      show ev 82 39 [(0, .inr (.inr (some 0))), (1, .inl x1), (2, .inl x2), (3, .inl x3)] [.inl w4] M4 _
      refine ev_br (pc' := 43) (st' := [.inl w4]) rfl rfl rfl ?_
      exact ev_pick [] rfl rfl h
  · replace h := h.2 (of_decide_eq_false hc)
    refine ev_pu (st' := [.inl 0]) (pc' := 11) rfl rfl rfl rfl ?_
    exact ev_rt rfl rfl rfl ⟨_, rfl, h⟩
set_option maxRecDepth 10000 in
theorem b82_43 {t0 : Int} {M : ev_M} {Q : Int → ev_M → Prop}
    (h : Q t0 M) : c82_43 t0 M Q := by
  unfold c82_43
  exact ev_rt rfl rfl rfl ⟨_, rfl, h⟩
/-! NulledForest.trees()I -/
def m83 (M : ev_M) (Q : Int → ev_M → Prop) : Prop := ev 83 0 [(0, .inr (.inr (some 0)))] [] M (fun v M1 => ∃ w : Int, v = some (.inl w) ∧ Q w M1)
def c83_25 (t0 : Int) (M : ev_M) (Q : Int → ev_M → Prop) : Prop := ev 83 25 [] [.inl t0] M (fun v M1 => ∃ w : Int, v = some (.inl w) ∧ Q w M1)
set_option maxRecDepth 10000 in
theorem b83 {M : ev_M} {Q : Int → ev_M → Prop}
    (h : m80 M (fun M1 => ((sT_endless M1) = 0 → (m45 M1 (fun w2 M2 => c83_25 w2 M2 Q))) ∧ (¬ ((sT_endless M1) = 0) → (c83_25 (-1) M1 Q)))) : m83 M Q := by
  unfold m83
  refine ev_lo (lo' := [(0, .inr (.inr (some 0)))]) (st' := [.inr (.inr (some 0))]) (pc' := 1) rfl rfl rfl rfl ?_
  refine ev_call (as := [.inr (.inr (some 0))]) (r := []) (pc' := 4) rfl rfl (Nat.le_of_ble_eq_true rfl) (Nat.le_of_ble_eq_true rfl) ⟨rfl, rfl⟩ (Nat.le_of_ble_eq_true rfl) rfl rfl rfl rfl ?_
  refine ev.post h (fun v M1 h => ?_)
  obtain ⟨rfl, h⟩ := h
  show ev 83 4 [(0, .inr (.inr (some 0)))] [] M1 _
  refine ev_lo (lo' := [(0, .inr (.inr (some 0)))]) (st' := [.inr (.inr (some 0))]) (pc' := 5) rfl rfl rfl rfl ?_
  refine ev_get (v := .inr (.inr (some 20))) (pc' := 8) rfl rfl rfl rfl ?_
  refine ev_get (v := .inl (sT_endless M1)) (pc' := 11) rfl rfl rfl rfl ?_
  refine ev_ifT (pc' := 18) (pc2 := 14) rfl (by decide) rfl rfl (fun hc => ?_) (fun hc => ?_)
  · replace h := h.1 (of_decide_eq_true hc)
    refine ev_lo (lo' := [(0, .inr (.inr (some 0)))]) (st' := [.inr (.inr (some 0))]) (pc' := 19) rfl rfl rfl rfl ?_
    refine ev_get (v := .inr (.inr (some 20))) (pc' := 22) rfl rfl rfl rfl ?_
    refine ev_call (as := [.inr (.inr (some 20))]) (r := []) (pc' := 25) rfl rfl (Nat.le_of_ble_eq_true rfl) (Nat.le_of_ble_eq_true rfl) ⟨rfl, rfl⟩ (Nat.le_of_ble_eq_true rfl) rfl rfl rfl rfl ?_
    refine ev.post h (fun v M2 h => ?_)
    obtain ⟨w2, rfl, h⟩ := h
    show ev 83 25 [(0, .inr (.inr (some 0)))] [.inl w2] M2 _
    exact ev_pick [] rfl rfl h
  · replace h := h.2 (of_decide_eq_false hc)
    refine ev_pu (st' := [.inl (-1)]) (pc' := 15) rfl rfl rfl rfl ?_
    refine ev_br (pc' := 25) (st' := [.inl (-1)]) rfl rfl rfl ?_
    exact ev_pick [] rfl rfl h
set_option maxRecDepth 10000 in
theorem b83_25 {t0 : Int} {M : ev_M} {Q : Int → ev_M → Prop}
    (h : Q t0 M) : c83_25 t0 M Q := by
  unfold c83_25
  exact ev_rt rfl rfl rfl ⟨_, rfl, h⟩
