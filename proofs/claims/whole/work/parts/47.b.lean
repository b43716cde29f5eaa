/-! Block rules, written by wip/whole/gen3.py -/
/-! NulledForestModel.isNew(II)Z -/
def m84 (x1 x2 : Int) (M : ev_M) (Q : Int → ev_M → Prop) : Prop := ev 84 0 [(0, .inr (.inr (some 30))), (1, .inl x1), (2, .inl x2)] [] M (fun v M1 => ∃ w : Int, v = some (.inl w) ∧ Q w M1)
def c84_58 (t0 : Int) (M : ev_M) (Q : Int → ev_M → Prop) : Prop := ev 84 58 [] [.inl t0] M (fun v M1 => ∃ w : Int, v = some (.inl w) ∧ Q w M1)
set_option maxRecDepth 10000 in
theorem b84 {x1 x2 : Int} {M : ev_M} {Q : Int → ev_M → Prop}
    (h : (7 ≤ x1 → (tm_iI (x1 - 7) ∧ (tm_iI (5 * (x1 - 7)) ∧ (tm_iI ((5 * (x1 - 7)) + x2) ∧ ((0 ≤ (sM_newHigh M) ∧ (sM_newHigh M) < 9223372036854775808) ∧ (0 ≤ ((5 * (x1 - 7)) + x2) ∧ ((5 * (x1 - 7)) + x2) < 64) ∧ ((0 ≤ (tm_sr (sM_newHigh M) ((5 * (x1 - 7)) + x2)) ∧ (tm_sr (sM_newHigh M) ((5 * (x1 - 7)) + x2)) < 9223372036854775808) ∧ ((¬ (tm_an (tm_sr (sM_newHigh M) ((5 * (x1 - 7)) + x2)) 1) = 1 → (c84_58 0 M Q)) ∧ (¬ (¬ (tm_an (tm_sr (sM_newHigh M) ((5 * (x1 - 7)) + x2)) 1) = 1) → (c84_58 1 M Q))))))))) ∧ (¬ (7 ≤ x1) → (tm_iI (5 * x1) ∧ (tm_iI (2 + (5 * x1)) ∧ (tm_iI ((2 + (5 * x1)) + x2) ∧ ((0 ≤ (sM_newLow M) ∧ (sM_newLow M) < 9223372036854775808) ∧ (0 ≤ ((2 + (5 * x1)) + x2) ∧ ((2 + (5 * x1)) + x2) < 64) ∧ ((0 ≤ (tm_sr (sM_newLow M) ((2 + (5 * x1)) + x2)) ∧ (tm_sr (sM_newLow M) ((2 + (5 * x1)) + x2)) < 9223372036854775808) ∧ ((¬ (tm_an (tm_sr (sM_newLow M) ((2 + (5 * x1)) + x2)) 1) = 1 → (c84_58 0 M Q)) ∧ (¬ (¬ (tm_an (tm_sr (sM_newLow M) ((2 + (5 * x1)) + x2)) 1) = 1) → (c84_58 1 M Q)))))))))) : m84 x1 x2 M Q := by
  unfold m84
  refine ev_lo (lo' := [(0, .inr (.inr (some 30))), (1, .inl x1), (2, .inl x2)]) (st' := [.inl x1]) (pc' := 1) rfl rfl rfl rfl ?_
  refine ev_pu (st' := [.inl 7, .inl x1]) (pc' := 3) rfl rfl rfl rfl ?_
  refine ev_icmp (pc' := 33) (pc2 := 6) rfl (by decide) rfl rfl (fun hc => ?_) (fun hc => ?_)
  · replace h := h.1 (of_decide_eq_true hc)
    refine ev_lo (lo' := [(0, .inr (.inr (some 30))), (1, .inl x1), (2, .inl x2)]) (st' := [.inr (.inr (some 30))]) (pc' := 34) rfl rfl rfl rfl ?_
    refine ev_get (v := .inr (.inl (sM_newHigh M))) (pc' := 37) rfl rfl rfl rfl ?_
    refine ev_pu (st' := [.inl 5, .inr (.inl (sM_newHigh M))]) (pc' := 38) rfl rfl rfl rfl ?_
    refine ev_lo (lo' := [(0, .inr (.inr (some 30))), (1, .inl x1), (2, .inl x2)]) (st' := [.inl x1, .inl 5, .inr (.inl (sM_newHigh M))]) (pc' := 39) rfl rfl rfl rfl ?_
    refine ev_pu (st' := [.inl 7, .inl x1, .inl 5, .inr (.inl (sM_newHigh M))]) (pc' := 41) rfl rfl rfl rfl ?_
    obtain ⟨hs, h⟩ := h
    refine ev_ii (f := fun a b => a - b) (pc' := 42) rfl rfl (fun _ => rfl) (tm_sub' hs) rfl ?_
    obtain ⟨hs, h⟩ := h
    refine ev_ii (f := fun a b => a * b) (pc' := 43) rfl rfl (fun _ => rfl) (tm_mul hs) rfl ?_
    refine ev_lo (lo' := [(0, .inr (.inr (some 30))), (1, .inl x1), (2, .inl x2)]) (st' := [.inl x2, .inl (5 * (x1 - 7)), .inr (.inl (sM_newHigh M))]) (pc' := 44) rfl rfl rfl rfl ?_
    obtain ⟨hs, h⟩ := h
    refine ev_ii (f := fun a b => a + b) (pc' := 45) rfl rfl (fun _ => rfl) (tm_add hs) rfl ?_
    obtain ⟨hs0, hs1, h⟩ := h
    refine ev_lshr (pc' := 46) rfl (tm_lsr_eq hs0 hs1) rfl ?_
    refine ev_pu (st' := [.inr (.inl 1), .inr (.inl (tm_sr (sM_newHigh M) ((5 * (x1 - 7)) + x2)))]) (pc' := 47) rfl rfl rfl rfl ?_
    obtain ⟨hs0, h⟩ := h
    refine ev_ll (f := fun a b => a &&& b) (pc' := 48) rfl rfl (fun _ => rfl) (tm_lan_eq hs0 (by decide)) rfl ?_
    refine ev_pu (st' := [.inr (.inl 1), .inr (.inl (tm_an (tm_sr (sM_newHigh M) ((5 * (x1 - 7)) + x2)) 1))]) (pc' := 49) rfl rfl rfl rfl ?_
    refine ev_lcmp (pc1 := 50) (pc' := 57) (pc2 := 53) rfl rfl rfl (by decide) rfl rfl (fun hc => ?_) (fun hc => ?_)
    · replace h := h.1 (of_decide_eq_true hc)
      refine ev_pu (st' := [.inl 0]) (pc' := 58) rfl rfl rfl rfl ?_
      exact ev_pick [] rfl rfl h
    · replace h := h.2 (of_decide_eq_false hc)
      refine ev_pu (st' := [.inl 1]) (pc' := 54) rfl rfl rfl rfl ?_
      refine ev_br (pc' := 58) (st' := [.inl 1]) rfl rfl rfl ?_
      exact ev_pick [] rfl rfl h
  · replace h := h.2 (of_decide_eq_false hc)
    refine ev_lo (lo' := [(0, .inr (.inr (some 30))), (1, .inl x1), (2, .inl x2)]) (st' := [.inr (.inr (some 30))]) (pc' := 7) rfl rfl rfl rfl ?_
    refine ev_get (v := .inr (.inl (sM_newLow M))) (pc' := 10) rfl rfl rfl rfl ?_
    refine ev_pu (st' := [.inl 2, .inr (.inl (sM_newLow M))]) (pc' := 11) rfl rfl rfl rfl ?_
    refine ev_pu (st' := [.inl 5, .inl 2, .inr (.inl (sM_newLow M))]) (pc' := 12) rfl rfl rfl rfl ?_
    refine ev_lo (lo' := [(0, .inr (.inr (some 30))), (1, .inl x1), (2, .inl x2)]) (st' := [.inl x1, .inl 5, .inl 2, .inr (.inl (sM_newLow M))]) (pc' := 13) rfl rfl rfl rfl ?_
    obtain ⟨hs, h⟩ := h
    refine ev_ii (f := fun a b => a * b) (pc' := 14) rfl rfl (fun _ => rfl) (tm_mul hs) rfl ?_
    obtain ⟨hs, h⟩ := h
    refine ev_ii (f := fun a b => a + b) (pc' := 15) rfl rfl (fun _ => rfl) (tm_add hs) rfl ?_
    refine ev_lo (lo' := [(0, .inr (.inr (some 30))), (1, .inl x1), (2, .inl x2)]) (st' := [.inl x2, .inl (2 + (5 * x1)), .inr (.inl (sM_newLow M))]) (pc' := 16) rfl rfl rfl rfl ?_
    obtain ⟨hs, h⟩ := h
    refine ev_ii (f := fun a b => a + b) (pc' := 17) rfl rfl (fun _ => rfl) (tm_add hs) rfl ?_
    obtain ⟨hs0, hs1, h⟩ := h
    refine ev_lshr (pc' := 18) rfl (tm_lsr_eq hs0 hs1) rfl ?_
    refine ev_pu (st' := [.inr (.inl 1), .inr (.inl (tm_sr (sM_newLow M) ((2 + (5 * x1)) + x2)))]) (pc' := 19) rfl rfl rfl rfl ?_
    obtain ⟨hs0, h⟩ := h
    refine ev_ll (f := fun a b => a &&& b) (pc' := 20) rfl rfl (fun _ => rfl) (tm_lan_eq hs0 (by decide)) rfl ?_
    refine ev_pu (st' := [.inr (.inl 1), .inr (.inl (tm_an (tm_sr (sM_newLow M) ((2 + (5 * x1)) + x2)) 1))]) (pc' := 21) rfl rfl rfl rfl ?_
    refine ev_lcmp (pc1 := 22) (pc' := 29) (pc2 := 25) rfl rfl rfl (by decide) rfl rfl (fun hc => ?_) (fun hc => ?_)
    · replace h := h.1 (of_decide_eq_true hc)
      refine ev_pu (st' := [.inl 0]) (pc' := 30) rfl rfl rfl rfl ?_
      refine ev_br (pc' := 58) (st' := [.inl 0]) rfl rfl rfl ?_
      exact ev_pick [] rfl rfl h
    · replace h := h.2 (of_decide_eq_false hc)
      refine ev_pu (st' := [.inl 1]) (pc' := 26) rfl rfl rfl rfl ?_
      refine ev_br (pc' := 58) (st' := [.inl 1]) rfl rfl rfl ?_
      exact ev_pick [] rfl rfl h
set_option maxRecDepth 10000 in
theorem b84_58 {t0 : Int} {M : ev_M} {Q : Int → ev_M → Prop}
    (h : (t0 = 0 ∨ t0 = 1) ∧ Q t0 M) : c84_58 t0 M Q := by
  unfold c84_58
  obtain ⟨hs, h⟩ := h
  exact ev_rtZ rfl rfl hs ⟨_, rfl, h⟩
/-! NulledForestModel.wants(I)Z -/
def m85 (x1 : Int) (M : ev_M) (Q : Int → ev_M → Prop) : Prop := ev 85 0 [(0, .inr (.inr (some 30))), (1, .inl x1)] [] M (fun v M1 => ∃ w : Int, v = some (.inl w) ∧ Q w M1)
def c85_19 (x1 : Int) (M : ev_M) (Q : Int → ev_M → Prop) : Prop := ev 85 19 [(0, .inr (.inr (some 30))), (1, .inl x1)] [] M (fun v M1 => ∃ w : Int, v = some (.inl w) ∧ Q w M1)
def c85_20 (x1 t0 : Int) (M : ev_M) (Q : Int → ev_M → Prop) : Prop := ev 85 20 [(0, .inr (.inr (some 30))), (1, .inl x1)] [.inl t0] M (fun v M1 => ∃ w : Int, v = some (.inl w) ∧ Q w M1)
def c85_23 (x1 x2 x3 : Int) (M : ev_M) (Q : Int → ev_M → Prop) : Prop := ev 85 23 [(0, .inr (.inr (some 30))), (1, .inl x1), (2, .inl x2), (3, .inl x3)] [] M (fun v M1 => ∃ w : Int, v = some (.inl w) ∧ Q w M1)
def c85_34 (x1 x2 x3 x4 : Int) (M : ev_M) (Q : Int → ev_M → Prop) : Prop := ev 85 34 [(0, .inr (.inr (some 30))), (1, .inl x1), (2, .inl x2), (3, .inl x3), (4, .inl x4)] [] M (fun v M1 => ∃ w : Int, v = some (.inl w) ∧ Q w M1)
def c85_74 (x1 x3 x4 : Int) (M : ev_M) (Q : Int → ev_M → Prop) : Prop := ev 85 74 [(0, .inr (.inr (some 30))), (1, .inl x1), (3, .inl x3), (4, .inl x4)] [] M (fun v M1 => ∃ w : Int, v = some (.inl w) ∧ Q w M1)
def c85_78 (x1 x3 x4 : Int) (M : ev_M) (Q : Int → ev_M → Prop) : Prop := ev 85 78 [(0, .inr (.inr (some 30))), (1, .inl x1), (3, .inl x3), (4, .inl x4)] [] M (fun v M1 => ∃ w : Int, v = some (.inl w) ∧ Q w M1)
def c85_79 (x1 x3 x4 t0 : Int) (M : ev_M) (Q : Int → ev_M → Prop) : Prop := ev 85 79 [(0, .inr (.inr (some 30))), (1, .inl x1), (3, .inl x3), (4, .inl x4)] [.inl t0] M (fun v M1 => ∃ w : Int, v = some (.inl w) ∧ Q w M1)
set_option maxRecDepth 10000 in
theorem b85 {x1 : Int} {M : ev_M} {Q : Int → ev_M → Prop}
    (h : (¬ x1 = 0 → (c85_19 x1 M Q)) ∧ (¬ (¬ x1 = 0) → ((0 ≤ (sM_newLow M) ∧ (sM_newLow M) < 9223372036854775808) ∧ ((¬ (tm_an (sM_newLow M) 1) = 1 → (c85_19 x1 M Q)) ∧ (¬ (¬ (tm_an (sM_newLow M) 1) = 1) → (c85_20 x1 1 M Q)))))) : m85 x1 M Q := by
  unfold m85
  refine ev_lo (lo' := [(0, .inr (.inr (some 30))), (1, .inl x1)]) (st' := [.inl x1]) (pc' := 1) rfl rfl rfl rfl ?_
  refine ev_ifT (pc' := 19) (pc2 := 4) rfl (by decide) rfl rfl (fun hc => ?_) (fun hc => ?_)
  · replace h := h.1 (of_decide_eq_true hc)
    exact ev_pick [0, 1] rfl rfl h
  · replace h := h.2 (of_decide_eq_false hc)
    refine ev_lo (lo' := [(0, .inr (.inr (some 30))), (1, .inl x1)]) (st' := [.inr (.inr (some 30))]) (pc' := 5) rfl rfl rfl rfl ?_
    refine ev_get (v := .inr (.inl (sM_newLow M))) (pc' := 8) rfl rfl rfl rfl ?_
    refine ev_pu (st' := [.inr (.inl 1), .inr (.inl (sM_newLow M))]) (pc' := 9) rfl rfl rfl rfl ?_
    obtain ⟨hs0, h⟩ := h
    refine ev_ll (f := fun a b => a &&& b) (pc' := 10) rfl rfl (fun _ => rfl) (tm_lan_eq hs0 (by decide)) rfl ?_
    refine ev_pu (st' := [.inr (.inl 1), .inr (.inl (tm_an (sM_newLow M) 1))]) (pc' := 11) rfl rfl rfl rfl ?_
    refine ev_lcmp (pc1 := 12) (pc' := 19) (pc2 := 15) rfl rfl rfl (by decide) rfl rfl (fun hc => ?_) (fun hc => ?_)
    · replace h := h.1 (of_decide_eq_true hc)
      exact ev_pick [0, 1] rfl rfl h
    · replace h := h.2 (of_decide_eq_false hc)
      refine ev_pu (st' := [.inl 1]) (pc' := 16) rfl rfl rfl rfl ?_
      refine ev_br (pc' := 20) (st' := [.inl 1]) rfl rfl rfl ?_
      exact ev_pick [0, 1] rfl rfl h
set_option maxRecDepth 10000 in
theorem b85_19 {x1 : Int} {M : ev_M} {Q : Int → ev_M → Prop}
    (h : c85_20 x1 0 M Q) : c85_19 x1 M Q := by
  unfold c85_19
  refine ev_pu (st' := [.inl 0]) (pc' := 20) rfl rfl rfl rfl ?_
  exact ev_pick [0, 1] rfl rfl h
set_option maxRecDepth 10000 in
theorem b85_20 {x1 t0 : Int} {M : ev_M} {Q : Int → ev_M → Prop}
    (h : c85_23 x1 t0 0 M Q) : c85_20 x1 t0 M Q := by
  unfold c85_20
  refine ev_lo (lo' := [(2, .inl t0), (0, .inr (.inr (some 30))), (1, .inl x1)]) (st' := []) (pc' := 21) rfl rfl rfl rfl ?_
  refine ev_pu (st' := [.inl 0]) (pc' := 22) rfl rfl rfl rfl ?_
  refine ev_lo (lo' := [(3, .inl 0), (2, .inl t0), (0, .inr (.inr (some 30))), (1, .inl x1)]) (st' := []) (pc' := 23) rfl rfl rfl rfl ?_
  exact ev_pick [0, 1, 2, 3] rfl rfl h
set_option maxRecDepth 10000 in
theorem b85_23 {x1 x2 x3 : Int} {M : ev_M} {Q : Int → ev_M → Prop}
    (h : ((sM_rules M) ≤ x3 → ((x2 = 0 ∨ x2 = 1) ∧ Q x2 M)) ∧ (¬ ((sM_rules M) ≤ x3) → (c85_34 x1 x2 x3 0 M Q))) : c85_23 x1 x2 x3 M Q := by
  unfold c85_23
  refine ev_lo (lo' := [(0, .inr (.inr (some 30))), (1, .inl x1), (2, .inl x2), (3, .inl x3)]) (st' := [.inl x3]) (pc' := 24) rfl rfl rfl rfl ?_
  refine ev_lo (lo' := [(0, .inr (.inr (some 30))), (1, .inl x1), (2, .inl x2), (3, .inl x3)]) (st' := [.inr (.inr (some 30)), .inl x3]) (pc' := 25) rfl rfl rfl rfl ?_
  refine ev_get (v := .inl (sM_rules M)) (pc' := 28) rfl rfl rfl rfl ?_
  refine ev_icmp (pc' := 92) (pc2 := 31) rfl (by decide) rfl rfl (fun hc => ?_) (fun hc => ?_)
  · replace h := h.1 (of_decide_eq_true hc)
    refine ev_lo (lo' := [(0, .inr (.inr (some 30))), (1, .inl x1), (2, .inl x2), (3, .inl x3)]) (st' := [.inl x2]) (pc' := 93) rfl rfl rfl rfl ?_
    obtain ⟨hs, h⟩ := h
    exact ev_rtZ rfl rfl hs ⟨_, rfl, h⟩
  · replace h := h.2 (of_decide_eq_false hc)
    refine ev_pu (st' := [.inl 0]) (pc' := 32) rfl rfl rfl rfl ?_
    refine ev_lo (lo' := [(4, .inl 0), (0, .inr (.inr (some 30))), (1, .inl x1), (2, .inl x2), (3, .inl x3)]) (st' := []) (pc' := 34) rfl rfl rfl rfl ?_
    exact ev_pick [0, 1, 2, 3, 4] rfl rfl h
set_option maxRecDepth 10000 in
theorem b85_34 {x1 x2 x3 x4 : Int} {M : ev_M} {Q : Int → ev_M → Prop}
    (h : (0 ≤ x3 ∧ x3 < 14) ∧ (((aM_sizes M (x3).toNat) ≤ x4 → (tm_iI (x3 + 1) ∧ (c85_23 x1 x2 (x3 + 1) M Q))) ∧ (¬ ((aM_sizes M (x3).toNat) ≤ x4) → ((¬ x2 = 0 → (c85_74 x1 x3 x4 M Q)) ∧ (¬ (¬ x2 = 0) → (m84 x3 x4 M (fun w1 M1 => (w1 = 0 → (c85_78 x1 x3 x4 M1 Q)) ∧ (¬ (w1 = 0) → (tm_iI (4 * x3) ∧ (tm_iI ((4 * x3) + x4) ∧ ((0 ≤ ((4 * x3) + x4) ∧ ((4 * x3) + x4) < 56) ∧ ((¬ (aM_right M1 ((4 * x3) + x4).toNat) = x1 → (c85_78 x1 x3 x4 M1 Q)) ∧ (¬ (¬ (aM_right M1 ((4 * x3) + x4).toNat) = x1) → (c85_74 x1 x3 x4 M1 Q)))))))))))))) : c85_34 x1 x2 x3 x4 M Q := by
  unfold c85_34
  refine ev_lo (lo' := [(0, .inr (.inr (some 30))), (1, .inl x1), (2, .inl x2), (3, .inl x3), (4, .inl x4)]) (st' := [.inl x4]) (pc' := 36) rfl rfl rfl rfl ?_
  refine ev_lo (lo' := [(0, .inr (.inr (some 30))), (1, .inl x1), (2, .inl x2), (3, .inl x3), (4, .inl x4)]) (st' := [.inr (.inr (some 30)), .inl x4]) (pc' := 37) rfl rfl rfl rfl ?_
  refine ev_get (v := .inr (.inr (some 32))) (pc' := 40) rfl rfl rfl rfl ?_
  refine ev_lo (lo' := [(0, .inr (.inr (some 30))), (1, .inl x1), (2, .inl x2), (3, .inl x3), (4, .inl x4)]) (st' := [.inl x3, .inr (.inr (some 32)), .inl x4]) (pc' := 41) rfl rfl rfl rfl ?_
  obtain ⟨hs0, h⟩ := h
  refine ev_ald (t := 0) (n := 14) (f := aM_sizes M) (w := fun x => .inl x) (pc' := 42) rfl rfl (fun _ _ => rfl) rfl hs0 rfl ?_
  refine ev_icmp (pc' := 86) (pc2 := 45) rfl (by decide) rfl rfl (fun hc => ?_) (fun hc => ?_)
  · replace h := h.1 (of_decide_eq_true hc)
    obtain ⟨hs, h⟩ := h
    refine ev_iinc (lo' := [(3, .inl (x3 + 1)), (0, .inr (.inr (some 30))), (1, .inl x1), (2, .inl x2), (4, .inl x4)]) (pc' := 89) rfl rfl (by decide) (tm_add hs) rfl rfl ?_
    refine ev_br (pc' := 23) (st' := []) rfl rfl rfl ?_
    exact ev_pick [0, 1, 2, 3] rfl rfl h
  · replace h := h.2 (of_decide_eq_false hc)
    refine ev_lo (lo' := [(0, .inr (.inr (some 30))), (1, .inl x1), (2, .inl x2), (3, .inl x3), (4, .inl x4)]) (st' := [.inl x2]) (pc' := 46) rfl rfl rfl rfl ?_
    refine ev_ifT (pc' := 74) (pc2 := 49) rfl (by decide) rfl rfl (fun hc => ?_) (fun hc => ?_)
    · replace h := h.1 (of_decide_eq_true hc)
      exact ev_pick [0, 1, 3, 4] rfl rfl h
    · replace h := h.2 (of_decide_eq_false hc)
      refine ev_lo (lo' := [(0, .inr (.inr (some 30))), (1, .inl x1), (2, .inl x2), (3, .inl x3), (4, .inl x4)]) (st' := [.inr (.inr (some 30))]) (pc' := 50) rfl rfl rfl rfl ?_
      refine ev_lo (lo' := [(0, .inr (.inr (some 30))), (1, .inl x1), (2, .inl x2), (3, .inl x3), (4, .inl x4)]) (st' := [.inl x3, .inr (.inr (some 30))]) (pc' := 51) rfl rfl rfl rfl ?_
      refine ev_lo (lo' := [(0, .inr (.inr (some 30))), (1, .inl x1), (2, .inl x2), (3, .inl x3), (4, .inl x4)]) (st' := [.inl x4, .inl x3, .inr (.inr (some 30))]) (pc' := 53) rfl rfl rfl rfl ?_
      refine ev_call (as := [.inr (.inr (some 30)), .inl x3, .inl x4]) (r := []) (pc' := 56) rfl rfl (Nat.le_of_ble_eq_true rfl) (Nat.le_of_ble_eq_true rfl) ⟨rfl, rfl⟩ (Nat.le_of_ble_eq_true rfl) rfl rfl rfl rfl ?_
      refine ev.post h (fun v M1 h => ?_)
      obtain ⟨w1, rfl, h⟩ := h
      show ev 85 56 [(0, .inr (.inr (some 30))), (1, .inl x1), (2, .inl x2), (3, .inl x3), (4, .inl x4)] [.inl w1] M1 _
      refine ev_ifT (pc' := 78) (pc2 := 59) rfl (by decide) rfl rfl (fun hc => ?_) (fun hc => ?_)
      · replace h := h.1 (of_decide_eq_true hc)
        exact ev_pick [0, 1, 3, 4] rfl rfl h
      · replace h := h.2 (of_decide_eq_false hc)
        refine ev_lo (lo' := [(0, .inr (.inr (some 30))), (1, .inl x1), (2, .inl x2), (3, .inl x3), (4, .inl x4)]) (st' := [.inr (.inr (some 30))]) (pc' := 60) rfl rfl rfl rfl ?_
        refine ev_get (v := .inr (.inr (some 33))) (pc' := 63) rfl rfl rfl rfl ?_
        refine ev_pu (st' := [.inl 4, .inr (.inr (some 33))]) (pc' := 64) rfl rfl rfl rfl ?_
        refine ev_lo (lo' := [(0, .inr (.inr (some 30))), (1, .inl x1), (2, .inl x2), (3, .inl x3), (4, .inl x4)]) (st' := [.inl x3, .inl 4, .inr (.inr (some 33))]) (pc' := 65) rfl rfl rfl rfl ?_
        obtain ⟨hs, h⟩ := h
        refine ev_ii (f := fun a b => a * b) (pc' := 66) rfl rfl (fun _ => rfl) (tm_mul hs) rfl ?_
        refine ev_lo (lo' := [(0, .inr (.inr (some 30))), (1, .inl x1), (2, .inl x2), (3, .inl x3), (4, .inl x4)]) (st' := [.inl x4, .inl (4 * x3), .inr (.inr (some 33))]) (pc' := 68) rfl rfl rfl rfl ?_
        obtain ⟨hs, h⟩ := h
        refine ev_ii (f := fun a b => a + b) (pc' := 69) rfl rfl (fun _ => rfl) (tm_add hs) rfl ?_
        obtain ⟨hs0, h⟩ := h
        refine ev_ald (t := 0) (n := 56) (f := aM_right M1) (w := fun x => .inl x) (pc' := 70) rfl rfl (fun _ _ => rfl) rfl hs0 rfl ?_
        refine ev_lo (lo' := [(0, .inr (.inr (some 30))), (1, .inl x1), (2, .inl x2), (3, .inl x3), (4, .inl x4)]) (st' := [.inl x1, .inl (aM_right M1 ((4 * x3) + x4).toNat)]) (pc' := 71) rfl rfl rfl rfl ?_
        refine ev_icmp (pc' := 78) (pc2 := 74) rfl (by decide) rfl rfl (fun hc => ?_) (fun hc => ?_)
        · replace h := h.1 (of_decide_eq_true hc)
          exact ev_pick [0, 1, 3, 4] rfl rfl h
        · replace h := h.2 (of_decide_eq_false hc)
          exact ev_pick [0, 1, 3, 4] rfl rfl h
set_option maxRecDepth 10000 in
theorem b85_74 {x1 x3 x4 : Int} {M : ev_M} {Q : Int → ev_M → Prop}
    (h : c85_79 x1 x3 x4 1 M Q) : c85_74 x1 x3 x4 M Q := by
  unfold c85_74
  refine ev_pu (st' := [.inl 1]) (pc' := 75) rfl rfl rfl rfl ?_
  refine ev_br (pc' := 79) (st' := [.inl 1]) rfl rfl rfl ?_
  exact ev_pick [0, 1, 3, 4] rfl rfl h
set_option maxRecDepth 10000 in
theorem b85_78 {x1 x3 x4 : Int} {M : ev_M} {Q : Int → ev_M → Prop}
    (h : c85_79 x1 x3 x4 0 M Q) : c85_78 x1 x3 x4 M Q := by
  unfold c85_78
  refine ev_pu (st' := [.inl 0]) (pc' := 79) rfl rfl rfl rfl ?_
  exact ev_pick [0, 1, 3, 4] rfl rfl h
set_option maxRecDepth 10000 in
theorem b85_79 {x1 x3 x4 t0 : Int} {M : ev_M} {Q : Int → ev_M → Prop}
    (h : tm_iI (x4 + 1) ∧ (c85_34 x1 t0 x3 (x4 + 1) M Q)) : c85_79 x1 x3 x4 t0 M Q := by
  unfold c85_79
  refine ev_lo (lo' := [(2, .inl t0), (0, .inr (.inr (some 30))), (1, .inl x1), (3, .inl x3), (4, .inl x4)]) (st' := []) (pc' := 80) rfl rfl rfl rfl ?_
  obtain ⟨hs, h⟩ := h
  refine ev_iinc (lo' := [(4, .inl (x4 + 1)), (2, .inl t0), (0, .inr (.inr (some 30))), (1, .inl x1), (3, .inl x3)]) (pc' := 83) rfl rfl (by decide) (tm_add hs) rfl rfl ?_
  refine ev_br (pc' := 34) (st' := []) rfl rfl rfl ?_
  exact ev_pick [0, 1, 2, 3, 4] rfl rfl h
/-! NulledForestModel.put(II)V -/
def m86 (x1 x2 : Int) (M : ev_M) (Q : ev_M → Prop) : Prop := ev 86 0 [(0, .inr (.inr (some 30))), (1, .inl x1), (2, .inl x2)] [] M (fun v M1 => v = none ∧ Q M1)
def c86_46 (M : ev_M) (Q : ev_M → Prop) : Prop := ev 86 46 [] [] M (fun v M1 => v = none ∧ Q M1)
set_option maxRecDepth 10000 in
theorem b86 {x1 x2 : Int} {M : ev_M} {Q : ev_M → Prop}
    (h : (7 ≤ x1 → (tm_iI (x1 - 7) ∧ (tm_iI (5 * (x1 - 7)) ∧ (tm_iI ((5 * (x1 - 7)) + x2) ∧ ((0 ≤ ((5 * (x1 - 7)) + x2) ∧ ((5 * (x1 - 7)) + x2) < 64) ∧ (1 : Int) * 2 ^ ((5 * (x1 - 7)) + x2).toNat < 9223372036854775808 ∧ ((0 ≤ (sM_newHigh M) ∧ (sM_newHigh M) < 9223372036854775808) ∧ (0 ≤ (tm_sl 1 ((5 * (x1 - 7)) + x2)) ∧ (tm_sl 1 ((5 * (x1 - 7)) + x2)) < 9223372036854775808) ∧ (c86_46 (ev_sS M 15 (tm_or (sM_newHigh M) (tm_sl 1 ((5 * (x1 - 7)) + x2)))) Q))))))) ∧ (¬ (7 ≤ x1) → (tm_iI (5 * x1) ∧ (tm_iI (2 + (5 * x1)) ∧ (tm_iI ((2 + (5 * x1)) + x2) ∧ ((0 ≤ ((2 + (5 * x1)) + x2) ∧ ((2 + (5 * x1)) + x2) < 64) ∧ (1 : Int) * 2 ^ ((2 + (5 * x1)) + x2).toNat < 9223372036854775808 ∧ ((0 ≤ (sM_newLow M) ∧ (sM_newLow M) < 9223372036854775808) ∧ (0 ≤ (tm_sl 1 ((2 + (5 * x1)) + x2)) ∧ (tm_sl 1 ((2 + (5 * x1)) + x2)) < 9223372036854775808) ∧ (c86_46 (ev_sS M 14 (tm_or (sM_newLow M) (tm_sl 1 ((2 + (5 * x1)) + x2)))) Q)))))))) : m86 x1 x2 M Q := by
  unfold m86
  refine ev_lo (lo' := [(0, .inr (.inr (some 30))), (1, .inl x1), (2, .inl x2)]) (st' := [.inl x1]) (pc' := 1) rfl rfl rfl rfl ?_
  refine ev_pu (st' := [.inl 7, .inl x1]) (pc' := 3) rfl rfl rfl rfl ?_
  refine ev_icmp (pc' := 27) (pc2 := 6) rfl (by decide) rfl rfl (fun hc => ?_) (fun hc => ?_)
  · replace h := h.1 (of_decide_eq_true hc)
    refine ev_lo (lo' := [(0, .inr (.inr (some 30))), (1, .inl x1), (2, .inl x2)]) (st' := [.inr (.inr (some 30))]) (pc' := 28) rfl rfl rfl rfl ?_
    refine ev_lo (lo' := [(0, .inr (.inr (some 30))), (1, .inl x1), (2, .inl x2)]) (st' := [.inr (.inr (some 30)), .inr (.inr (some 30))]) (pc' := 29) rfl rfl rfl rfl ?_
    refine ev_get (v := .inr (.inl (sM_newHigh M))) (pc' := 32) rfl rfl rfl rfl ?_
    refine ev_pu (st' := [.inr (.inl 1), .inr (.inl (sM_newHigh M)), .inr (.inr (some 30))]) (pc' := 33) rfl rfl rfl rfl ?_
    refine ev_pu (st' := [.inl 5, .inr (.inl 1), .inr (.inl (sM_newHigh M)), .inr (.inr (some 30))]) (pc' := 34) rfl rfl rfl rfl ?_
    refine ev_lo (lo' := [(0, .inr (.inr (some 30))), (1, .inl x1), (2, .inl x2)]) (st' := [.inl x1, .inl 5, .inr (.inl 1), .inr (.inl (sM_newHigh M)), .inr (.inr (some 30))]) (pc' := 35) rfl rfl rfl rfl ?_
    refine ev_pu (st' := [.inl 7, .inl x1, .inl 5, .inr (.inl 1), .inr (.inl (sM_newHigh M)), .inr (.inr (some 30))]) (pc' := 37) rfl rfl rfl rfl ?_
    obtain ⟨hs, h⟩ := h
    refine ev_ii (f := fun a b => a - b) (pc' := 38) rfl rfl (fun _ => rfl) (tm_sub' hs) rfl ?_
    obtain ⟨hs, h⟩ := h
    refine ev_ii (f := fun a b => a * b) (pc' := 39) rfl rfl (fun _ => rfl) (tm_mul hs) rfl ?_
    refine ev_lo (lo' := [(0, .inr (.inr (some 30))), (1, .inl x1), (2, .inl x2)]) (st' := [.inl x2, .inl (5 * (x1 - 7)), .inr (.inl 1), .inr (.inl (sM_newHigh M)), .inr (.inr (some 30))]) (pc' := 40) rfl rfl rfl rfl ?_
    obtain ⟨hs, h⟩ := h
    refine ev_ii (f := fun a b => a + b) (pc' := 41) rfl rfl (fun _ => rfl) (tm_add hs) rfl ?_
    obtain ⟨hs1, hs2, h⟩ := h
    refine ev_lshl (pc' := 42) rfl (tm_lsl_eq (by decide) hs1 hs2) rfl ?_
    obtain ⟨hs0, hs1, h⟩ := h
    refine ev_ll (f := fun a b => a ||| b) (pc' := 43) rfl rfl (fun _ => rfl) (tm_lor_eq hs0 hs1) rfl ?_
    refine ev_put (M' := ev_sS M 15 (tm_or (sM_newHigh M) (tm_sl 1 ((5 * (x1 - 7)) + x2)))) (pc' := 46) rfl rfl (Nat.le_of_ble_eq_true rfl) rfl (hp_s15 _ _) rfl ?_
    exact ev_pick [] rfl rfl h
  · replace h := h.2 (of_decide_eq_false hc)
    refine ev_lo (lo' := [(0, .inr (.inr (some 30))), (1, .inl x1), (2, .inl x2)]) (st' := [.inr (.inr (some 30))]) (pc' := 7) rfl rfl rfl rfl ?_
    refine ev_lo (lo' := [(0, .inr (.inr (some 30))), (1, .inl x1), (2, .inl x2)]) (st' := [.inr (.inr (some 30)), .inr (.inr (some 30))]) (pc' := 8) rfl rfl rfl rfl ?_
    refine ev_get (v := .inr (.inl (sM_newLow M))) (pc' := 11) rfl rfl rfl rfl ?_
    refine ev_pu (st' := [.inr (.inl 1), .inr (.inl (sM_newLow M)), .inr (.inr (some 30))]) (pc' := 12) rfl rfl rfl rfl ?_
    refine ev_pu (st' := [.inl 2, .inr (.inl 1), .inr (.inl (sM_newLow M)), .inr (.inr (some 30))]) (pc' := 13) rfl rfl rfl rfl ?_
    refine ev_pu (st' := [.inl 5, .inl 2, .inr (.inl 1), .inr (.inl (sM_newLow M)), .inr (.inr (some 30))]) (pc' := 14) rfl rfl rfl rfl ?_
    refine ev_lo (lo' := [(0, .inr (.inr (some 30))), (1, .inl x1), (2, .inl x2)]) (st' := [.inl x1, .inl 5, .inl 2, .inr (.inl 1), .inr (.inl (sM_newLow M)), .inr (.inr (some 30))]) (pc' := 15) rfl rfl rfl rfl ?_
    obtain ⟨hs, h⟩ := h
    refine ev_ii (f := fun a b => a * b) (pc' := 16) rfl rfl (fun _ => rfl) (tm_mul hs) rfl ?_
    obtain ⟨hs, h⟩ := h
    refine ev_ii (f := fun a b => a + b) (pc' := 17) rfl rfl (fun _ => rfl) (tm_add hs) rfl ?_
    refine ev_lo (lo' := [(0, .inr (.inr (some 30))), (1, .inl x1), (2, .inl x2)]) (st' := [.inl x2, .inl (2 + (5 * x1)), .inr (.inl 1), .inr (.inl (sM_newLow M)), .inr (.inr (some 30))]) (pc' := 18) rfl rfl rfl rfl ?_
    obtain ⟨hs, h⟩ := h
    refine ev_ii (f := fun a b => a + b) (pc' := 19) rfl rfl (fun _ => rfl) (tm_add hs) rfl ?_
    obtain ⟨hs1, hs2, h⟩ := h
    refine ev_lshl (pc' := 20) rfl (tm_lsl_eq (by decide) hs1 hs2) rfl ?_
    obtain ⟨hs0, hs1, h⟩ := h
    refine ev_ll (f := fun a b => a ||| b) (pc' := 21) rfl rfl (fun _ => rfl) (tm_lor_eq hs0 hs1) rfl ?_
    refine ev_put (M' := ev_sS M 14 (tm_or (sM_newLow M) (tm_sl 1 ((2 + (5 * x1)) + x2)))) (pc' := 24) rfl rfl (Nat.le_of_ble_eq_true rfl) rfl (hp_s14 _ _) rfl ?_
    refine ev_br (pc' := 46) (st' := []) rfl rfl rfl ?_
    exact ev_pick [] rfl rfl h
set_option maxRecDepth 10000 in
theorem b86_46 {M : ev_M} {Q : ev_M → Prop}
    (h : Q M) : c86_46 M Q := by
  unfold c86_46
  exact ev_rt rfl rfl rfl ⟨rfl, h⟩
/-! NulledForestModel.close()V -/
def m87 (M : ev_M) (Q : ev_M → Prop) : Prop := ev 87 0 [(0, .inr (.inr (some 30)))] [] M (fun v M1 => v = none ∧ Q M1)
def c87_2 (x1 : Int) (M : ev_M) (Q : ev_M → Prop) : Prop := ev 87 2 [(0, .inr (.inr (some 30))), (1, .inl x1)] [] M (fun v M1 => v = none ∧ Q M1)
def c87_10 (x1 x2 : Int) (M : ev_M) (Q : ev_M → Prop) : Prop := ev 87 10 [(0, .inr (.inr (some 30))), (1, .inl x1), (2, .inl x2)] [] M (fun v M1 => v = none ∧ Q M1)
def c87_48 (x1 x2 : Int) (M : ev_M) (Q : ev_M → Prop) : Prop := ev 87 48 [(0, .inr (.inr (some 30))), (1, .inl x1), (2, .inl x2)] [] M (fun v M1 => v = none ∧ Q M1)
set_option maxRecDepth 10000 in
theorem b87 {M : ev_M} {Q : ev_M → Prop}
    (h : c87_2 1 M Q) : m87 M Q := by
  unfold m87
  refine ev_pu (st' := [.inl 1]) (pc' := 1) rfl rfl rfl rfl ?_
  refine ev_lo (lo' := [(1, .inl 1), (0, .inr (.inr (some 30)))]) (st' := []) (pc' := 2) rfl rfl rfl rfl ?_
  exact ev_pick [0, 1] rfl rfl h
set_option maxRecDepth 10000 in
theorem b87_2 {x1 : Int} {M : ev_M} {Q : ev_M → Prop}
    (h : (x1 = 0 → (Q M)) ∧ (¬ (x1 = 0) → (c87_10 0 0 M Q))) : c87_2 x1 M Q := by
  unfold c87_2
  refine ev_lo (lo' := [(0, .inr (.inr (some 30))), (1, .inl x1)]) (st' := [.inl x1]) (pc' := 3) rfl rfl rfl rfl ?_
  refine ev_ifT (pc' := 57) (pc2 := 6) rfl (by decide) rfl rfl (fun hc => ?_) (fun hc => ?_)
  · replace h := h.1 (of_decide_eq_true hc)
    exact ev_rt rfl rfl rfl ⟨rfl, h⟩
  · replace h := h.2 (of_decide_eq_false hc)
    refine ev_pu (st' := [.inl 0]) (pc' := 7) rfl rfl rfl rfl ?_
    refine ev_lo (lo' := [(1, .inl 0), (0, .inr (.inr (some 30)))]) (st' := []) (pc' := 8) rfl rfl rfl rfl ?_
    refine ev_pu (st' := [.inl 0]) (pc' := 9) rfl rfl rfl rfl ?_
    refine ev_lo (lo' := [(2, .inl 0), (1, .inl 0), (0, .inr (.inr (some 30)))]) (st' := []) (pc' := 10) rfl rfl rfl rfl ?_
    exact ev_pick [0, 1, 2] rfl rfl h
set_option maxRecDepth 10000 in
theorem b87_10 {x1 x2 : Int} {M : ev_M} {Q : ev_M → Prop}
    (h : ((sM_rules M) ≤ x2 → (c87_2 x1 M Q)) ∧ (¬ ((sM_rules M) ≤ x2) → (m84 x2 0 M (fun w1 M1 => (¬ w1 = 0 → (c87_48 x1 x2 M1 Q)) ∧ (¬ (¬ w1 = 0) → ((0 ≤ x2 ∧ x2 < 14) ∧ (m85 (aM_left M1 (x2).toNat) M1 (fun w2 M2 => (w2 = 0 → (c87_48 x1 x2 M2 Q)) ∧ (¬ (w2 = 0) → (m86 x2 0 M2 (fun M3 => c87_48 1 x2 M3 Q))))))))))) : c87_10 x1 x2 M Q := by
  unfold c87_10
  refine ev_lo (lo' := [(0, .inr (.inr (some 30))), (1, .inl x1), (2, .inl x2)]) (st' := [.inl x2]) (pc' := 11) rfl rfl rfl rfl ?_
  refine ev_lo (lo' := [(0, .inr (.inr (some 30))), (1, .inl x1), (2, .inl x2)]) (st' := [.inr (.inr (some 30)), .inl x2]) (pc' := 12) rfl rfl rfl rfl ?_
  refine ev_get (v := .inl (sM_rules M)) (pc' := 15) rfl rfl rfl rfl ?_
  refine ev_icmp (pc' := 54) (pc2 := 18) rfl (by decide) rfl rfl (fun hc => ?_) (fun hc => ?_)
  · replace h := h.1 (of_decide_eq_true hc)
    refine ev_br (pc' := 2) (st' := []) rfl rfl rfl ?_
    exact ev_pick [0, 1] rfl rfl h
  · replace h := h.2 (of_decide_eq_false hc)
    refine ev_lo (lo' := [(0, .inr (.inr (some 30))), (1, .inl x1), (2, .inl x2)]) (st' := [.inr (.inr (some 30))]) (pc' := 19) rfl rfl rfl rfl ?_
    refine ev_lo (lo' := [(0, .inr (.inr (some 30))), (1, .inl x1), (2, .inl x2)]) (st' := [.inl x2, .inr (.inr (some 30))]) (pc' := 20) rfl rfl rfl rfl ?_
    refine ev_pu (st' := [.inl 0, .inl x2, .inr (.inr (some 30))]) (pc' := 21) rfl rfl rfl rfl ?_
    refine ev_call (as := [.inr (.inr (some 30)), .inl x2, .inl 0]) (r := []) (pc' := 24) rfl rfl (Nat.le_of_ble_eq_true rfl) (Nat.le_of_ble_eq_true rfl) ⟨rfl, rfl⟩ (Nat.le_of_ble_eq_true rfl) rfl rfl rfl rfl ?_
    refine ev.post h (fun v M1 h => ?_)
    obtain ⟨w1, rfl, h⟩ := h
    show ev 87 24 [(0, .inr (.inr (some 30))), (1, .inl x1), (2, .inl x2)] [.inl w1] M1 _
    refine ev_ifT (pc' := 48) (pc2 := 27) rfl (by decide) rfl rfl (fun hc => ?_) (fun hc => ?_)
    · replace h := h.1 (of_decide_eq_true hc)
      exact ev_pick [0, 1, 2] rfl rfl h
    · replace h := h.2 (of_decide_eq_false hc)
      refine ev_lo (lo' := [(0, .inr (.inr (some 30))), (1, .inl x1), (2, .inl x2)]) (st' := [.inr (.inr (some 30))]) (pc' := 28) rfl rfl rfl rfl ?_
      refine ev_lo (lo' := [(0, .inr (.inr (some 30))), (1, .inl x1), (2, .inl x2)]) (st' := [.inr (.inr (some 30)), .inr (.inr (some 30))]) (pc' := 29) rfl rfl rfl rfl ?_
      refine ev_get (v := .inr (.inr (some 31))) (pc' := 32) rfl rfl rfl rfl ?_
      refine ev_lo (lo' := [(0, .inr (.inr (some 30))), (1, .inl x1), (2, .inl x2)]) (st' := [.inl x2, .inr (.inr (some 31)), .inr (.inr (some 30))]) (pc' := 33) rfl rfl rfl rfl ?_
      obtain ⟨hs0, h⟩ := h
      refine ev_ald (t := 0) (n := 14) (f := aM_left M1) (w := fun x => .inl x) (pc' := 34) rfl rfl (fun _ _ => rfl) rfl hs0 rfl ?_
      refine ev_call (as := [.inr (.inr (some 30)), .inl (aM_left M1 (x2).toNat)]) (r := []) (pc' := 37) rfl rfl (Nat.le_of_ble_eq_true rfl) (Nat.le_of_ble_eq_true rfl) ⟨rfl, rfl⟩ (Nat.le_of_ble_eq_true rfl) rfl rfl rfl rfl ?_
      refine ev.post h (fun v M2 h => ?_)
      obtain ⟨w2, rfl, h⟩ := h
      show ev 87 37 [(0, .inr (.inr (some 30))), (1, .inl x1), (2, .inl x2)] [.inl w2] M2 _
      refine ev_ifT (pc' := 48) (pc2 := 40) rfl (by decide) rfl rfl (fun hc => ?_) (fun hc => ?_)
      · replace h := h.1 (of_decide_eq_true hc)
        exact ev_pick [0, 1, 2] rfl rfl h
      · replace h := h.2 (of_decide_eq_false hc)
        refine ev_lo (lo' := [(0, .inr (.inr (some 30))), (1, .inl x1), (2, .inl x2)]) (st' := [.inr (.inr (some 30))]) (pc' := 41) rfl rfl rfl rfl ?_
        refine ev_lo (lo' := [(0, .inr (.inr (some 30))), (1, .inl x1), (2, .inl x2)]) (st' := [.inl x2, .inr (.inr (some 30))]) (pc' := 42) rfl rfl rfl rfl ?_
        refine ev_pu (st' := [.inl 0, .inl x2, .inr (.inr (some 30))]) (pc' := 43) rfl rfl rfl rfl ?_
        refine ev_call (as := [.inr (.inr (some 30)), .inl x2, .inl 0]) (r := []) (pc' := 46) rfl rfl (Nat.le_of_ble_eq_true rfl) (Nat.le_of_ble_eq_true rfl) ⟨rfl, rfl⟩ (Nat.le_of_ble_eq_true rfl) rfl rfl rfl rfl ?_
        refine ev.post h (fun v M3 h => ?_)
        obtain ⟨rfl, h⟩ := h
        show ev 87 46 [(0, .inr (.inr (some 30))), (1, .inl x1), (2, .inl x2)] [] M3 _
        refine ev_pu (st' := [.inl 1]) (pc' := 47) rfl rfl rfl rfl ?_
        refine ev_lo (lo' := [(1, .inl 1), (0, .inr (.inr (some 30))), (2, .inl x2)]) (st' := []) (pc' := 48) rfl rfl rfl rfl ?_
        exact ev_pick [0, 1, 2] rfl rfl h
set_option maxRecDepth 10000 in
theorem b87_48 {x1 x2 : Int} {M : ev_M} {Q : ev_M → Prop}
    (h : tm_iI (x2 + 1) ∧ (c87_10 x1 (x2 + 1) M Q)) : c87_48 x1 x2 M Q := by
  unfold c87_48
  obtain ⟨hs, h⟩ := h
  refine ev_iinc (lo' := [(2, .inl (x2 + 1)), (0, .inr (.inr (some 30))), (1, .inl x1)]) (pc' := 51) rfl rfl (by decide) (tm_add hs) rfl rfl ?_
  refine ev_br (pc' := 10) (st' := []) rfl rfl rfl ?_
  exact ev_pick [0, 1, 2] rfl rfl h
/-! NulledForestModel.keep()I -/
def m88 (M : ev_M) (Q : Int → ev_M → Prop) : Prop := ev 88 0 [(0, .inr (.inr (some 30)))] [] M (fun v M1 => ∃ w : Int, v = some (.inl w) ∧ Q w M1)
def c88_2 (x1 : Int) (M : ev_M) (Q : Int → ev_M → Prop) : Prop := ev 88 2 [(0, .inr (.inr (some 30))), (1, .inl x1)] [] M (fun v M1 => ∃ w : Int, v = some (.inl w) ∧ Q w M1)
def c88_40 (x1 : Int) (M : ev_M) (Q : Int → ev_M → Prop) : Prop := ev 88 40 [(0, .inr (.inr (some 30))), (1, .inl x1)] [] M (fun v M1 => ∃ w : Int, v = some (.inl w) ∧ Q w M1)
set_option maxRecDepth 10000 in
theorem b88 {M : ev_M} {Q : Int → ev_M → Prop}
    (h : c88_2 0 M Q) : m88 M Q := by
  unfold m88
  refine ev_pu (st' := [.inl 0]) (pc' := 1) rfl rfl rfl rfl ?_
  refine ev_lo (lo' := [(1, .inl 0), (0, .inr (.inr (some 30)))]) (st' := []) (pc' := 2) rfl rfl rfl rfl ?_
  exact ev_pick [0, 1] rfl rfl h
set_option maxRecDepth 10000 in
theorem b88_2 {x1 : Int} {M : ev_M} {Q : Int → ev_M → Prop}
    (h : ((sM_states M) ≤ x1 → ((0 ≤ (sM_states M) ∧ (sM_states M) < 61) ∧ ((0 ≤ (sM_states M) ∧ (sM_states M) < 61) ∧ (tm_iI ((sM_states M) + 1) ∧ (tm_iI (((sM_states M) + 1) - 1) ∧ (Q (((sM_states M) + 1) - 1) (ev_sS (ev_sA (ev_sA M 35 (sM_states M).toNat (sM_newLow M)) 36 (sM_states M).toNat (sM_newHigh M)) 13 ((sM_states M) + 1)))))))) ∧ (¬ ((sM_states M) ≤ x1) → ((0 ≤ x1 ∧ x1 < 61) ∧ ((¬ (aM_low M (x1).toNat) = (sM_newLow M) → (c88_40 x1 M Q)) ∧ (¬ (¬ (aM_low M (x1).toNat) = (sM_newLow M)) → ((0 ≤ x1 ∧ x1 < 61) ∧ ((¬ (aM_high M (x1).toNat) = (sM_newHigh M) → (c88_40 x1 M Q)) ∧ (¬ (¬ (aM_high M (x1).toNat) = (sM_newHigh M)) → (Q x1 M))))))))) : c88_2 x1 M Q := by
  unfold c88_2
  refine ev_lo (lo' := [(0, .inr (.inr (some 30))), (1, .inl x1)]) (st' := [.inl x1]) (pc' := 3) rfl rfl rfl rfl ?_
  refine ev_lo (lo' := [(0, .inr (.inr (some 30))), (1, .inl x1)]) (st' := [.inr (.inr (some 30)), .inl x1]) (pc' := 4) rfl rfl rfl rfl ?_
  refine ev_get (v := .inl (sM_states M)) (pc' := 7) rfl rfl rfl rfl ?_
  refine ev_icmp (pc' := 46) (pc2 := 10) rfl (by decide) rfl rfl (fun hc => ?_) (fun hc => ?_)
  · replace h := h.1 (of_decide_eq_true hc)
    refine ev_lo (lo' := [(0, .inr (.inr (some 30))), (1, .inl x1)]) (st' := [.inr (.inr (some 30))]) (pc' := 47) rfl rfl rfl rfl ?_
    refine ev_get (v := .inr (.inr (some 35))) (pc' := 50) rfl rfl rfl rfl ?_
    refine ev_lo (lo' := [(0, .inr (.inr (some 30))), (1, .inl x1)]) (st' := [.inr (.inr (some 30)), .inr (.inr (some 35))]) (pc' := 51) rfl rfl rfl rfl ?_
    refine ev_get (v := .inl (sM_states M)) (pc' := 54) rfl rfl rfl rfl ?_
    refine ev_lo (lo' := [(0, .inr (.inr (some 30))), (1, .inl x1)]) (st' := [.inr (.inr (some 30)), .inl (sM_states M), .inr (.inr (some 35))]) (pc' := 55) rfl rfl rfl rfl ?_
    refine ev_get (v := .inr (.inl (sM_newLow M))) (pc' := 58) rfl rfl rfl rfl ?_
    obtain ⟨hs0, h⟩ := h
    refine ev_last (n := 61) (f := aM_low M) (M' := ev_sA M 35 (sM_states M).toNat (sM_newLow M)) (pc' := 59) rfl rfl hs0 (hp_a35 _ _ _) rfl ?_
    refine ev_lo (lo' := [(0, .inr (.inr (some 30))), (1, .inl x1)]) (st' := [.inr (.inr (some 30))]) (pc' := 60) rfl rfl rfl rfl ?_
    refine ev_get (v := .inr (.inr (some 36))) (pc' := 63) rfl rfl rfl rfl ?_
    refine ev_lo (lo' := [(0, .inr (.inr (some 30))), (1, .inl x1)]) (st' := [.inr (.inr (some 30)), .inr (.inr (some 36))]) (pc' := 64) rfl rfl rfl rfl ?_
    refine ev_get (v := .inl (sM_states M)) (pc' := 67) rfl rfl rfl rfl ?_
    refine ev_lo (lo' := [(0, .inr (.inr (some 30))), (1, .inl x1)]) (st' := [.inr (.inr (some 30)), .inl (sM_states M), .inr (.inr (some 36))]) (pc' := 68) rfl rfl rfl rfl ?_
    refine ev_get (v := .inr (.inl (sM_newHigh M))) (pc' := 71) rfl rfl rfl rfl ?_
    obtain ⟨hs0, h⟩ := h
    refine ev_last (n := 61) (f := aM_high M) (M' := ev_sA (ev_sA M 35 (sM_states M).toNat (sM_newLow M)) 36 (sM_states M).toNat (sM_newHigh M)) (pc' := 72) rfl rfl hs0 (hp_a36 _ _ _) rfl ?_
    refine ev_lo (lo' := [(0, .inr (.inr (some 30))), (1, .inl x1)]) (st' := [.inr (.inr (some 30))]) (pc' := 73) rfl rfl rfl rfl ?_
    refine ev_lo (lo' := [(0, .inr (.inr (some 30))), (1, .inl x1)]) (st' := [.inr (.inr (some 30)), .inr (.inr (some 30))]) (pc' := 74) rfl rfl rfl rfl ?_
    refine ev_get (v := .inl (sM_states M)) (pc' := 77) rfl rfl rfl rfl ?_
    refine ev_pu (st' := [.inl 1, .inl (sM_states M), .inr (.inr (some 30))]) (pc' := 78) rfl rfl rfl rfl ?_
    obtain ⟨hs, h⟩ := h
    refine ev_ii (f := fun a b => a + b) (pc' := 79) rfl rfl (fun _ => rfl) (tm_add hs) rfl ?_
    refine ev_put (M' := ev_sS (ev_sA (ev_sA M 35 (sM_states M).toNat (sM_newLow M)) 36 (sM_states M).toNat (sM_newHigh M)) 13 ((sM_states M) + 1)) (pc' := 82) rfl rfl (Nat.le_of_ble_eq_true rfl) rfl (hp_s13 _ _) rfl ?_
    refine ev_lo (lo' := [(0, .inr (.inr (some 30))), (1, .inl x1)]) (st' := [.inr (.inr (some 30))]) (pc' := 83) rfl rfl rfl rfl ?_
    refine ev_get (v := .inl ((sM_states M) + 1)) (pc' := 86) rfl rfl rfl rfl ?_
    refine ev_pu (st' := [.inl 1, .inl ((sM_states M) + 1)]) (pc' := 87) rfl rfl rfl rfl ?_
    obtain ⟨hs, h⟩ := h
    refine ev_ii (f := fun a b => a - b) (pc' := 88) rfl rfl (fun _ => rfl) (tm_sub' hs) rfl ?_
    exact ev_rt rfl rfl rfl ⟨_, rfl, h⟩
  · replace h := h.2 (of_decide_eq_false hc)
    refine ev_lo (lo' := [(0, .inr (.inr (some 30))), (1, .inl x1)]) (st' := [.inr (.inr (some 30))]) (pc' := 11) rfl rfl rfl rfl ?_
    refine ev_get (v := .inr (.inr (some 35))) (pc' := 14) rfl rfl rfl rfl ?_
    refine ev_lo (lo' := [(0, .inr (.inr (some 30))), (1, .inl x1)]) (st' := [.inl x1, .inr (.inr (some 35))]) (pc' := 15) rfl rfl rfl rfl ?_
    obtain ⟨hs0, h⟩ := h
    refine ev_ald (t := 1) (n := 61) (f := aM_low M) (w := fun x => .inr (.inl x)) (pc' := 16) rfl rfl (fun _ _ => rfl) rfl hs0 rfl ?_
    refine ev_lo (lo' := [(0, .inr (.inr (some 30))), (1, .inl x1)]) (st' := [.inr (.inr (some 30)), .inr (.inl (aM_low M (x1).toNat))]) (pc' := 17) rfl rfl rfl rfl ?_
    refine ev_get (v := .inr (.inl (sM_newLow M))) (pc' := 20) rfl rfl rfl rfl ?_
    refine ev_lcmp (pc1 := 21) (pc' := 40) (pc2 := 24) rfl rfl rfl (by decide) rfl rfl (fun hc => ?_) (fun hc => ?_)
    · replace h := h.1 (of_decide_eq_true hc)
      exact ev_pick [0, 1] rfl rfl h
    · replace h := h.2 (of_decide_eq_false hc)
      refine ev_lo (lo' := [(0, .inr (.inr (some 30))), (1, .inl x1)]) (st' := [.inr (.inr (some 30))]) (pc' := 25) rfl rfl rfl rfl ?_
      refine ev_get (v := .inr (.inr (some 36))) (pc' := 28) rfl rfl rfl rfl ?_
      refine ev_lo (lo' := [(0, .inr (.inr (some 30))), (1, .inl x1)]) (st' := [.inl x1, .inr (.inr (some 36))]) (pc' := 29) rfl rfl rfl rfl ?_
      obtain ⟨hs0, h⟩ := h
      refine ev_ald (t := 1) (n := 61) (f := aM_high M) (w := fun x => .inr (.inl x)) (pc' := 30) rfl rfl (fun _ _ => rfl) rfl hs0 rfl ?_
      refine ev_lo (lo' := [(0, .inr (.inr (some 30))), (1, .inl x1)]) (st' := [.inr (.inr (some 30)), .inr (.inl (aM_high M (x1).toNat))]) (pc' := 31) rfl rfl rfl rfl ?_
      refine ev_get (v := .inr (.inl (sM_newHigh M))) (pc' := 34) rfl rfl rfl rfl ?_
      refine ev_lcmp (pc1 := 35) (pc' := 40) (pc2 := 38) rfl rfl rfl (by decide) rfl rfl (fun hc => ?_) (fun hc => ?_)
      · replace h := h.1 (of_decide_eq_true hc)
        exact ev_pick [0, 1] rfl rfl h
      · replace h := h.2 (of_decide_eq_false hc)
        refine ev_lo (lo' := [(0, .inr (.inr (some 30))), (1, .inl x1)]) (st' := [.inl x1]) (pc' := 39) rfl rfl rfl rfl ?_
        exact ev_rt rfl rfl rfl ⟨_, rfl, h⟩
set_option maxRecDepth 10000 in
theorem b88_40 {x1 : Int} {M : ev_M} {Q : Int → ev_M → Prop}
    (h : tm_iI (x1 + 1) ∧ (c88_2 (x1 + 1) M Q)) : c88_40 x1 M Q := by
  unfold c88_40
  obtain ⟨hs, h⟩ := h
  refine ev_iinc (lo' := [(1, .inl (x1 + 1)), (0, .inr (.inr (some 30)))]) (pc' := 43) rfl rfl (by decide) (tm_add hs) rfl rfl ?_
  refine ev_br (pc' := 2) (st' := []) rfl rfl rfl ?_
  exact ev_pick [0, 1] rfl rfl h
/-! NulledForestModel.has(III)Z -/
def m89 (x1 x2 x3 : Int) (M : ev_M) (Q : Int → ev_M → Prop) : Prop := ev 89 0 [(0, .inr (.inr (some 30))), (1, .inl x1), (2, .inl x2), (3, .inl x3)] [] M (fun v M1 => ∃ w : Int, v = some (.inl w) ∧ Q w M1)
def c89_62 (t0 : Int) (M : ev_M) (Q : Int → ev_M → Prop) : Prop := ev 89 62 [] [.inl t0] M (fun v M1 => ∃ w : Int, v = some (.inl w) ∧ Q w M1)
set_option maxRecDepth 10000 in
theorem b89 {x1 x2 x3 : Int} {M : ev_M} {Q : Int → ev_M → Prop}
    (h : (7 ≤ x2 → ((0 ≤ x1 ∧ x1 < 61) ∧ (tm_iI (x2 - 7) ∧ (tm_iI (5 * (x2 - 7)) ∧ (tm_iI ((5 * (x2 - 7)) + x3) ∧ ((0 ≤ (aM_high M (x1).toNat) ∧ (aM_high M (x1).toNat) < 9223372036854775808) ∧ (0 ≤ ((5 * (x2 - 7)) + x3) ∧ ((5 * (x2 - 7)) + x3) < 64) ∧ ((0 ≤ (tm_sr (aM_high M (x1).toNat) ((5 * (x2 - 7)) + x3)) ∧ (tm_sr (aM_high M (x1).toNat) ((5 * (x2 - 7)) + x3)) < 9223372036854775808) ∧ ((¬ (tm_an (tm_sr (aM_high M (x1).toNat) ((5 * (x2 - 7)) + x3)) 1) = 1 → (c89_62 0 M Q)) ∧ (¬ (¬ (tm_an (tm_sr (aM_high M (x1).toNat) ((5 * (x2 - 7)) + x3)) 1) = 1) → (c89_62 1 M Q)))))))))) ∧ (¬ (7 ≤ x2) → ((0 ≤ x1 ∧ x1 < 61) ∧ (tm_iI (5 * x2) ∧ (tm_iI (2 + (5 * x2)) ∧ (tm_iI ((2 + (5 * x2)) + x3) ∧ ((0 ≤ (aM_low M (x1).toNat) ∧ (aM_low M (x1).toNat) < 9223372036854775808) ∧ (0 ≤ ((2 + (5 * x2)) + x3) ∧ ((2 + (5 * x2)) + x3) < 64) ∧ ((0 ≤ (tm_sr (aM_low M (x1).toNat) ((2 + (5 * x2)) + x3)) ∧ (tm_sr (aM_low M (x1).toNat) ((2 + (5 * x2)) + x3)) < 9223372036854775808) ∧ ((¬ (tm_an (tm_sr (aM_low M (x1).toNat) ((2 + (5 * x2)) + x3)) 1) = 1 → (c89_62 0 M Q)) ∧ (¬ (¬ (tm_an (tm_sr (aM_low M (x1).toNat) ((2 + (5 * x2)) + x3)) 1) = 1) → (c89_62 1 M Q))))))))))) : m89 x1 x2 x3 M Q := by
  unfold m89
  refine ev_lo (lo' := [(0, .inr (.inr (some 30))), (1, .inl x1), (2, .inl x2), (3, .inl x3)]) (st' := [.inl x2]) (pc' := 1) rfl rfl rfl rfl ?_
  refine ev_pu (st' := [.inl 7, .inl x2]) (pc' := 3) rfl rfl rfl rfl ?_
  refine ev_icmp (pc' := 35) (pc2 := 6) rfl (by decide) rfl rfl (fun hc => ?_) (fun hc => ?_)
  · replace h := h.1 (of_decide_eq_true hc)
    refine ev_lo (lo' := [(0, .inr (.inr (some 30))), (1, .inl x1), (2, .inl x2), (3, .inl x3)]) (st' := [.inr (.inr (some 30))]) (pc' := 36) rfl rfl rfl rfl ?_
    refine ev_get (v := .inr (.inr (some 36))) (pc' := 39) rfl rfl rfl rfl ?_
    refine ev_lo (lo' := [(0, .inr (.inr (some 30))), (1, .inl x1), (2, .inl x2), (3, .inl x3)]) (st' := [.inl x1, .inr (.inr (some 36))]) (pc' := 40) rfl rfl rfl rfl ?_
    obtain ⟨hs0, h⟩ := h
    refine ev_ald (t := 1) (n := 61) (f := aM_high M) (w := fun x => .inr (.inl x)) (pc' := 41) rfl rfl (fun _ _ => rfl) rfl hs0 rfl ?_
    refine ev_pu (st' := [.inl 5, .inr (.inl (aM_high M (x1).toNat))]) (pc' := 42) rfl rfl rfl rfl ?_
    refine ev_lo (lo' := [(0, .inr (.inr (some 30))), (1, .inl x1), (2, .inl x2), (3, .inl x3)]) (st' := [.inl x2, .inl 5, .inr (.inl (aM_high M (x1).toNat))]) (pc' := 43) rfl rfl rfl rfl ?_
    refine ev_pu (st' := [.inl 7, .inl x2, .inl 5, .inr (.inl (aM_high M (x1).toNat))]) (pc' := 45) rfl rfl rfl rfl ?_
    obtain ⟨hs, h⟩ := h
    refine ev_ii (f := fun a b => a - b) (pc' := 46) rfl rfl (fun _ => rfl) (tm_sub' hs) rfl ?_
    obtain ⟨hs, h⟩ := h
    refine ev_ii (f := fun a b => a * b) (pc' := 47) rfl rfl (fun _ => rfl) (tm_mul hs) rfl ?_
    refine ev_lo (lo' := [(0, .inr (.inr (some 30))), (1, .inl x1), (2, .inl x2), (3, .inl x3)]) (st' := [.inl x3, .inl (5 * (x2 - 7)), .inr (.inl (aM_high M (x1).toNat))]) (pc' := 48) rfl rfl rfl rfl ?_
    obtain ⟨hs, h⟩ := h
    refine ev_ii (f := fun a b => a + b) (pc' := 49) rfl rfl (fun _ => rfl) (tm_add hs) rfl ?_
    obtain ⟨hs0, hs1, h⟩ := h
    refine ev_lshr (pc' := 50) rfl (tm_lsr_eq hs0 hs1) rfl ?_
    refine ev_pu (st' := [.inr (.inl 1), .inr (.inl (tm_sr (aM_high M (x1).toNat) ((5 * (x2 - 7)) + x3)))]) (pc' := 51) rfl rfl rfl rfl ?_
    obtain ⟨hs0, h⟩ := h
    refine ev_ll (f := fun a b => a &&& b) (pc' := 52) rfl rfl (fun _ => rfl) (tm_lan_eq hs0 (by decide)) rfl ?_
    refine ev_pu (st' := [.inr (.inl 1), .inr (.inl (tm_an (tm_sr (aM_high M (x1).toNat) ((5 * (x2 - 7)) + x3)) 1))]) (pc' := 53) rfl rfl rfl rfl ?_
    refine ev_lcmp (pc1 := 54) (pc' := 61) (pc2 := 57) rfl rfl rfl (by decide) rfl rfl (fun hc => ?_) (fun hc => ?_)
    · replace h := h.1 (of_decide_eq_true hc)
      refine ev_pu (st' := [.inl 0]) (pc' := 62) rfl rfl rfl rfl ?_
      exact ev_pick [] rfl rfl h
    · replace h := h.2 (of_decide_eq_false hc)
      refine ev_pu (st' := [.inl 1]) (pc' := 58) rfl rfl rfl rfl ?_
      refine ev_br (pc' := 62) (st' := [.inl 1]) rfl rfl rfl ?_
      exact ev_pick [] rfl rfl h
  · replace h := h.2 (of_decide_eq_false hc)
    refine ev_lo (lo' := [(0, .inr (.inr (some 30))), (1, .inl x1), (2, .inl x2), (3, .inl x3)]) (st' := [.inr (.inr (some 30))]) (pc' := 7) rfl rfl rfl rfl ?_
    refine ev_get (v := .inr (.inr (some 35))) (pc' := 10) rfl rfl rfl rfl ?_
    refine ev_lo (lo' := [(0, .inr (.inr (some 30))), (1, .inl x1), (2, .inl x2), (3, .inl x3)]) (st' := [.inl x1, .inr (.inr (some 35))]) (pc' := 11) rfl rfl rfl rfl ?_
    obtain ⟨hs0, h⟩ := h
    refine ev_ald (t := 1) (n := 61) (f := aM_low M) (w := fun x => .inr (.inl x)) (pc' := 12) rfl rfl (fun _ _ => rfl) rfl hs0 rfl ?_
    refine ev_pu (st' := [.inl 2, .inr (.inl (aM_low M (x1).toNat))]) (pc' := 13) rfl rfl rfl rfl ?_
    refine ev_pu (st' := [.inl 5, .inl 2, .inr (.inl (aM_low M (x1).toNat))]) (pc' := 14) rfl rfl rfl rfl ?_
    refine ev_lo (lo' := [(0, .inr (.inr (some 30))), (1, .inl x1), (2, .inl x2), (3, .inl x3)]) (st' := [.inl x2, .inl 5, .inl 2, .inr (.inl (aM_low M (x1).toNat))]) (pc' := 15) rfl rfl rfl rfl ?_
    obtain ⟨hs, h⟩ := h
    refine ev_ii (f := fun a b => a * b) (pc' := 16) rfl rfl (fun _ => rfl) (tm_mul hs) rfl ?_
    obtain ⟨hs, h⟩ := h
    refine ev_ii (f := fun a b => a + b) (pc' := 17) rfl rfl (fun _ => rfl) (tm_add hs) rfl ?_
    refine ev_lo (lo' := [(0, .inr (.inr (some 30))), (1, .inl x1), (2, .inl x2), (3, .inl x3)]) (st' := [.inl x3, .inl (2 + (5 * x2)), .inr (.inl (aM_low M (x1).toNat))]) (pc' := 18) rfl rfl rfl rfl ?_
    obtain ⟨hs, h⟩ := h
    refine ev_ii (f := fun a b => a + b) (pc' := 19) rfl rfl (fun _ => rfl) (tm_add hs) rfl ?_
    obtain ⟨hs0, hs1, h⟩ := h
    refine ev_lshr (pc' := 20) rfl (tm_lsr_eq hs0 hs1) rfl ?_
    refine ev_pu (st' := [.inr (.inl 1), .inr (.inl (tm_sr (aM_low M (x1).toNat) ((2 + (5 * x2)) + x3)))]) (pc' := 21) rfl rfl rfl rfl ?_
    obtain ⟨hs0, h⟩ := h
    refine ev_ll (f := fun a b => a &&& b) (pc' := 22) rfl rfl (fun _ => rfl) (tm_lan_eq hs0 (by decide)) rfl ?_
    refine ev_pu (st' := [.inr (.inl 1), .inr (.inl (tm_an (tm_sr (aM_low M (x1).toNat) ((2 + (5 * x2)) + x3)) 1))]) (pc' := 23) rfl rfl rfl rfl ?_
    refine ev_lcmp (pc1 := 24) (pc' := 31) (pc2 := 27) rfl rfl rfl (by decide) rfl rfl (fun hc => ?_) (fun hc => ?_)
    · replace h := h.1 (of_decide_eq_true hc)
      refine ev_pu (st' := [.inl 0]) (pc' := 32) rfl rfl rfl rfl ?_
      refine ev_br (pc' := 62) (st' := [.inl 0]) rfl rfl rfl ?_
      exact ev_pick [] rfl rfl h
    · replace h := h.2 (of_decide_eq_false hc)
      refine ev_pu (st' := [.inl 1]) (pc' := 28) rfl rfl rfl rfl ?_
      refine ev_br (pc' := 62) (st' := [.inl 1]) rfl rfl rfl ?_
      exact ev_pick [] rfl rfl h
set_option maxRecDepth 10000 in
theorem b89_62 {t0 : Int} {M : ev_M} {Q : Int → ev_M → Prop}
    (h : (t0 = 0 ∨ t0 = 1) ∧ Q t0 M) : c89_62 t0 M Q := by
  unfold c89_62
  obtain ⟨hs, h⟩ := h
  exact ev_rtZ rfl rfl hs ⟨_, rfl, h⟩
/-! NulledForestModel.move(II)V -/
def m90 (x1 x2 : Int) (M : ev_M) (Q : ev_M → Prop) : Prop := ev 90 0 [(0, .inr (.inr (some 30))), (1, .inl x1), (2, .inl x2)] [] M (fun v M1 => v = none ∧ Q M1)
def c90_24 (x1 x2 : Int) (M : ev_M) (Q : ev_M → Prop) : Prop := ev 90 24 [(0, .inr (.inr (some 30))), (1, .inl x1), (2, .inl x2)] [.inr (.inr (some 30))] M (fun v M1 => v = none ∧ Q M1)
def c90_25 (x1 x2 t1 : Int) (M : ev_M) (Q : ev_M → Prop) : Prop := ev 90 25 [(0, .inr (.inr (some 30))), (1, .inl x1), (2, .inl x2)] [.inr (.inl t1), .inr (.inr (some 30))] M (fun v M1 => v = none ∧ Q M1)
def c90_35 (x1 x2 x3 : Int) (M : ev_M) (Q : ev_M → Prop) : Prop := ev 90 35 [(0, .inr (.inr (some 30))), (1, .inl x1), (2, .inl x2), (3, .inl x3)] [] M (fun v M1 => v = none ∧ Q M1)
def c90_46 (x1 x2 x3 x4 : Int) (M : ev_M) (Q : ev_M → Prop) : Prop := ev 90 46 [(0, .inr (.inr (some 30))), (1, .inl x1), (2, .inl x2), (3, .inl x3), (4, .inl x4)] [] M (fun v M1 => v = none ∧ Q M1)
def c90_92 (x1 x2 x3 x4 : Int) (M : ev_M) (Q : ev_M → Prop) : Prop := ev 90 92 [(0, .inr (.inr (some 30))), (1, .inl x1), (2, .inl x2), (3, .inl x3), (4, .inl x4)] [] M (fun v M1 => v = none ∧ Q M1)
set_option maxRecDepth 10000 in
theorem b90 {x1 x2 : Int} {M : ev_M} {Q : ev_M → Prop}
    (h : (¬ x2 = 0 → (c90_24 x1 x2 M Q)) ∧ (¬ (¬ x2 = 0) → ((0 ≤ x1 ∧ x1 < 61) ∧ ((0 ≤ (aM_low M (x1).toNat) ∧ (aM_low M (x1).toNat) < 9223372036854775808) ∧ ((¬ (tm_an (aM_low M (x1).toNat) 1) = 1 → (c90_24 x1 x2 M Q)) ∧ (¬ (¬ (tm_an (aM_low M (x1).toNat) 1) = 1) → (c90_25 x1 x2 2 M Q))))))) : m90 x1 x2 M Q := by
  unfold m90
  refine ev_lo (lo' := [(0, .inr (.inr (some 30))), (1, .inl x1), (2, .inl x2)]) (st' := [.inr (.inr (some 30))]) (pc' := 1) rfl rfl rfl rfl ?_
  refine ev_lo (lo' := [(0, .inr (.inr (some 30))), (1, .inl x1), (2, .inl x2)]) (st' := [.inl x2, .inr (.inr (some 30))]) (pc' := 2) rfl rfl rfl rfl ?_
  refine ev_ifT (pc' := 24) (pc2 := 5) rfl (by decide) rfl rfl (fun hc => ?_) (fun hc => ?_)
  · replace h := h.1 (of_decide_eq_true hc)
    exact ev_pick [0, 1, 2] rfl rfl h
  · replace h := h.2 (of_decide_eq_false hc)
    refine ev_lo (lo' := [(0, .inr (.inr (some 30))), (1, .inl x1), (2, .inl x2)]) (st' := [.inr (.inr (some 30)), .inr (.inr (some 30))]) (pc' := 6) rfl rfl rfl rfl ?_
    refine ev_get (v := .inr (.inr (some 35))) (pc' := 9) rfl rfl rfl rfl ?_
    refine ev_lo (lo' := [(0, .inr (.inr (some 30))), (1, .inl x1), (2, .inl x2)]) (st' := [.inl x1, .inr (.inr (some 35)), .inr (.inr (some 30))]) (pc' := 10) rfl rfl rfl rfl ?_
    obtain ⟨hs0, h⟩ := h
    refine ev_ald (t := 1) (n := 61) (f := aM_low M) (w := fun x => .inr (.inl x)) (pc' := 11) rfl rfl (fun _ _ => rfl) rfl hs0 rfl ?_
    refine ev_pu (st' := [.inr (.inl 1), .inr (.inl (aM_low M (x1).toNat)), .inr (.inr (some 30))]) (pc' := 12) rfl rfl rfl rfl ?_
    obtain ⟨hs0, h⟩ := h
    refine ev_ll (f := fun a b => a &&& b) (pc' := 13) rfl rfl (fun _ => rfl) (tm_lan_eq hs0 (by decide)) rfl ?_
    refine ev_pu (st' := [.inr (.inl 1), .inr (.inl (tm_an (aM_low M (x1).toNat) 1)), .inr (.inr (some 30))]) (pc' := 14) rfl rfl rfl rfl ?_
    refine ev_lcmp (pc1 := 15) (pc' := 24) (pc2 := 18) rfl rfl rfl (by decide) rfl rfl (fun hc => ?_) (fun hc => ?_)
    · replace h := h.1 (of_decide_eq_true hc)
      exact ev_pick [0, 1, 2] rfl rfl h
    · replace h := h.2 (of_decide_eq_false hc)
      refine ev_kc (st' := [.inr (.inl 2), .inr (.inr (some 30))]) (pc' := 21) rfl rfl rfl rfl ?_
      refine ev_br (pc' := 25) (st' := [.inr (.inl 2), .inr (.inr (some 30))]) rfl rfl rfl ?_
      exact ev_pick [0, 1, 2] rfl rfl h
set_option maxRecDepth 10000 in
theorem b90_24 {x1 x2 : Int} {M : ev_M} {Q : ev_M → Prop}
    (h : c90_25 x1 x2 0 M Q) : c90_24 x1 x2 M Q := by
  unfold c90_24
  refine ev_pu (st' := [.inr (.inl 0), .inr (.inr (some 30))]) (pc' := 25) rfl rfl rfl rfl ?_
  exact ev_pick [0, 1, 2] rfl rfl h
set_option maxRecDepth 10000 in
theorem b90_25 {x1 x2 t1 : Int} {M : ev_M} {Q : ev_M → Prop}
    (h : c90_35 x1 x2 0 (ev_sS (ev_sS M 14 t1) 15 0) Q) : c90_25 x1 x2 t1 M Q := by
  unfold c90_25
  refine ev_put (M' := ev_sS M 14 t1) (pc' := 28) rfl rfl (Nat.le_of_ble_eq_true rfl) rfl (hp_s14 _ _) rfl ?_
  refine ev_lo (lo' := [(0, .inr (.inr (some 30))), (1, .inl x1), (2, .inl x2)]) (st' := [.inr (.inr (some 30))]) (pc' := 29) rfl rfl rfl rfl ?_
  refine ev_pu (st' := [.inr (.inl 0), .inr (.inr (some 30))]) (pc' := 30) rfl rfl rfl rfl ?_
  refine ev_put (M' := ev_sS (ev_sS M 14 t1) 15 0) (pc' := 33) rfl rfl (Nat.le_of_ble_eq_true rfl) rfl (hp_s15 _ _) rfl ?_
  refine ev_pu (st' := [.inl 0]) (pc' := 34) rfl rfl rfl rfl ?_
  refine ev_lo (lo' := [(3, .inl 0), (0, .inr (.inr (some 30))), (1, .inl x1), (2, .inl x2)]) (st' := []) (pc' := 35) rfl rfl rfl rfl ?_
  exact ev_pick [0, 1, 2, 3] rfl rfl h
set_option maxRecDepth 10000 in
theorem b90_35 {x1 x2 x3 : Int} {M : ev_M} {Q : ev_M → Prop}
    (h : ((sM_rules M) ≤ x3 → (Q M)) ∧ (¬ ((sM_rules M) ≤ x3) → (c90_46 x1 x2 x3 0 M Q))) : c90_35 x1 x2 x3 M Q := by
  unfold c90_35
  refine ev_lo (lo' := [(0, .inr (.inr (some 30))), (1, .inl x1), (2, .inl x2), (3, .inl x3)]) (st' := [.inl x3]) (pc' := 36) rfl rfl rfl rfl ?_
  refine ev_lo (lo' := [(0, .inr (.inr (some 30))), (1, .inl x1), (2, .inl x2), (3, .inl x3)]) (st' := [.inr (.inr (some 30)), .inl x3]) (pc' := 37) rfl rfl rfl rfl ?_
  refine ev_get (v := .inl (sM_rules M)) (pc' := 40) rfl rfl rfl rfl ?_
  refine ev_icmp (pc' := 104) (pc2 := 43) rfl (by decide) rfl rfl (fun hc => ?_) (fun hc => ?_)
  · replace h := h.1 (of_decide_eq_true hc)
    exact ev_rt rfl rfl rfl ⟨rfl, h⟩
  · replace h := h.2 (of_decide_eq_false hc)
    refine ev_pu (st' := [.inl 0]) (pc' := 44) rfl rfl rfl rfl ?_
    refine ev_lo (lo' := [(4, .inl 0), (0, .inr (.inr (some 30))), (1, .inl x1), (2, .inl x2), (3, .inl x3)]) (st' := []) (pc' := 46) rfl rfl rfl rfl ?_
    exact ev_pick [0, 1, 2, 3, 4] rfl rfl h
set_option maxRecDepth 10000 in
theorem b90_46 {x1 x2 x3 x4 : Int} {M : ev_M} {Q : ev_M → Prop}
    (h : (0 ≤ x3 ∧ x3 < 14) ∧ (((aM_sizes M (x3).toNat) ≤ x4 → (tm_iI (x3 + 1) ∧ (c90_35 x1 x2 (x3 + 1) M Q))) ∧ (¬ ((aM_sizes M (x3).toNat) ≤ x4) → (m89 x1 x3 x4 M (fun w1 M1 => (w1 = 0 → (c90_92 x1 x2 x3 x4 M1 Q)) ∧ (¬ (w1 = 0) → (tm_iI (4 * x3) ∧ (tm_iI ((4 * x3) + x4) ∧ ((0 ≤ ((4 * x3) + x4) ∧ ((4 * x3) + x4) < 56) ∧ ((¬ (aM_right M1 ((4 * x3) + x4).toNat) = x2 → (c90_92 x1 x2 x3 x4 M1 Q)) ∧ (¬ (¬ (aM_right M1 ((4 * x3) + x4).toNat) = x2) → (tm_iI (x4 + 1) ∧ (m86 x3 (x4 + 1) M1 (fun M2 => c90_92 x1 x2 x3 x4 M2 Q)))))))))))))) : c90_46 x1 x2 x3 x4 M Q := by
  unfold c90_46
  refine ev_lo (lo' := [(0, .inr (.inr (some 30))), (1, .inl x1), (2, .inl x2), (3, .inl x3), (4, .inl x4)]) (st' := [.inl x4]) (pc' := 48) rfl rfl rfl rfl ?_
  refine ev_lo (lo' := [(0, .inr (.inr (some 30))), (1, .inl x1), (2, .inl x2), (3, .inl x3), (4, .inl x4)]) (st' := [.inr (.inr (some 30)), .inl x4]) (pc' := 49) rfl rfl rfl rfl ?_
  refine ev_get (v := .inr (.inr (some 32))) (pc' := 52) rfl rfl rfl rfl ?_
  refine ev_lo (lo' := [(0, .inr (.inr (some 30))), (1, .inl x1), (2, .inl x2), (3, .inl x3), (4, .inl x4)]) (st' := [.inl x3, .inr (.inr (some 32)), .inl x4]) (pc' := 53) rfl rfl rfl rfl ?_
  obtain ⟨hs0, h⟩ := h
  refine ev_ald (t := 0) (n := 14) (f := aM_sizes M) (w := fun x => .inl x) (pc' := 54) rfl rfl (fun _ _ => rfl) rfl hs0 rfl ?_
  refine ev_icmp (pc' := 98) (pc2 := 57) rfl (by decide) rfl rfl (fun hc => ?_) (fun hc => ?_)
  · replace h := h.1 (of_decide_eq_true hc)
    obtain ⟨hs, h⟩ := h
    refine ev_iinc (lo' := [(3, .inl (x3 + 1)), (0, .inr (.inr (some 30))), (1, .inl x1), (2, .inl x2), (4, .inl x4)]) (pc' := 101) rfl rfl (by decide) (tm_add hs) rfl rfl ?_
    refine ev_br (pc' := 35) (st' := []) rfl rfl rfl ?_
    exact ev_pick [0, 1, 2, 3] rfl rfl h
  · replace h := h.2 (of_decide_eq_false hc)
    refine ev_lo (lo' := [(0, .inr (.inr (some 30))), (1, .inl x1), (2, .inl x2), (3, .inl x3), (4, .inl x4)]) (st' := [.inr (.inr (some 30))]) (pc' := 58) rfl rfl rfl rfl ?_
    refine ev_lo (lo' := [(0, .inr (.inr (some 30))), (1, .inl x1), (2, .inl x2), (3, .inl x3), (4, .inl x4)]) (st' := [.inl x1, .inr (.inr (some 30))]) (pc' := 59) rfl rfl rfl rfl ?_
    refine ev_lo (lo' := [(0, .inr (.inr (some 30))), (1, .inl x1), (2, .inl x2), (3, .inl x3), (4, .inl x4)]) (st' := [.inl x3, .inl x1, .inr (.inr (some 30))]) (pc' := 60) rfl rfl rfl rfl ?_
    refine ev_lo (lo' := [(0, .inr (.inr (some 30))), (1, .inl x1), (2, .inl x2), (3, .inl x3), (4, .inl x4)]) (st' := [.inl x4, .inl x3, .inl x1, .inr (.inr (some 30))]) (pc' := 62) rfl rfl rfl rfl ?_
    refine ev_call (as := [.inr (.inr (some 30)), .inl x1, .inl x3, .inl x4]) (r := []) (pc' := 65) rfl rfl (Nat.le_of_ble_eq_true rfl) (Nat.le_of_ble_eq_true rfl) ⟨rfl, rfl⟩ (Nat.le_of_ble_eq_true rfl) rfl rfl rfl rfl ?_
    refine ev.post h (fun v M1 h => ?_)
    obtain ⟨w1, rfl, h⟩ := h
    show ev 90 65 [(0, .inr (.inr (some 30))), (1, .inl x1), (2, .inl x2), (3, .inl x3), (4, .inl x4)] [.inl w1] M1 _
    refine ev_ifT (pc' := 92) (pc2 := 68) rfl (by decide) rfl rfl (fun hc => ?_) (fun hc => ?_)
    · replace h := h.1 (of_decide_eq_true hc)
      exact ev_pick [0, 1, 2, 3, 4] rfl rfl h
    · replace h := h.2 (of_decide_eq_false hc)
      refine ev_lo (lo' := [(0, .inr (.inr (some 30))), (1, .inl x1), (2, .inl x2), (3, .inl x3), (4, .inl x4)]) (st' := [.inr (.inr (some 30))]) (pc' := 69) rfl rfl rfl rfl ?_
      refine ev_get (v := .inr (.inr (some 33))) (pc' := 72) rfl rfl rfl rfl ?_
      refine ev_pu (st' := [.inl 4, .inr (.inr (some 33))]) (pc' := 73) rfl rfl rfl rfl ?_
      refine ev_lo (lo' := [(0, .inr (.inr (some 30))), (1, .inl x1), (2, .inl x2), (3, .inl x3), (4, .inl x4)]) (st' := [.inl x3, .inl 4, .inr (.inr (some 33))]) (pc' := 74) rfl rfl rfl rfl ?_
      obtain ⟨hs, h⟩ := h
      refine ev_ii (f := fun a b => a * b) (pc' := 75) rfl rfl (fun _ => rfl) (tm_mul hs) rfl ?_
      refine ev_lo (lo' := [(0, .inr (.inr (some 30))), (1, .inl x1), (2, .inl x2), (3, .inl x3), (4, .inl x4)]) (st' := [.inl x4, .inl (4 * x3), .inr (.inr (some 33))]) (pc' := 77) rfl rfl rfl rfl ?_
      obtain ⟨hs, h⟩ := h
      refine ev_ii (f := fun a b => a + b) (pc' := 78) rfl rfl (fun _ => rfl) (tm_add hs) rfl ?_
      obtain ⟨hs0, h⟩ := h
      refine ev_ald (t := 0) (n := 56) (f := aM_right M1) (w := fun x => .inl x) (pc' := 79) rfl rfl (fun _ _ => rfl) rfl hs0 rfl ?_
      refine ev_lo (lo' := [(0, .inr (.inr (some 30))), (1, .inl x1), (2, .inl x2), (3, .inl x3), (4, .inl x4)]) (st' := [.inl x2, .inl (aM_right M1 ((4 * x3) + x4).toNat)]) (pc' := 80) rfl rfl rfl rfl ?_
      refine ev_icmp (pc' := 92) (pc2 := 83) rfl (by decide) rfl rfl (fun hc => ?_) (fun hc => ?_)
      · replace h := h.1 (of_decide_eq_true hc)
        exact ev_pick [0, 1, 2, 3, 4] rfl rfl h
      · replace h := h.2 (of_decide_eq_false hc)
        refine ev_lo (lo' := [(0, .inr (.inr (some 30))), (1, .inl x1), (2, .inl x2), (3, .inl x3), (4, .inl x4)]) (st' := [.inr (.inr (some 30))]) (pc' := 84) rfl rfl rfl rfl ?_
        refine ev_lo (lo' := [(0, .inr (.inr (some 30))), (1, .inl x1), (2, .inl x2), (3, .inl x3), (4, .inl x4)]) (st' := [.inl x3, .inr (.inr (some 30))]) (pc' := 85) rfl rfl rfl rfl ?_
        refine ev_lo (lo' := [(0, .inr (.inr (some 30))), (1, .inl x1), (2, .inl x2), (3, .inl x3), (4, .inl x4)]) (st' := [.inl x4, .inl x3, .inr (.inr (some 30))]) (pc' := 87) rfl rfl rfl rfl ?_
        refine ev_pu (st' := [.inl 1, .inl x4, .inl x3, .inr (.inr (some 30))]) (pc' := 88) rfl rfl rfl rfl ?_
        obtain ⟨hs, h⟩ := h
        refine ev_ii (f := fun a b => a + b) (pc' := 89) rfl rfl (fun _ => rfl) (tm_add hs) rfl ?_
        refine ev_call (as := [.inr (.inr (some 30)), .inl x3, .inl (x4 + 1)]) (r := []) (pc' := 92) rfl rfl (Nat.le_of_ble_eq_true rfl) (Nat.le_of_ble_eq_true rfl) ⟨rfl, rfl⟩ (Nat.le_of_ble_eq_true rfl) rfl rfl rfl rfl ?_
        refine ev.post h (fun v M2 h => ?_)
        obtain ⟨rfl, h⟩ := h
        show ev 90 92 [(0, .inr (.inr (some 30))), (1, .inl x1), (2, .inl x2), (3, .inl x3), (4, .inl x4)] [] M2 _
        exact ev_pick [0, 1, 2, 3, 4] rfl rfl h
set_option maxRecDepth 10000 in
theorem b90_92 {x1 x2 x3 x4 : Int} {M : ev_M} {Q : ev_M → Prop}
    (h : tm_iI (x4 + 1) ∧ (c90_46 x1 x2 x3 (x4 + 1) M Q)) : c90_92 x1 x2 x3 x4 M Q := by
  unfold c90_92
  obtain ⟨hs, h⟩ := h
  refine ev_iinc (lo' := [(4, .inl (x4 + 1)), (0, .inr (.inr (some 30))), (1, .inl x1), (2, .inl x2), (3, .inl x3)]) (pc' := 95) rfl rfl (by decide) (tm_add hs) rfl rfl ?_
  refine ev_br (pc' := 46) (st' := []) rfl rfl rfl ?_
  exact ev_pick [0, 1, 2, 3, 4] rfl rfl h
/-! NulledForestModel.build()Z -/
def m91 (M : ev_M) (Q : Int → ev_M → Prop) : Prop := ev 91 0 [(0, .inr (.inr (some 30)))] [] M (fun v M1 => ∃ w : Int, v = some (.inl w) ∧ Q w M1)
def c91_26 (x1 : Int) (M : ev_M) (Q : Int → ev_M → Prop) : Prop := ev 91 26 [(0, .inr (.inr (some 30))), (1, .inl x1)] [] M (fun v M1 => ∃ w : Int, v = some (.inl w) ∧ Q w M1)
def c91_45 (x1 x2 : Int) (M : ev_M) (Q : Int → ev_M → Prop) : Prop := ev 91 45 [(0, .inr (.inr (some 30))), (1, .inl x1), (2, .inl x2)] [] M (fun v M1 => ∃ w : Int, v = some (.inl w) ∧ Q w M1)
def c91_96 (x1 x2 : Int) (M : ev_M) (Q : Int → ev_M → Prop) : Prop := ev 91 96 [(0, .inr (.inr (some 30))), (1, .inl x1), (2, .inl x2)] [] M (fun v M1 => ∃ w : Int, v = some (.inl w) ∧ Q w M1)
def c91_115 (x1 x2 : Int) (M : ev_M) (Q : Int → ev_M → Prop) : Prop := ev 91 115 [(0, .inr (.inr (some 30))), (1, .inl x1), (2, .inl x2)] [] M (fun v M1 => ∃ w : Int, v = some (.inl w) ∧ Q w M1)
def c91_121 (x1 : Int) (M : ev_M) (Q : Int → ev_M → Prop) : Prop := ev 91 121 [(0, .inr (.inr (some 30))), (1, .inl x1)] [] M (fun v M1 => ∃ w : Int, v = some (.inl w) ∧ Q w M1)
def c91_127 (M : ev_M) (Q : Int → ev_M → Prop) : Prop := ev 91 127 [(0, .inr (.inr (some 30)))] [] M (fun v M1 => ∃ w : Int, v = some (.inl w) ∧ Q w M1)
def c91_146 (t0 : Int) (M : ev_M) (Q : Int → ev_M → Prop) : Prop := ev 91 146 [] [.inl t0] M (fun v M1 => ∃ w : Int, v = some (.inl w) ∧ Q w M1)
set_option maxRecDepth 10000 in
theorem b91 {M : ev_M} {Q : Int → ev_M → Prop}
    (h : m87 (ev_sS (ev_sS (ev_sS M 13 0) 14 1) 15 0) (fun M1 => m88 M1 (fun w2 M2 => c91_26 0 M2 Q))) : m91 M Q := by
  unfold m91
  refine ev_lo (lo' := [(0, .inr (.inr (some 30)))]) (st' := [.inr (.inr (some 30))]) (pc' := 1) rfl rfl rfl rfl ?_
  refine ev_pu (st' := [.inl 0, .inr (.inr (some 30))]) (pc' := 2) rfl rfl rfl rfl ?_
  refine ev_put (M' := ev_sS M 13 0) (pc' := 5) rfl rfl (Nat.le_of_ble_eq_true rfl) rfl (hp_s13 _ _) rfl ?_
  refine ev_lo (lo' := [(0, .inr (.inr (some 30)))]) (st' := [.inr (.inr (some 30))]) (pc' := 6) rfl rfl rfl rfl ?_
  refine ev_pu (st' := [.inr (.inl 1), .inr (.inr (some 30))]) (pc' := 7) rfl rfl rfl rfl ?_
  refine ev_put (M' := ev_sS (ev_sS M 13 0) 14 1) (pc' := 10) rfl rfl (Nat.le_of_ble_eq_true rfl) rfl (hp_s14 _ _) rfl ?_
  refine ev_lo (lo' := [(0, .inr (.inr (some 30)))]) (st' := [.inr (.inr (some 30))]) (pc' := 11) rfl rfl rfl rfl ?_
  refine ev_pu (st' := [.inr (.inl 0), .inr (.inr (some 30))]) (pc' := 12) rfl rfl rfl rfl ?_
  refine ev_put (M' := ev_sS (ev_sS (ev_sS M 13 0) 14 1) 15 0) (pc' := 15) rfl rfl (Nat.le_of_ble_eq_true rfl) rfl (hp_s15 _ _) rfl ?_
  refine ev_lo (lo' := [(0, .inr (.inr (some 30)))]) (st' := [.inr (.inr (some 30))]) (pc' := 16) rfl rfl rfl rfl ?_
  refine ev_call (as := [.inr (.inr (some 30))]) (r := []) (pc' := 19) rfl rfl (Nat.le_of_ble_eq_true rfl) (Nat.le_of_ble_eq_true rfl) ⟨rfl, rfl⟩ (Nat.le_of_ble_eq_true rfl) rfl rfl rfl rfl ?_
  refine ev.post h (fun v M1 h => ?_)
  obtain ⟨rfl, h⟩ := h
  show ev 91 19 [(0, .inr (.inr (some 30)))] [] M1 _
  refine ev_lo (lo' := [(0, .inr (.inr (some 30)))]) (st' := [.inr (.inr (some 30))]) (pc' := 20) rfl rfl rfl rfl ?_
  refine ev_call (as := [.inr (.inr (some 30))]) (r := []) (pc' := 23) rfl rfl (Nat.le_of_ble_eq_true rfl) (Nat.le_of_ble_eq_true rfl) ⟨rfl, rfl⟩ (Nat.le_of_ble_eq_true rfl) rfl rfl rfl rfl ?_
  refine ev.post h (fun v M2 h => ?_)
  obtain ⟨w2, rfl, h⟩ := h
  show ev 91 23 [(0, .inr (.inr (some 30)))] [.inl w2] M2 _
  refine ev_pu (st' := []) (pc' := 24) rfl rfl rfl rfl ?_
  refine ev_pu (st' := [.inl 0]) (pc' := 25) rfl rfl rfl rfl ?_
  refine ev_lo (lo' := [(1, .inl 0), (0, .inr (.inr (some 30)))]) (st' := []) (pc' := 26) rfl rfl rfl rfl ?_
  exact ev_pick [0, 1] rfl rfl h
set_option maxRecDepth 10000 in
theorem b91_26 {x1 : Int} {M : ev_M} {Q : Int → ev_M → Prop}
    (h : ((sM_states M) ≤ x1 → (c91_127 M Q)) ∧ (¬ ((sM_states M) ≤ x1) → ((60 < (sM_states M) → (c91_127 M Q)) ∧ (¬ (60 < (sM_states M)) → (c91_45 x1 0 M Q))))) : c91_26 x1 M Q := by
  unfold c91_26
  refine ev_lo (lo' := [(0, .inr (.inr (some 30))), (1, .inl x1)]) (st' := [.inl x1]) (pc' := 27) rfl rfl rfl rfl ?_
  refine ev_lo (lo' := [(0, .inr (.inr (some 30))), (1, .inl x1)]) (st' := [.inr (.inr (some 30)), .inl x1]) (pc' := 28) rfl rfl rfl rfl ?_
  refine ev_get (v := .inl (sM_states M)) (pc' := 31) rfl rfl rfl rfl ?_
  refine ev_icmp (pc' := 127) (pc2 := 34) rfl (by decide) rfl rfl (fun hc => ?_) (fun hc => ?_)
  · replace h := h.1 (of_decide_eq_true hc)
    exact ev_pick [0] rfl rfl h
  · replace h := h.2 (of_decide_eq_false hc)
    refine ev_lo (lo' := [(0, .inr (.inr (some 30))), (1, .inl x1)]) (st' := [.inr (.inr (some 30))]) (pc' := 35) rfl rfl rfl rfl ?_
    refine ev_get (v := .inl (sM_states M)) (pc' := 38) rfl rfl rfl rfl ?_
    refine ev_pu (st' := [.inl 60, .inl (sM_states M)]) (pc' := 40) rfl rfl rfl rfl ?_
    refine ev_icmp (pc' := 127) (pc2 := 43) rfl (by decide) rfl rfl (fun hc => ?_) (fun hc => ?_)
    · replace h := h.1 (of_decide_eq_true hc)
      exact ev_pick [0] rfl rfl h
    · replace h := h.2 (of_decide_eq_false hc)
      refine ev_pu (st' := [.inl 0]) (pc' := 44) rfl rfl rfl rfl ?_
      refine ev_lo (lo' := [(2, .inl 0), (0, .inr (.inr (some 30))), (1, .inl x1)]) (st' := []) (pc' := 45) rfl rfl rfl rfl ?_
      exact ev_pick [0, 1, 2] rfl rfl h
set_option maxRecDepth 10000 in
theorem b91_45 {x1 x2 : Int} {M : ev_M} {Q : Int → ev_M → Prop}
    (h : (10 ≤ x2 → (c91_121 x1 M Q)) ∧ (¬ (10 ≤ x2) → ((60 < (sM_states M) → (c91_121 x1 M Q)) ∧ (¬ (60 < (sM_states M)) → (m90 x1 x2 M (fun M1 => tm_iI (10 * x1) ∧ (tm_iI ((10 * x1) + x2) ∧ ((0 ≤ ((10 * x1) + x2) ∧ ((10 * x1) + x2) < 610) ∧ ((¬ (sM_newLow M1) = 0 → (c91_96 x1 x2 (ev_sA M1 37 ((10 * x1) + x2).toNat (-1)) Q)) ∧ (¬ (¬ (sM_newLow M1) = 0) → (((sM_newHigh M1) = 0 → (c91_115 x1 x2 (ev_sA M1 37 ((10 * x1) + x2).toNat (-1)) Q)) ∧ (¬ ((sM_newHigh M1) = 0) → (c91_96 x1 x2 (ev_sA M1 37 ((10 * x1) + x2).toNat (-1)) Q))))))))))))) : c91_45 x1 x2 M Q := by
  unfold c91_45
  refine ev_lo (lo' := [(0, .inr (.inr (some 30))), (1, .inl x1), (2, .inl x2)]) (st' := [.inl x2]) (pc' := 46) rfl rfl rfl rfl ?_
  refine ev_pu (st' := [.inl 10, .inl x2]) (pc' := 48) rfl rfl rfl rfl ?_
  refine ev_icmp (pc' := 121) (pc2 := 51) rfl (by decide) rfl rfl (fun hc => ?_) (fun hc => ?_)
  · replace h := h.1 (of_decide_eq_true hc)
    exact ev_pick [0, 1] rfl rfl h
  · replace h := h.2 (of_decide_eq_false hc)
    refine ev_lo (lo' := [(0, .inr (.inr (some 30))), (1, .inl x1), (2, .inl x2)]) (st' := [.inr (.inr (some 30))]) (pc' := 52) rfl rfl rfl rfl ?_
    refine ev_get (v := .inl (sM_states M)) (pc' := 55) rfl rfl rfl rfl ?_
    refine ev_pu (st' := [.inl 60, .inl (sM_states M)]) (pc' := 57) rfl rfl rfl rfl ?_
    refine ev_icmp (pc' := 121) (pc2 := 60) rfl (by decide) rfl rfl (fun hc => ?_) (fun hc => ?_)
    · replace h := h.1 (of_decide_eq_true hc)
      exact ev_pick [0, 1] rfl rfl h
    · replace h := h.2 (of_decide_eq_false hc)
      refine ev_lo (lo' := [(0, .inr (.inr (some 30))), (1, .inl x1), (2, .inl x2)]) (st' := [.inr (.inr (some 30))]) (pc' := 61) rfl rfl rfl rfl ?_
      refine ev_lo (lo' := [(0, .inr (.inr (some 30))), (1, .inl x1), (2, .inl x2)]) (st' := [.inl x1, .inr (.inr (some 30))]) (pc' := 62) rfl rfl rfl rfl ?_
      refine ev_lo (lo' := [(0, .inr (.inr (some 30))), (1, .inl x1), (2, .inl x2)]) (st' := [.inl x2, .inl x1, .inr (.inr (some 30))]) (pc' := 63) rfl rfl rfl rfl ?_
      refine ev_call (as := [.inr (.inr (some 30)), .inl x1, .inl x2]) (r := []) (pc' := 66) rfl rfl (Nat.le_of_ble_eq_true rfl) (Nat.le_of_ble_eq_true rfl) ⟨rfl, rfl⟩ (Nat.le_of_ble_eq_true rfl) rfl rfl rfl rfl ?_
      refine ev.post h (fun v M1 h => ?_)
      obtain ⟨rfl, h⟩ := h
      show ev 91 66 [(0, .inr (.inr (some 30))), (1, .inl x1), (2, .inl x2)] [] M1 _
      refine ev_lo (lo' := [(0, .inr (.inr (some 30))), (1, .inl x1), (2, .inl x2)]) (st' := [.inr (.inr (some 30))]) (pc' := 67) rfl rfl rfl rfl ?_
      refine ev_get (v := .inr (.inr (some 37))) (pc' := 70) rfl rfl rfl rfl ?_
      refine ev_pu (st' := [.inl 10, .inr (.inr (some 37))]) (pc' := 72) rfl rfl rfl rfl ?_
      refine ev_lo (lo' := [(0, .inr (.inr (some 30))), (1, .inl x1), (2, .inl x2)]) (st' := [.inl x1, .inl 10, .inr (.inr (some 37))]) (pc' := 73) rfl rfl rfl rfl ?_
      obtain ⟨hs, h⟩ := h
      refine ev_ii (f := fun a b => a * b) (pc' := 74) rfl rfl (fun _ => rfl) (tm_mul hs) rfl ?_
      refine ev_lo (lo' := [(0, .inr (.inr (some 30))), (1, .inl x1), (2, .inl x2)]) (st' := [.inl x2, .inl (10 * x1), .inr (.inr (some 37))]) (pc' := 75) rfl rfl rfl rfl ?_
      obtain ⟨hs, h⟩ := h
      refine ev_ii (f := fun a b => a + b) (pc' := 76) rfl rfl (fun _ => rfl) (tm_add hs) rfl ?_
      refine ev_pu (st' := [.inl (-1), .inl ((10 * x1) + x2), .inr (.inr (some 37))]) (pc' := 77) rfl rfl rfl rfl ?_
      obtain ⟨hs0, h⟩ := h
      refine ev_iast (n := 610) (f := aM_ways M1) (M' := ev_sA M1 37 ((10 * x1) + x2).toNat (-1)) (pc' := 78) rfl rfl hs0 (hp_a37 _ _ _) rfl ?_
      refine ev_lo (lo' := [(0, .inr (.inr (some 30))), (1, .inl x1), (2, .inl x2)]) (st' := [.inr (.inr (some 30))]) (pc' := 79) rfl rfl rfl rfl ?_
      refine ev_get (v := .inr (.inl (sM_newLow M1))) (pc' := 82) rfl rfl rfl rfl ?_
      refine ev_pu (st' := [.inr (.inl 0), .inr (.inl (sM_newLow M1))]) (pc' := 83) rfl rfl rfl rfl ?_
      refine ev_lcmp (pc1 := 84) (pc' := 96) (pc2 := 87) rfl rfl rfl (by decide) rfl rfl (fun hc => ?_) (fun hc => ?_)
      · replace h := h.1 (of_decide_eq_true hc)
        exact ev_pick [0, 1, 2] rfl rfl h
      · replace h := h.2 (of_decide_eq_false hc)
        refine ev_lo (lo' := [(0, .inr (.inr (some 30))), (1, .inl x1), (2, .inl x2)]) (st' := [.inr (.inr (some 30))]) (pc' := 88) rfl rfl rfl rfl ?_
        refine ev_get (v := .inr (.inl (sM_newHigh M1))) (pc' := 91) rfl rfl rfl rfl ?_
        refine ev_pu (st' := [.inr (.inl 0), .inr (.inl (sM_newHigh M1))]) (pc' := 92) rfl rfl rfl rfl ?_
        refine ev_lcmp (pc1 := 93) (pc' := 115) (pc2 := 96) rfl rfl rfl (by decide) rfl rfl (fun hc => ?_) (fun hc => ?_)
        · replace h := h.1 (of_decide_eq_true hc)
          exact ev_pick [0, 1, 2] rfl rfl h
        · replace h := h.2 (of_decide_eq_false hc)
          exact ev_pick [0, 1, 2] rfl rfl h
set_option maxRecDepth 10000 in
theorem b91_96 {x1 x2 : Int} {M : ev_M} {Q : Int → ev_M → Prop}
    (h : m87 M (fun M1 => tm_iI (10 * x1) ∧ (tm_iI ((10 * x1) + x2) ∧ (m88 M1 (fun w2 M2 => (0 ≤ ((10 * x1) + x2) ∧ ((10 * x1) + x2) < 610) ∧ (c91_115 x1 x2 (ev_sA M2 37 ((10 * x1) + x2).toNat w2) Q)))))) : c91_96 x1 x2 M Q := by
  unfold c91_96
  refine ev_lo (lo' := [(0, .inr (.inr (some 30))), (1, .inl x1), (2, .inl x2)]) (st' := [.inr (.inr (some 30))]) (pc' := 97) rfl rfl rfl rfl ?_
  refine ev_call (as := [.inr (.inr (some 30))]) (r := []) (pc' := 100) rfl rfl (Nat.le_of_ble_eq_true rfl) (Nat.le_of_ble_eq_true rfl) ⟨rfl, rfl⟩ (Nat.le_of_ble_eq_true rfl) rfl rfl rfl rfl ?_
  refine ev.post h (fun v M1 h => ?_)
  obtain ⟨rfl, h⟩ := h
  show ev 91 100 [(0, .inr (.inr (some 30))), (1, .inl x1), (2, .inl x2)] [] M1 _
  refine ev_lo (lo' := [(0, .inr (.inr (some 30))), (1, .inl x1), (2, .inl x2)]) (st' := [.inr (.inr (some 30))]) (pc' := 101) rfl rfl rfl rfl ?_
  refine ev_get (v := .inr (.inr (some 37))) (pc' := 104) rfl rfl rfl rfl ?_
  refine ev_pu (st' := [.inl 10, .inr (.inr (some 37))]) (pc' := 106) rfl rfl rfl rfl ?_
  refine ev_lo (lo' := [(0, .inr (.inr (some 30))), (1, .inl x1), (2, .inl x2)]) (st' := [.inl x1, .inl 10, .inr (.inr (some 37))]) (pc' := 107) rfl rfl rfl rfl ?_
  obtain ⟨hs, h⟩ := h
  refine ev_ii (f := fun a b => a * b) (pc' := 108) rfl rfl (fun _ => rfl) (tm_mul hs) rfl ?_
  refine ev_lo (lo' := [(0, .inr (.inr (some 30))), (1, .inl x1), (2, .inl x2)]) (st' := [.inl x2, .inl (10 * x1), .inr (.inr (some 37))]) (pc' := 109) rfl rfl rfl rfl ?_
  obtain ⟨hs, h⟩ := h
  refine ev_ii (f := fun a b => a + b) (pc' := 110) rfl rfl (fun _ => rfl) (tm_add hs) rfl ?_
  refine ev_lo (lo' := [(0, .inr (.inr (some 30))), (1, .inl x1), (2, .inl x2)]) (st' := [.inr (.inr (some 30)), .inl ((10 * x1) + x2), .inr (.inr (some 37))]) (pc' := 111) rfl rfl rfl rfl ?_
  refine ev_call (as := [.inr (.inr (some 30))]) (r := [.inl ((10 * x1) + x2), .inr (.inr (some 37))]) (pc' := 114) rfl rfl (Nat.le_of_ble_eq_true rfl) (Nat.le_of_ble_eq_true rfl) ⟨rfl, rfl⟩ (Nat.le_of_ble_eq_true rfl) rfl rfl rfl rfl ?_
  refine ev.post h (fun v M2 h => ?_)
  obtain ⟨w2, rfl, h⟩ := h
  show ev 91 114 [(0, .inr (.inr (some 30))), (1, .inl x1), (2, .inl x2)] [.inl w2, .inl ((10 * x1) + x2), .inr (.inr (some 37))] M2 _
  obtain ⟨hs0, h⟩ := h
  refine ev_iast (n := 610) (f := aM_ways M2) (M' := ev_sA M2 37 ((10 * x1) + x2).toNat w2) (pc' := 115) rfl rfl hs0 (hp_a37 _ _ _) rfl ?_
  exact ev_pick [0, 1, 2] rfl rfl h
set_option maxRecDepth 10000 in
theorem b91_115 {x1 x2 : Int} {M : ev_M} {Q : Int → ev_M → Prop}
    (h : tm_iI (x2 + 1) ∧ (c91_45 x1 (x2 + 1) M Q)) : c91_115 x1 x2 M Q := by
  unfold c91_115
  obtain ⟨hs, h⟩ := h
  refine ev_iinc (lo' := [(2, .inl (x2 + 1)), (0, .inr (.inr (some 30))), (1, .inl x1)]) (pc' := 118) rfl rfl (by decide) (tm_add hs) rfl rfl ?_
  refine ev_br (pc' := 45) (st' := []) rfl rfl rfl ?_
  exact ev_pick [0, 1, 2] rfl rfl h
set_option maxRecDepth 10000 in
theorem b91_121 {x1 : Int} {M : ev_M} {Q : Int → ev_M → Prop}
    (h : tm_iI (x1 + 1) ∧ (c91_26 (x1 + 1) M Q)) : c91_121 x1 M Q := by
  unfold c91_121
  obtain ⟨hs, h⟩ := h
  refine ev_iinc (lo' := [(1, .inl (x1 + 1)), (0, .inr (.inr (some 30)))]) (pc' := 124) rfl rfl (by decide) (tm_add hs) rfl rfl ?_
  refine ev_br (pc' := 26) (st' := []) rfl rfl rfl ?_
  exact ev_pick [0, 1] rfl rfl h
set_option maxRecDepth 10000 in
theorem b91_127 {M : ev_M} {Q : Int → ev_M → Prop}
    (h : (60 < (sM_states M) → (c91_146 0 (ev_sS M 16 0) Q)) ∧ (¬ (60 < (sM_states M)) → (c91_146 1 (ev_sS M 16 0) Q))) : c91_127 M Q := by
  unfold c91_127
  refine ev_lo (lo' := [(0, .inr (.inr (some 30)))]) (st' := [.inr (.inr (some 30))]) (pc' := 128) rfl rfl rfl rfl ?_
  refine ev_pu (st' := [.inl 0, .inr (.inr (some 30))]) (pc' := 129) rfl rfl rfl rfl ?_
  refine ev_put (M' := ev_sS M 16 0) (pc' := 132) rfl rfl (Nat.le_of_ble_eq_true rfl) rfl (hp_s16 _ _) rfl ?_
  refine ev_lo (lo' := [(0, .inr (.inr (some 30)))]) (st' := [.inr (.inr (some 30))]) (pc' := 133) rfl rfl rfl rfl ?_
  refine ev_get (v := .inl (sM_states M)) (pc' := 136) rfl rfl rfl rfl ?_
  refine ev_pu (st' := [.inl 60, .inl (sM_states M)]) (pc' := 138) rfl rfl rfl rfl ?_
  refine ev_icmp (pc' := 145) (pc2 := 141) rfl (by decide) rfl rfl (fun hc => ?_) (fun hc => ?_)
  · replace h := h.1 (of_decide_eq_true hc)
    refine ev_pu (st' := [.inl 0]) (pc' := 146) rfl rfl rfl rfl ?_
    exact ev_pick [] rfl rfl h
  · replace h := h.2 (of_decide_eq_false hc)
    refine ev_pu (st' := [.inl 1]) (pc' := 142) rfl rfl rfl rfl ?_
    refine ev_br (pc' := 146) (st' := [.inl 1]) rfl rfl rfl ?_
    exact ev_pick [] rfl rfl h
set_option maxRecDepth 10000 in
theorem b91_146 {t0 : Int} {M : ev_M} {Q : Int → ev_M → Prop}
    (h : (t0 = 0 ∨ t0 = 1) ∧ Q t0 M) : c91_146 t0 M Q := by
  unfold c91_146
  obtain ⟨hs, h⟩ := h
  exact ev_rtZ rfl rfl hs ⟨_, rfl, h⟩
/-! NulledForestModel.thrown()I -/
def m93 (M : ev_M) (Q : Int → ev_M → Prop) : Prop := ev 93 0 [(0, .inr (.inr (some 30)))] [] M (fun v M1 => ∃ w : Int, v = some (.inl w) ∧ Q w M1)
set_option maxRecDepth 10000 in
theorem b93 {M : ev_M} {Q : Int → ev_M → Prop}
    (h : Q (sM_code M) M) : m93 M Q := by
  unfold m93
  refine ev_lo (lo' := [(0, .inr (.inr (some 30)))]) (st' := [.inr (.inr (some 30))]) (pc' := 1) rfl rfl rfl rfl ?_
  refine ev_get (v := .inl (sM_code M)) (pc' := 4) rfl rfl rfl rfl ?_
  exact ev_rt rfl rfl rfl ⟨_, rfl, h⟩
/-! NulledForestModel.isSymbol(I)Z -/
def m94 (x0 : Int) (M : ev_M) (Q : Int → ev_M → Prop) : Prop := ev 94 0 [(0, .inl x0)] [] M (fun v M1 => ∃ w : Int, v = some (.inl w) ∧ Q w M1)
def c94_14 (M : ev_M) (Q : Int → ev_M → Prop) : Prop := ev 94 14 [] [] M (fun v M1 => ∃ w : Int, v = some (.inl w) ∧ Q w M1)
def c94_15 (t0 : Int) (M : ev_M) (Q : Int → ev_M → Prop) : Prop := ev 94 15 [] [.inl t0] M (fun v M1 => ∃ w : Int, v = some (.inl w) ∧ Q w M1)
set_option maxRecDepth 10000 in
theorem b94 {x0 : Int} {M : ev_M} {Q : Int → ev_M → Prop}
    (h : (x0 < 0 → (c94_14 M Q)) ∧ (¬ (x0 < 0) → ((10 ≤ x0 → (c94_14 M Q)) ∧ (¬ (10 ≤ x0) → (c94_15 1 M Q))))) : m94 x0 M Q := by
  unfold m94
  refine ev_lo (lo' := [(0, .inl x0)]) (st' := [.inl x0]) (pc' := 1) rfl rfl rfl rfl ?_
  refine ev_ifT (pc' := 14) (pc2 := 4) rfl (by decide) rfl rfl (fun hc => ?_) (fun hc => ?_)
  · replace h := h.1 (of_decide_eq_true hc)
    exact ev_pick [] rfl rfl h
  · replace h := h.2 (of_decide_eq_false hc)
    refine ev_lo (lo' := [(0, .inl x0)]) (st' := [.inl x0]) (pc' := 5) rfl rfl rfl rfl ?_
    refine ev_pu (st' := [.inl 10, .inl x0]) (pc' := 7) rfl rfl rfl rfl ?_
    refine ev_icmp (pc' := 14) (pc2 := 10) rfl (by decide) rfl rfl (fun hc => ?_) (fun hc => ?_)
    · replace h := h.1 (of_decide_eq_true hc)
      exact ev_pick [] rfl rfl h
    · replace h := h.2 (of_decide_eq_false hc)
      refine ev_pu (st' := [.inl 1]) (pc' := 11) rfl rfl rfl rfl ?_
      refine ev_br (pc' := 15) (st' := [.inl 1]) rfl rfl rfl ?_
      exact ev_pick [] rfl rfl h
set_option maxRecDepth 10000 in
theorem b94_14 {M : ev_M} {Q : Int → ev_M → Prop}
    (h : c94_15 0 M Q) : c94_14 M Q := by
  unfold c94_14
  refine ev_pu (st' := [.inl 0]) (pc' := 15) rfl rfl rfl rfl ?_
  exact ev_pick [] rfl rfl h
set_option maxRecDepth 10000 in
theorem b94_15 {t0 : Int} {M : ev_M} {Q : Int → ev_M → Prop}
    (h : (t0 = 0 ∨ t0 = 1) ∧ Q t0 M) : c94_15 t0 M Q := by
  unfold c94_15
  obtain ⟨hs, h⟩ := h
  exact ev_rtZ rfl rfl hs ⟨_, rfl, h⟩
/-! NulledForestModel.isMaker(I)Z -/
def m95 (x0 : Int) (M : ev_M) (Q : Int → ev_M → Prop) : Prop := ev 95 0 [(0, .inl x0)] [] M (fun v M1 => ∃ w : Int, v = some (.inl w) ∧ Q w M1)
def c95_14 (M : ev_M) (Q : Int → ev_M → Prop) : Prop := ev 95 14 [] [] M (fun v M1 => ∃ w : Int, v = some (.inl w) ∧ Q w M1)
def c95_15 (t0 : Int) (M : ev_M) (Q : Int → ev_M → Prop) : Prop := ev 95 15 [] [.inl t0] M (fun v M1 => ∃ w : Int, v = some (.inl w) ∧ Q w M1)
set_option maxRecDepth 10000 in
theorem b95 {x0 : Int} {M : ev_M} {Q : Int → ev_M → Prop}
    (h : (x0 < 0 → (c95_14 M Q)) ∧ (¬ (x0 < 0) → ((6 ≤ x0 → (c95_14 M Q)) ∧ (¬ (6 ≤ x0) → (c95_15 1 M Q))))) : m95 x0 M Q := by
  unfold m95
  refine ev_lo (lo' := [(0, .inl x0)]) (st' := [.inl x0]) (pc' := 1) rfl rfl rfl rfl ?_
  refine ev_ifT (pc' := 14) (pc2 := 4) rfl (by decide) rfl rfl (fun hc => ?_) (fun hc => ?_)
  · replace h := h.1 (of_decide_eq_true hc)
    exact ev_pick [] rfl rfl h
  · replace h := h.2 (of_decide_eq_false hc)
    refine ev_lo (lo' := [(0, .inl x0)]) (st' := [.inl x0]) (pc' := 5) rfl rfl rfl rfl ?_
    refine ev_pu (st' := [.inl 6, .inl x0]) (pc' := 7) rfl rfl rfl rfl ?_
    refine ev_icmp (pc' := 14) (pc2 := 10) rfl (by decide) rfl rfl (fun hc => ?_) (fun hc => ?_)
    · replace h := h.1 (of_decide_eq_true hc)
      exact ev_pick [] rfl rfl h
    · replace h := h.2 (of_decide_eq_false hc)
      refine ev_pu (st' := [.inl 1]) (pc' := 11) rfl rfl rfl rfl ?_
      refine ev_br (pc' := 15) (st' := [.inl 1]) rfl rfl rfl ?_
      exact ev_pick [] rfl rfl h
set_option maxRecDepth 10000 in
theorem b95_14 {M : ev_M} {Q : Int → ev_M → Prop}
    (h : c95_15 0 M Q) : c95_14 M Q := by
  unfold c95_14
  refine ev_pu (st' := [.inl 0]) (pc' := 15) rfl rfl rfl rfl ?_
  exact ev_pick [] rfl rfl h
set_option maxRecDepth 10000 in
theorem b95_15 {t0 : Int} {M : ev_M} {Q : Int → ev_M → Prop}
    (h : (t0 = 0 ∨ t0 = 1) ∧ Q t0 M) : c95_15 t0 M Q := by
  unfold c95_15
  obtain ⟨hs, h⟩ := h
  exact ev_rtZ rfl rfl hs ⟨_, rfl, h⟩
/-! NulledForestModel.isThere(I)Z -/
def m96 (x1 : Int) (M : ev_M) (Q : Int → ev_M → Prop) : Prop := ev 96 0 [(0, .inr (.inr (some 30))), (1, .inl x1)] [] M (fun v M1 => ∃ w : Int, v = some (.inl w) ∧ Q w M1)
def c96_4 (x1 x2 x3 : Int) (M : ev_M) (Q : Int → ev_M → Prop) : Prop := ev 96 4 [(0, .inr (.inr (some 30))), (1, .inl x1), (2, .inl x2), (3, .inl x3)] [] M (fun v M1 => ∃ w : Int, v = some (.inl w) ∧ Q w M1)
def c96_43 (x1 x2 x3 : Int) (M : ev_M) (Q : Int → ev_M → Prop) : Prop := ev 96 43 [(0, .inr (.inr (some 30))), (1, .inl x1), (2, .inl x2), (3, .inl x3)] [] M (fun v M1 => ∃ w : Int, v = some (.inl w) ∧ Q w M1)
def c96_44 (x1 x2 x3 t0 : Int) (M : ev_M) (Q : Int → ev_M → Prop) : Prop := ev 96 44 [(0, .inr (.inr (some 30))), (1, .inl x1), (2, .inl x2), (3, .inl x3)] [.inl t0] M (fun v M1 => ∃ w : Int, v = some (.inl w) ∧ Q w M1)
def c96_49 (x1 x2 x3 x4 x5 : Int) (M : ev_M) (Q : Int → ev_M → Prop) : Prop := ev 96 49 [(0, .inr (.inr (some 30))), (1, .inl x1), (2, .inl x2), (3, .inl x3), (4, .inl x4), (5, .inl x5)] [] M (fun v M1 => ∃ w : Int, v = some (.inl w) ∧ Q w M1)
def c96_94 (x1 x2 x3 x5 : Int) (M : ev_M) (Q : Int → ev_M → Prop) : Prop := ev 96 94 [(0, .inr (.inr (some 30))), (1, .inl x1), (2, .inl x2), (3, .inl x3), (5, .inl x5)] [] M (fun v M1 => ∃ w : Int, v = some (.inl w) ∧ Q w M1)
def c96_95 (x1 x2 x3 x5 t0 : Int) (M : ev_M) (Q : Int → ev_M → Prop) : Prop := ev 96 95 [(0, .inr (.inr (some 30))), (1, .inl x1), (2, .inl x2), (3, .inl x3), (5, .inl x5)] [.inl t0] M (fun v M1 => ∃ w : Int, v = some (.inl w) ∧ Q w M1)
def c96_112 (x1 x3 : Int) (M : ev_M) (Q : Int → ev_M → Prop) : Prop := ev 96 112 [(0, .inr (.inr (some 30))), (1, .inl x1), (3, .inl x3)] [] M (fun v M1 => ∃ w : Int, v = some (.inl w) ∧ Q w M1)
def c96_117 (x1 x3 t0 : Int) (M : ev_M) (Q : Int → ev_M → Prop) : Prop := ev 96 117 [(0, .inr (.inr (some 30))), (1, .inl x1), (3, .inl x3)] [.inl t0] M (fun v M1 => ∃ w : Int, v = some (.inl w) ∧ Q w M1)
set_option maxRecDepth 10000 in
theorem b96 {x1 : Int} {M : ev_M} {Q : Int → ev_M → Prop}
    (h : c96_4 x1 0 0 M Q) : m96 x1 M Q := by
  unfold m96
  refine ev_pu (st' := [.inl 0]) (pc' := 1) rfl rfl rfl rfl ?_
  refine ev_lo (lo' := [(2, .inl 0), (0, .inr (.inr (some 30))), (1, .inl x1)]) (st' := []) (pc' := 2) rfl rfl rfl rfl ?_
  refine ev_pu (st' := [.inl 0]) (pc' := 3) rfl rfl rfl rfl ?_
  refine ev_lo (lo' := [(3, .inl 0), (2, .inl 0), (0, .inr (.inr (some 30))), (1, .inl x1)]) (st' := []) (pc' := 4) rfl rfl rfl rfl ?_
  exact ev_pick [0, 1, 2, 3] rfl rfl h
set_option maxRecDepth 10000 in
theorem b96_4 {x1 x2 x3 : Int} {M : ev_M} {Q : Int → ev_M → Prop}
    (h : (x1 ≤ x3 → ((x2 = 0 ∨ x2 = 1) ∧ Q x2 M)) ∧ (¬ (x1 ≤ x3) → ((0 ≤ x3 ∧ x3 < 14) ∧ ((0 ≤ x1 ∧ x1 < 14) ∧ ((¬ (aM_left M (x3).toNat) = (aM_left M (x1).toNat) → (c96_43 x1 x2 x3 M Q)) ∧ (¬ (¬ (aM_left M (x3).toNat) = (aM_left M (x1).toNat)) → ((0 ≤ x3 ∧ x3 < 14) ∧ ((0 ≤ x1 ∧ x1 < 14) ∧ ((¬ (aM_sizes M (x3).toNat) = (aM_sizes M (x1).toNat) → (c96_43 x1 x2 x3 M Q)) ∧ (¬ (¬ (aM_sizes M (x3).toNat) = (aM_sizes M (x1).toNat)) → (c96_44 x1 x2 x3 1 M Q))))))))))) : c96_4 x1 x2 x3 M Q := by
  unfold c96_4
  refine ev_lo (lo' := [(0, .inr (.inr (some 30))), (1, .inl x1), (2, .inl x2), (3, .inl x3)]) (st' := [.inl x3]) (pc' := 5) rfl rfl rfl rfl ?_
  refine ev_lo (lo' := [(0, .inr (.inr (some 30))), (1, .inl x1), (2, .inl x2), (3, .inl x3)]) (st' := [.inl x1, .inl x3]) (pc' := 6) rfl rfl rfl rfl ?_
  refine ev_icmp (pc' := 124) (pc2 := 9) rfl (by decide) rfl rfl (fun hc => ?_) (fun hc => ?_)
  · replace h := h.1 (of_decide_eq_true hc)
    refine ev_lo (lo' := [(0, .inr (.inr (some 30))), (1, .inl x1), (2, .inl x2), (3, .inl x3)]) (st' := [.inl x2]) (pc' := 125) rfl rfl rfl rfl ?_
    obtain ⟨hs, h⟩ := h
    exact ev_rtZ rfl rfl hs ⟨_, rfl, h⟩
  · replace h := h.2 (of_decide_eq_false hc)
    refine ev_lo (lo' := [(0, .inr (.inr (some 30))), (1, .inl x1), (2, .inl x2), (3, .inl x3)]) (st' := [.inr (.inr (some 30))]) (pc' := 10) rfl rfl rfl rfl ?_
    refine ev_get (v := .inr (.inr (some 31))) (pc' := 13) rfl rfl rfl rfl ?_
    refine ev_lo (lo' := [(0, .inr (.inr (some 30))), (1, .inl x1), (2, .inl x2), (3, .inl x3)]) (st' := [.inl x3, .inr (.inr (some 31))]) (pc' := 14) rfl rfl rfl rfl ?_
    obtain ⟨hs0, h⟩ := h
    refine ev_ald (t := 0) (n := 14) (f := aM_left M) (w := fun x => .inl x) (pc' := 15) rfl rfl (fun _ _ => rfl) rfl hs0 rfl ?_
    refine ev_lo (lo' := [(0, .inr (.inr (some 30))), (1, .inl x1), (2, .inl x2), (3, .inl x3)]) (st' := [.inr (.inr (some 30)), .inl (aM_left M (x3).toNat)]) (pc' := 16) rfl rfl rfl rfl ?_
    refine ev_get (v := .inr (.inr (some 31))) (pc' := 19) rfl rfl rfl rfl ?_
    refine ev_lo (lo' := [(0, .inr (.inr (some 30))), (1, .inl x1), (2, .inl x2), (3, .inl x3)]) (st' := [.inl x1, .inr (.inr (some 31)), .inl (aM_left M (x3).toNat)]) (pc' := 20) rfl rfl rfl rfl ?_
    obtain ⟨hs0, h⟩ := h
    refine ev_ald (t := 0) (n := 14) (f := aM_left M) (w := fun x => .inl x) (pc' := 21) rfl rfl (fun _ _ => rfl) rfl hs0 rfl ?_
    refine ev_icmp (pc' := 43) (pc2 := 24) rfl (by decide) rfl rfl (fun hc => ?_) (fun hc => ?_)
    · replace h := h.1 (of_decide_eq_true hc)
      exact ev_pick [0, 1, 2, 3] rfl rfl h
    · replace h := h.2 (of_decide_eq_false hc)
      refine ev_lo (lo' := [(0, .inr (.inr (some 30))), (1, .inl x1), (2, .inl x2), (3, .inl x3)]) (st' := [.inr (.inr (some 30))]) (pc' := 25) rfl rfl rfl rfl ?_
      refine ev_get (v := .inr (.inr (some 32))) (pc' := 28) rfl rfl rfl rfl ?_
      refine ev_lo (lo' := [(0, .inr (.inr (some 30))), (1, .inl x1), (2, .inl x2), (3, .inl x3)]) (st' := [.inl x3, .inr (.inr (some 32))]) (pc' := 29) rfl rfl rfl rfl ?_
      obtain ⟨hs0, h⟩ := h
      refine ev_ald (t := 0) (n := 14) (f := aM_sizes M) (w := fun x => .inl x) (pc' := 30) rfl rfl (fun _ _ => rfl) rfl hs0 rfl ?_
      refine ev_lo (lo' := [(0, .inr (.inr (some 30))), (1, .inl x1), (2, .inl x2), (3, .inl x3)]) (st' := [.inr (.inr (some 30)), .inl (aM_sizes M (x3).toNat)]) (pc' := 31) rfl rfl rfl rfl ?_
      refine ev_get (v := .inr (.inr (some 32))) (pc' := 34) rfl rfl rfl rfl ?_
      refine ev_lo (lo' := [(0, .inr (.inr (some 30))), (1, .inl x1), (2, .inl x2), (3, .inl x3)]) (st' := [.inl x1, .inr (.inr (some 32)), .inl (aM_sizes M (x3).toNat)]) (pc' := 35) rfl rfl rfl rfl ?_
      obtain ⟨hs0, h⟩ := h
      refine ev_ald (t := 0) (n := 14) (f := aM_sizes M) (w := fun x => .inl x) (pc' := 36) rfl rfl (fun _ _ => rfl) rfl hs0 rfl ?_
      refine ev_icmp (pc' := 43) (pc2 := 39) rfl (by decide) rfl rfl (fun hc => ?_) (fun hc => ?_)
      · replace h := h.1 (of_decide_eq_true hc)
        exact ev_pick [0, 1, 2, 3] rfl rfl h
      · replace h := h.2 (of_decide_eq_false hc)
        refine ev_pu (st' := [.inl 1]) (pc' := 40) rfl rfl rfl rfl ?_
        refine ev_br (pc' := 44) (st' := [.inl 1]) rfl rfl rfl ?_
        exact ev_pick [0, 1, 2, 3] rfl rfl h
set_option maxRecDepth 10000 in
theorem b96_43 {x1 x2 x3 : Int} {M : ev_M} {Q : Int → ev_M → Prop}
    (h : c96_44 x1 x2 x3 0 M Q) : c96_43 x1 x2 x3 M Q := by
  unfold c96_43
  refine ev_pu (st' := [.inl 0]) (pc' := 44) rfl rfl rfl rfl ?_
  exact ev_pick [0, 1, 2, 3] rfl rfl h
set_option maxRecDepth 10000 in
theorem b96_44 {x1 x2 x3 t0 : Int} {M : ev_M} {Q : Int → ev_M → Prop}
    (h : c96_49 x1 x2 x3 t0 0 M Q) : c96_44 x1 x2 x3 t0 M Q := by
  unfold c96_44
  refine ev_lo (lo' := [(4, .inl t0), (0, .inr (.inr (some 30))), (1, .inl x1), (2, .inl x2), (3, .inl x3)]) (st' := []) (pc' := 46) rfl rfl rfl rfl ?_
  refine ev_pu (st' := [.inl 0]) (pc' := 47) rfl rfl rfl rfl ?_
  refine ev_lo (lo' := [(5, .inl 0), (4, .inl t0), (0, .inr (.inr (some 30))), (1, .inl x1), (2, .inl x2), (3, .inl x3)]) (st' := []) (pc' := 49) rfl rfl rfl rfl ?_
  exact ev_pick [0, 1, 2, 3, 4, 5] rfl rfl h
set_option maxRecDepth 10000 in
theorem b96_49 {x1 x2 x3 x4 x5 : Int} {M : ev_M} {Q : Int → ev_M → Prop}
    (h : (0 ≤ x1 ∧ x1 < 14) ∧ (((aM_sizes M (x1).toNat) ≤ x5 → ((¬ x2 = 0 → (c96_112 x1 x3 M Q)) ∧ (¬ (¬ x2 = 0) → ((x4 = 0 → (c96_117 x1 x3 0 M Q)) ∧ (¬ (x4 = 0) → (c96_112 x1 x3 M Q)))))) ∧ (¬ ((aM_sizes M (x1).toNat) ≤ x5) → ((x4 = 0 → (c96_94 x1 x2 x3 x5 M Q)) ∧ (¬ (x4 = 0) → (tm_iI (4 * x3) ∧ (tm_iI ((4 * x3) + x5) ∧ ((0 ≤ ((4 * x3) + x5) ∧ ((4 * x3) + x5) < 56) ∧ (tm_iI (4 * x1) ∧ (tm_iI ((4 * x1) + x5) ∧ ((0 ≤ ((4 * x1) + x5) ∧ ((4 * x1) + x5) < 56) ∧ ((¬ (aM_right M ((4 * x3) + x5).toNat) = (aM_right M ((4 * x1) + x5).toNat) → (c96_94 x1 x2 x3 x5 M Q)) ∧ (¬ (¬ (aM_right M ((4 * x3) + x5).toNat) = (aM_right M ((4 * x1) + x5).toNat)) → (c96_95 x1 x2 x3 x5 1 M Q)))))))))))))) : c96_49 x1 x2 x3 x4 x5 M Q := by
  unfold c96_49
  refine ev_lo (lo' := [(0, .inr (.inr (some 30))), (1, .inl x1), (2, .inl x2), (3, .inl x3), (4, .inl x4), (5, .inl x5)]) (st' := [.inl x5]) (pc' := 51) rfl rfl rfl rfl ?_
  refine ev_lo (lo' := [(0, .inr (.inr (some 30))), (1, .inl x1), (2, .inl x2), (3, .inl x3), (4, .inl x4), (5, .inl x5)]) (st' := [.inr (.inr (some 30)), .inl x5]) (pc' := 52) rfl rfl rfl rfl ?_
  refine ev_get (v := .inr (.inr (some 32))) (pc' := 55) rfl rfl rfl rfl ?_
  refine ev_lo (lo' := [(0, .inr (.inr (some 30))), (1, .inl x1), (2, .inl x2), (3, .inl x3), (4, .inl x4), (5, .inl x5)]) (st' := [.inl x1, .inr (.inr (some 32)), .inl x5]) (pc' := 56) rfl rfl rfl rfl ?_
  obtain ⟨hs0, h⟩ := h
  refine ev_ald (t := 0) (n := 14) (f := aM_sizes M) (w := fun x => .inl x) (pc' := 57) rfl rfl (fun _ _ => rfl) rfl hs0 rfl ?_
  refine ev_icmp (pc' := 103) (pc2 := 60) rfl (by decide) rfl rfl (fun hc => ?_) (fun hc => ?_)
  · replace h := h.1 (of_decide_eq_true hc)
    refine ev_lo (lo' := [(0, .inr (.inr (some 30))), (1, .inl x1), (2, .inl x2), (3, .inl x3), (4, .inl x4), (5, .inl x5)]) (st' := [.inl x2]) (pc' := 104) rfl rfl rfl rfl ?_
    refine ev_ifT (pc' := 112) (pc2 := 107) rfl (by decide) rfl rfl (fun hc => ?_) (fun hc => ?_)
    · replace h := h.1 (of_decide_eq_true hc)
      exact ev_pick [0, 1, 3] rfl rfl h
    · replace h := h.2 (of_decide_eq_false hc)
      refine ev_lo (lo' := [(0, .inr (.inr (some 30))), (1, .inl x1), (2, .inl x2), (3, .inl x3), (4, .inl x4), (5, .inl x5)]) (st' := [.inl x4]) (pc' := 109) rfl rfl rfl rfl ?_
      refine ev_ifT (pc' := 116) (pc2 := 112) rfl (by decide) rfl rfl (fun hc => ?_) (fun hc => ?_)
      · replace h := h.1 (of_decide_eq_true hc)
        refine ev_pu (st' := [.inl 0]) (pc' := 117) rfl rfl rfl rfl ?_
        exact ev_pick [0, 1, 3] rfl rfl h
      · replace h := h.2 (of_decide_eq_false hc)
        exact ev_pick [0, 1, 3] rfl rfl h
  · replace h := h.2 (of_decide_eq_false hc)
    refine ev_lo (lo' := [(0, .inr (.inr (some 30))), (1, .inl x1), (2, .inl x2), (3, .inl x3), (4, .inl x4), (5, .inl x5)]) (st' := [.inl x4]) (pc' := 62) rfl rfl rfl rfl ?_
    refine ev_ifT (pc' := 94) (pc2 := 65) rfl (by decide) rfl rfl (fun hc => ?_) (fun hc => ?_)
    · replace h := h.1 (of_decide_eq_true hc)
      exact ev_pick [0, 1, 2, 3, 5] rfl rfl h
    · replace h := h.2 (of_decide_eq_false hc)
      refine ev_lo (lo' := [(0, .inr (.inr (some 30))), (1, .inl x1), (2, .inl x2), (3, .inl x3), (4, .inl x4), (5, .inl x5)]) (st' := [.inr (.inr (some 30))]) (pc' := 66) rfl rfl rfl rfl ?_
      refine ev_get (v := .inr (.inr (some 33))) (pc' := 69) rfl rfl rfl rfl ?_
      refine ev_pu (st' := [.inl 4, .inr (.inr (some 33))]) (pc' := 70) rfl rfl rfl rfl ?_
      refine ev_lo (lo' := [(0, .inr (.inr (some 30))), (1, .inl x1), (2, .inl x2), (3, .inl x3), (4, .inl x4), (5, .inl x5)]) (st' := [.inl x3, .inl 4, .inr (.inr (some 33))]) (pc' := 71) rfl rfl rfl rfl ?_
      obtain ⟨hs, h⟩ := h
      refine ev_ii (f := fun a b => a * b) (pc' := 72) rfl rfl (fun _ => rfl) (tm_mul hs) rfl ?_
      refine ev_lo (lo' := [(0, .inr (.inr (some 30))), (1, .inl x1), (2, .inl x2), (3, .inl x3), (4, .inl x4), (5, .inl x5)]) (st' := [.inl x5, .inl (4 * x3), .inr (.inr (some 33))]) (pc' := 74) rfl rfl rfl rfl ?_
      obtain ⟨hs, h⟩ := h
      refine ev_ii (f := fun a b => a + b) (pc' := 75) rfl rfl (fun _ => rfl) (tm_add hs) rfl ?_
      obtain ⟨hs0, h⟩ := h
      refine ev_ald (t := 0) (n := 56) (f := aM_right M) (w := fun x => .inl x) (pc' := 76) rfl rfl (fun _ _ => rfl) rfl hs0 rfl ?_
      refine ev_lo (lo' := [(0, .inr (.inr (some 30))), (1, .inl x1), (2, .inl x2), (3, .inl x3), (4, .inl x4), (5, .inl x5)]) (st' := [.inr (.inr (some 30)), .inl (aM_right M ((4 * x3) + x5).toNat)]) (pc' := 77) rfl rfl rfl rfl ?_
      refine ev_get (v := .inr (.inr (some 33))) (pc' := 80) rfl rfl rfl rfl ?_
      refine ev_pu (st' := [.inl 4, .inr (.inr (some 33)), .inl (aM_right M ((4 * x3) + x5).toNat)]) (pc' := 81) rfl rfl rfl rfl ?_
      refine ev_lo (lo' := [(0, .inr (.inr (some 30))), (1, .inl x1), (2, .inl x2), (3, .inl x3), (4, .inl x4), (5, .inl x5)]) (st' := [.inl x1, .inl 4, .inr (.inr (some 33)), .inl (aM_right M ((4 * x3) + x5).toNat)]) (pc' := 82) rfl rfl rfl rfl ?_
      obtain ⟨hs, h⟩ := h
      refine ev_ii (f := fun a b => a * b) (pc' := 83) rfl rfl (fun _ => rfl) (tm_mul hs) rfl ?_
      refine ev_lo (lo' := [(0, .inr (.inr (some 30))), (1, .inl x1), (2, .inl x2), (3, .inl x3), (4, .inl x4), (5, .inl x5)]) (st' := [.inl x5, .inl (4 * x1), .inr (.inr (some 33)), .inl (aM_right M ((4 * x3) + x5).toNat)]) (pc' := 85) rfl rfl rfl rfl ?_
      obtain ⟨hs, h⟩ := h
      refine ev_ii (f := fun a b => a + b) (pc' := 86) rfl rfl (fun _ => rfl) (tm_add hs) rfl ?_
      obtain ⟨hs0, h⟩ := h
      refine ev_ald (t := 0) (n := 56) (f := aM_right M) (w := fun x => .inl x) (pc' := 87) rfl rfl (fun _ _ => rfl) rfl hs0 rfl ?_
      refine ev_icmp (pc' := 94) (pc2 := 90) rfl (by decide) rfl rfl (fun hc => ?_) (fun hc => ?_)
      · replace h := h.1 (of_decide_eq_true hc)
        exact ev_pick [0, 1, 2, 3, 5] rfl rfl h
      · replace h := h.2 (of_decide_eq_false hc)
        refine ev_pu (st' := [.inl 1]) (pc' := 91) rfl rfl rfl rfl ?_
        refine ev_br (pc' := 95) (st' := [.inl 1]) rfl rfl rfl ?_
        exact ev_pick [0, 1, 2, 3, 5] rfl rfl h
set_option maxRecDepth 10000 in
theorem b96_94 {x1 x2 x3 x5 : Int} {M : ev_M} {Q : Int → ev_M → Prop}
    (h : c96_95 x1 x2 x3 x5 0 M Q) : c96_94 x1 x2 x3 x5 M Q := by
  unfold c96_94
  refine ev_pu (st' := [.inl 0]) (pc' := 95) rfl rfl rfl rfl ?_
  exact ev_pick [0, 1, 2, 3, 5] rfl rfl h
set_option maxRecDepth 10000 in
theorem b96_95 {x1 x2 x3 x5 t0 : Int} {M : ev_M} {Q : Int → ev_M → Prop}
    (h : tm_iI (x5 + 1) ∧ (c96_49 x1 x2 x3 t0 (x5 + 1) M Q)) : c96_95 x1 x2 x3 x5 t0 M Q := by
  unfold c96_95
  refine ev_lo (lo' := [(4, .inl t0), (0, .inr (.inr (some 30))), (1, .inl x1), (2, .inl x2), (3, .inl x3), (5, .inl x5)]) (st' := []) (pc' := 97) rfl rfl rfl rfl ?_
  obtain ⟨hs, h⟩ := h
  refine ev_iinc (lo' := [(5, .inl (x5 + 1)), (4, .inl t0), (0, .inr (.inr (some 30))), (1, .inl x1), (2, .inl x2), (3, .inl x3)]) (pc' := 100) rfl rfl (by decide) (tm_add hs) rfl rfl ?_
  refine ev_br (pc' := 49) (st' := []) rfl rfl rfl ?_
  exact ev_pick [0, 1, 2, 3, 4, 5] rfl rfl h
set_option maxRecDepth 10000 in
theorem b96_112 {x1 x3 : Int} {M : ev_M} {Q : Int → ev_M → Prop}
    (h : c96_117 x1 x3 1 M Q) : c96_112 x1 x3 M Q := by
  unfold c96_112
  refine ev_pu (st' := [.inl 1]) (pc' := 113) rfl rfl rfl rfl ?_
  refine ev_br (pc' := 117) (st' := [.inl 1]) rfl rfl rfl ?_
  exact ev_pick [0, 1, 3] rfl rfl h
set_option maxRecDepth 10000 in
theorem b96_117 {x1 x3 t0 : Int} {M : ev_M} {Q : Int → ev_M → Prop}
    (h : tm_iI (x3 + 1) ∧ (c96_4 x1 t0 (x3 + 1) M Q)) : c96_117 x1 x3 t0 M Q := by
  unfold c96_117
  refine ev_lo (lo' := [(2, .inl t0), (0, .inr (.inr (some 30))), (1, .inl x1), (3, .inl x3)]) (st' := []) (pc' := 118) rfl rfl rfl rfl ?_
  obtain ⟨hs, h⟩ := h
  refine ev_iinc (lo' := [(3, .inl (x3 + 1)), (2, .inl t0), (0, .inr (.inr (some 30))), (1, .inl x1)]) (pc' := 121) rfl rfl (by decide) (tm_add hs) rfl rfl ?_
  refine ev_br (pc' := 4) (st' := []) rfl rfl rfl ?_
  exact ev_pick [0, 1, 2, 3] rfl rfl h
/-! NulledForestModel.rule(IIIII)I -/
def m97 (x1 x2 x3 x4 x5 : Int) (M : ev_M) (Q : Int → ev_M → Prop) : Prop := ev 97 0 [(0, .inr (.inr (some 30))), (1, .inl x1), (2, .inl x2), (3, .inl x3), (4, .inl x4), (5, .inl x5)] [] M (fun v M1 => ∃ w : Int, v = some (.inl w) ∧ Q w M1)
def c97_16 (M : ev_M) (Q : Int → ev_M → Prop) : Prop := ev 97 16 [] [] M (fun v M1 => ∃ w : Int, v = some (.inl w) ∧ Q w M1)
def c97_57 (x1 x2 x3 x4 x5 t0 : Int) (M : ev_M) (Q : Int → ev_M → Prop) : Prop := ev 97 57 [(0, .inr (.inr (some 30))), (1, .inl x1), (2, .inl x2), (3, .inl x3), (4, .inl x4), (5, .inl x5)] [.inl t0] M (fun v M1 => ∃ w : Int, v = some (.inl w) ∧ Q w M1)
def c97_72 (x1 x2 x3 x4 x5 x6 : Int) (M : ev_M) (Q : Int → ev_M → Prop) : Prop := ev 97 72 [(0, .inr (.inr (some 30))), (1, .inl x1), (2, .inl x2), (3, .inl x3), (4, .inl x4), (5, .inl x5), (6, .inl x6)] [] M (fun v M1 => ∃ w : Int, v = some (.inl w) ∧ Q w M1)
def c97_85 (x1 x2 x3 x4 x5 x6 : Int) (M : ev_M) (Q : Int → ev_M → Prop) : Prop := ev 97 85 [(0, .inr (.inr (some 30))), (1, .inl x1), (2, .inl x2), (3, .inl x3), (4, .inl x4), (5, .inl x5), (6, .inl x6)] [] M (fun v M1 => ∃ w : Int, v = some (.inl w) ∧ Q w M1)
def c97_99 (x1 x2 x3 x4 x5 x6 : Int) (M : ev_M) (Q : Int → ev_M → Prop) : Prop := ev 97 99 [(0, .inr (.inr (some 30))), (1, .inl x1), (2, .inl x2), (3, .inl x3), (4, .inl x4), (5, .inl x5), (6, .inl x6)] [] M (fun v M1 => ∃ w : Int, v = some (.inl w) ∧ Q w M1)
def c97_113 (x1 x2 x3 x4 x5 x6 : Int) (M : ev_M) (Q : Int → ev_M → Prop) : Prop := ev 97 113 [(0, .inr (.inr (some 30))), (1, .inl x1), (2, .inl x2), (3, .inl x3), (4, .inl x4), (5, .inl x5), (6, .inl x6)] [] M (fun v M1 => ∃ w : Int, v = some (.inl w) ∧ Q w M1)
def c97_117 (x1 x2 x3 x4 x5 x6 : Int) (M : ev_M) (Q : Int → ev_M → Prop) : Prop := ev 97 117 [(0, .inr (.inr (some 30))), (1, .inl x1), (2, .inl x2), (3, .inl x3), (4, .inl x4), (5, .inl x5), (6, .inl x6)] [] M (fun v M1 => ∃ w : Int, v = some (.inl w) ∧ Q w M1)
def c97_118 (x1 x2 x3 x4 x5 x6 t0 : Int) (M : ev_M) (Q : Int → ev_M → Prop) : Prop := ev 97 118 [(0, .inr (.inr (some 30))), (1, .inl x1), (2, .inl x2), (3, .inl x3), (4, .inl x4), (5, .inl x5), (6, .inl x6)] [.inl t0] M (fun v M1 => ∃ w : Int, v = some (.inl w) ∧ Q w M1)
set_option maxRecDepth 10000 in
theorem b97 {x1 x2 x3 x4 x5 : Int} {M : ev_M} {Q : Int → ev_M → Prop}
    (h : m95 x1 M (fun w1 M1 => (w1 = 0 → (c97_16 M1 Q)) ∧ (¬ (w1 = 0) → ((¬ (sM_rules M1) = 14 → ((¬ x2 = (-1) → ((¬ x3 = (-1) → ((¬ x4 = (-1) → ((¬ x5 = (-1) → (c97_57 x1 x2 x3 x4 x5 4 M1 Q)) ∧ (¬ (¬ x5 = (-1)) → (c97_57 x1 x2 x3 x4 x5 3 M1 Q)))) ∧ (¬ (¬ x4 = (-1)) → (c97_57 x1 x2 x3 x4 x5 2 M1 Q)))) ∧ (¬ (¬ x3 = (-1)) → (c97_57 x1 x2 x3 x4 x5 1 M1 Q)))) ∧ (¬ (¬ x2 = (-1)) → (c97_57 x1 x2 x3 x4 x5 0 M1 Q)))) ∧ (¬ (¬ (sM_rules M1) = 14) → (c97_16 M1 Q)))))) : m97 x1 x2 x3 x4 x5 M Q := by
  unfold m97
  refine ev_lo (lo' := [(0, .inr (.inr (some 30))), (1, .inl x1), (2, .inl x2), (3, .inl x3), (4, .inl x4), (5, .inl x5)]) (st' := [.inl x1]) (pc' := 1) rfl rfl rfl rfl ?_
  refine ev_call (as := [.inl x1]) (r := []) (pc' := 4) rfl rfl (Nat.le_of_ble_eq_true rfl) (Nat.le_of_ble_eq_true rfl) ⟨rfl, rfl⟩ (Nat.le_of_ble_eq_true rfl) rfl rfl rfl rfl ?_
  refine ev.post h (fun v M1 h => ?_)
  obtain ⟨w1, rfl, h⟩ := h
  show ev 97 4 [(0, .inr (.inr (some 30))), (1, .inl x1), (2, .inl x2), (3, .inl x3), (4, .inl x4), (5, .inl x5)] [.inl w1] M1 _
  refine ev_ifT (pc' := 16) (pc2 := 7) rfl (by decide) rfl rfl (fun hc => ?_) (fun hc => ?_)
  · replace h := h.1 (of_decide_eq_true hc)
    exact ev_pick [] rfl rfl h
  · replace h := h.2 (of_decide_eq_false hc)
    refine ev_lo (lo' := [(0, .inr (.inr (some 30))), (1, .inl x1), (2, .inl x2), (3, .inl x3), (4, .inl x4), (5, .inl x5)]) (st' := [.inr (.inr (some 30))]) (pc' := 8) rfl rfl rfl rfl ?_
    refine ev_get (v := .inl (sM_rules M1)) (pc' := 11) rfl rfl rfl rfl ?_
    refine ev_pu (st' := [.inl 14, .inl (sM_rules M1)]) (pc' := 13) rfl rfl rfl rfl ?_
    refine ev_icmp (pc' := 18) (pc2 := 16) rfl (by decide) rfl rfl (fun hc => ?_) (fun hc => ?_)
    · replace h := h.1 (of_decide_eq_true hc)
      refine ev_lo (lo' := [(0, .inr (.inr (some 30))), (1, .inl x1), (2, .inl x2), (3, .inl x3), (4, .inl x4), (5, .inl x5)]) (st' := [.inl x2]) (pc' := 19) rfl rfl rfl rfl ?_
      refine ev_pu (st' := [.inl (-1), .inl x2]) (pc' := 20) rfl rfl rfl rfl ?_
      refine ev_icmp (pc' := 27) (pc2 := 23) rfl (by decide) rfl rfl (fun hc => ?_) (fun hc => ?_)
      · replace h := h.1 (of_decide_eq_true hc)
        refine ev_lo (lo' := [(0, .inr (.inr (some 30))), (1, .inl x1), (2, .inl x2), (3, .inl x3), (4, .inl x4), (5, .inl x5)]) (st' := [.inl x3]) (pc' := 28) rfl rfl rfl rfl ?_
        refine ev_pu (st' := [.inl (-1), .inl x3]) (pc' := 29) rfl rfl rfl rfl ?_
        refine ev_icmp (pc' := 36) (pc2 := 32) rfl (by decide) rfl rfl (fun hc => ?_) (fun hc => ?_)
        · replace h := h.1 (of_decide_eq_true hc)
          refine ev_lo (lo' := [(0, .inr (.inr (some 30))), (1, .inl x1), (2, .inl x2), (3, .inl x3), (4, .inl x4), (5, .inl x5)]) (st' := [.inl x4]) (pc' := 38) rfl rfl rfl rfl ?_
          refine ev_pu (st' := [.inl (-1), .inl x4]) (pc' := 39) rfl rfl rfl rfl ?_
          refine ev_icmp (pc' := 46) (pc2 := 42) rfl (by decide) rfl rfl (fun hc => ?_) (fun hc => ?_)
          · replace h := h.1 (of_decide_eq_true hc)
            refine ev_lo (lo' := [(0, .inr (.inr (some 30))), (1, .inl x1), (2, .inl x2), (3, .inl x3), (4, .inl x4), (5, .inl x5)]) (st' := [.inl x5]) (pc' := 48) rfl rfl rfl rfl ?_
            refine ev_pu (st' := [.inl (-1), .inl x5]) (pc' := 49) rfl rfl rfl rfl ?_
            refine ev_icmp (pc' := 56) (pc2 := 52) rfl (by decide) rfl rfl (fun hc => ?_) (fun hc => ?_)
            · replace h := h.1 (of_decide_eq_true hc)
              refine ev_pu (st' := [.inl 4]) (pc' := 57) rfl rfl rfl rfl ?_
              exact ev_pick [0, 1, 2, 3, 4, 5] rfl rfl h
            · replace h := h.2 (of_decide_eq_false hc)
              refine ev_pu (st' := [.inl 3]) (pc' := 53) rfl rfl rfl rfl ?_
              refine ev_br (pc' := 57) (st' := [.inl 3]) rfl rfl rfl ?_
              exact ev_pick [0, 1, 2, 3, 4, 5] rfl rfl h
          · replace h := h.2 (of_decide_eq_false hc)
            refine ev_pu (st' := [.inl 2]) (pc' := 43) rfl rfl rfl rfl ?_
            refine ev_br (pc' := 57) (st' := [.inl 2]) rfl rfl rfl ?_
            exact ev_pick [0, 1, 2, 3, 4, 5] rfl rfl h
        · replace h := h.2 (of_decide_eq_false hc)
          refine ev_pu (st' := [.inl 1]) (pc' := 33) rfl rfl rfl rfl ?_
          refine ev_br (pc' := 57) (st' := [.inl 1]) rfl rfl rfl ?_
          exact ev_pick [0, 1, 2, 3, 4, 5] rfl rfl h
      · replace h := h.2 (of_decide_eq_false hc)
        refine ev_pu (st' := [.inl 0]) (pc' := 24) rfl rfl rfl rfl ?_
        refine ev_br (pc' := 57) (st' := [.inl 0]) rfl rfl rfl ?_
        exact ev_pick [0, 1, 2, 3, 4, 5] rfl rfl h
    · replace h := h.2 (of_decide_eq_false hc)
      exact ev_pick [] rfl rfl h
set_option maxRecDepth 10000 in
theorem b97_16 {M : ev_M} {Q : Int → ev_M → Prop}
    (h : Q (-1) M) : c97_16 M Q := by
  unfold c97_16
  refine ev_pu (st' := [.inl (-1)]) (pc' := 17) rfl rfl rfl rfl ?_
  exact ev_rt rfl rfl rfl ⟨_, rfl, h⟩
set_option maxRecDepth 10000 in
theorem b97_57 {x1 x2 x3 x4 x5 t0 : Int} {M : ev_M} {Q : Int → ev_M → Prop}
    (h : (t0 < 1 → (c97_72 x1 x2 x3 x4 x5 t0 M Q)) ∧ (¬ (t0 < 1) → (m94 x2 M (fun w1 M1 => (w1 = 0 → (c97_117 x1 x2 x3 x4 x5 t0 M1 Q)) ∧ (¬ (w1 = 0) → (c97_72 x1 x2 x3 x4 x5 t0 M1 Q)))))) : c97_57 x1 x2 x3 x4 x5 t0 M Q := by
  unfold c97_57
  refine ev_lo (lo' := [(6, .inl t0), (0, .inr (.inr (some 30))), (1, .inl x1), (2, .inl x2), (3, .inl x3), (4, .inl x4), (5, .inl x5)]) (st' := []) (pc' := 59) rfl rfl rfl rfl ?_
  refine ev_lo (lo' := [(6, .inl t0), (0, .inr (.inr (some 30))), (1, .inl x1), (2, .inl x2), (3, .inl x3), (4, .inl x4), (5, .inl x5)]) (st' := [.inl t0]) (pc' := 61) rfl rfl rfl rfl ?_
  refine ev_pu (st' := [.inl 1, .inl t0]) (pc' := 62) rfl rfl rfl rfl ?_
  refine ev_icmp (pc' := 72) (pc2 := 65) rfl (by decide) rfl rfl (fun hc => ?_) (fun hc => ?_)
  · replace h := h.1 (of_decide_eq_true hc)
    exact ev_pick [0, 1, 2, 3, 4, 5, 6] rfl rfl h
  · replace h := h.2 (of_decide_eq_false hc)
    refine ev_lo (lo' := [(6, .inl t0), (0, .inr (.inr (some 30))), (1, .inl x1), (2, .inl x2), (3, .inl x3), (4, .inl x4), (5, .inl x5)]) (st' := [.inl x2]) (pc' := 66) rfl rfl rfl rfl ?_
    refine ev_call (as := [.inl x2]) (r := []) (pc' := 69) rfl rfl (Nat.le_of_ble_eq_true rfl) (Nat.le_of_ble_eq_true rfl) ⟨rfl, rfl⟩ (Nat.le_of_ble_eq_true rfl) rfl rfl rfl rfl ?_
    refine ev.post h (fun v M1 h => ?_)
    obtain ⟨w1, rfl, h⟩ := h
    show ev 97 69 [(6, .inl t0), (0, .inr (.inr (some 30))), (1, .inl x1), (2, .inl x2), (3, .inl x3), (4, .inl x4), (5, .inl x5)] [.inl w1] M1 _
    refine ev_ifT (pc' := 117) (pc2 := 72) rfl (by decide) rfl rfl (fun hc => ?_) (fun hc => ?_)
    · replace h := h.1 (of_decide_eq_true hc)
      exact ev_pick [0, 1, 2, 3, 4, 5, 6] rfl rfl h
    · replace h := h.2 (of_decide_eq_false hc)
      exact ev_pick [0, 1, 2, 3, 4, 5, 6] rfl rfl h
set_option maxRecDepth 10000 in
theorem b97_72 {x1 x2 x3 x4 x5 x6 : Int} {M : ev_M} {Q : Int → ev_M → Prop}
    (h : (x6 < 2 → (c97_85 x1 x2 x3 x4 x5 x6 M Q)) ∧ (¬ (x6 < 2) → (m94 x3 M (fun w1 M1 => (w1 = 0 → (c97_117 x1 x2 x3 x4 x5 x6 M1 Q)) ∧ (¬ (w1 = 0) → (c97_85 x1 x2 x3 x4 x5 x6 M1 Q)))))) : c97_72 x1 x2 x3 x4 x5 x6 M Q := by
  unfold c97_72
  refine ev_lo (lo' := [(0, .inr (.inr (some 30))), (1, .inl x1), (2, .inl x2), (3, .inl x3), (4, .inl x4), (5, .inl x5), (6, .inl x6)]) (st' := [.inl x6]) (pc' := 74) rfl rfl rfl rfl ?_
  refine ev_pu (st' := [.inl 2, .inl x6]) (pc' := 75) rfl rfl rfl rfl ?_
  refine ev_icmp (pc' := 85) (pc2 := 78) rfl (by decide) rfl rfl (fun hc => ?_) (fun hc => ?_)
  · replace h := h.1 (of_decide_eq_true hc)
    exact ev_pick [0, 1, 2, 3, 4, 5, 6] rfl rfl h
  · replace h := h.2 (of_decide_eq_false hc)
    refine ev_lo (lo' := [(0, .inr (.inr (some 30))), (1, .inl x1), (2, .inl x2), (3, .inl x3), (4, .inl x4), (5, .inl x5), (6, .inl x6)]) (st' := [.inl x3]) (pc' := 79) rfl rfl rfl rfl ?_
    refine ev_call (as := [.inl x3]) (r := []) (pc' := 82) rfl rfl (Nat.le_of_ble_eq_true rfl) (Nat.le_of_ble_eq_true rfl) ⟨rfl, rfl⟩ (Nat.le_of_ble_eq_true rfl) rfl rfl rfl rfl ?_
    refine ev.post h (fun v M1 h => ?_)
    obtain ⟨w1, rfl, h⟩ := h
    show ev 97 82 [(0, .inr (.inr (some 30))), (1, .inl x1), (2, .inl x2), (3, .inl x3), (4, .inl x4), (5, .inl x5), (6, .inl x6)] [.inl w1] M1 _
    refine ev_ifT (pc' := 117) (pc2 := 85) rfl (by decide) rfl rfl (fun hc => ?_) (fun hc => ?_)
    · replace h := h.1 (of_decide_eq_true hc)
      exact ev_pick [0, 1, 2, 3, 4, 5, 6] rfl rfl h
    · replace h := h.2 (of_decide_eq_false hc)
      exact ev_pick [0, 1, 2, 3, 4, 5, 6] rfl rfl h
set_option maxRecDepth 10000 in
theorem b97_85 {x1 x2 x3 x4 x5 x6 : Int} {M : ev_M} {Q : Int → ev_M → Prop}
    (h : (x6 < 3 → (c97_99 x1 x2 x3 x4 x5 x6 M Q)) ∧ (¬ (x6 < 3) → (m94 x4 M (fun w1 M1 => (w1 = 0 → (c97_117 x1 x2 x3 x4 x5 x6 M1 Q)) ∧ (¬ (w1 = 0) → (c97_99 x1 x2 x3 x4 x5 x6 M1 Q)))))) : c97_85 x1 x2 x3 x4 x5 x6 M Q := by
  unfold c97_85
  refine ev_lo (lo' := [(0, .inr (.inr (some 30))), (1, .inl x1), (2, .inl x2), (3, .inl x3), (4, .inl x4), (5, .inl x5), (6, .inl x6)]) (st' := [.inl x6]) (pc' := 87) rfl rfl rfl rfl ?_
  refine ev_pu (st' := [.inl 3, .inl x6]) (pc' := 88) rfl rfl rfl rfl ?_
  refine ev_icmp (pc' := 99) (pc2 := 91) rfl (by decide) rfl rfl (fun hc => ?_) (fun hc => ?_)
  · replace h := h.1 (of_decide_eq_true hc)
    exact ev_pick [0, 1, 2, 3, 4, 5, 6] rfl rfl h
  · replace h := h.2 (of_decide_eq_false hc)
    refine ev_lo (lo' := [(0, .inr (.inr (some 30))), (1, .inl x1), (2, .inl x2), (3, .inl x3), (4, .inl x4), (5, .inl x5), (6, .inl x6)]) (st' := [.inl x4]) (pc' := 93) rfl rfl rfl rfl ?_
    refine ev_call (as := [.inl x4]) (r := []) (pc' := 96) rfl rfl (Nat.le_of_ble_eq_true rfl) (Nat.le_of_ble_eq_true rfl) ⟨rfl, rfl⟩ (Nat.le_of_ble_eq_true rfl) rfl rfl rfl rfl ?_
    refine ev.post h (fun v M1 h => ?_)
    obtain ⟨w1, rfl, h⟩ := h
    show ev 97 96 [(0, .inr (.inr (some 30))), (1, .inl x1), (2, .inl x2), (3, .inl x3), (4, .inl x4), (5, .inl x5), (6, .inl x6)] [.inl w1] M1 _
    refine ev_ifT (pc' := 117) (pc2 := 99) rfl (by decide) rfl rfl (fun hc => ?_) (fun hc => ?_)
    · replace h := h.1 (of_decide_eq_true hc)
      exact ev_pick [0, 1, 2, 3, 4, 5, 6] rfl rfl h
    · replace h := h.2 (of_decide_eq_false hc)
      exact ev_pick [0, 1, 2, 3, 4, 5, 6] rfl rfl h
set_option maxRecDepth 10000 in
theorem b97_99 {x1 x2 x3 x4 x5 x6 : Int} {M : ev_M} {Q : Int → ev_M → Prop}
    (h : (x6 < 4 → (c97_113 x1 x2 x3 x4 x5 x6 M Q)) ∧ (¬ (x6 < 4) → (m94 x5 M (fun w1 M1 => (w1 = 0 → (c97_117 x1 x2 x3 x4 x5 x6 M1 Q)) ∧ (¬ (w1 = 0) → (c97_113 x1 x2 x3 x4 x5 x6 M1 Q)))))) : c97_99 x1 x2 x3 x4 x5 x6 M Q := by
  unfold c97_99
  refine ev_lo (lo' := [(0, .inr (.inr (some 30))), (1, .inl x1), (2, .inl x2), (3, .inl x3), (4, .inl x4), (5, .inl x5), (6, .inl x6)]) (st' := [.inl x6]) (pc' := 101) rfl rfl rfl rfl ?_
  refine ev_pu (st' := [.inl 4, .inl x6]) (pc' := 102) rfl rfl rfl rfl ?_
  refine ev_icmp (pc' := 113) (pc2 := 105) rfl (by decide) rfl rfl (fun hc => ?_) (fun hc => ?_)
  · replace h := h.1 (of_decide_eq_true hc)
    exact ev_pick [0, 1, 2, 3, 4, 5, 6] rfl rfl h
  · replace h := h.2 (of_decide_eq_false hc)
    refine ev_lo (lo' := [(0, .inr (.inr (some 30))), (1, .inl x1), (2, .inl x2), (3, .inl x3), (4, .inl x4), (5, .inl x5), (6, .inl x6)]) (st' := [.inl x5]) (pc' := 107) rfl rfl rfl rfl ?_
    refine ev_call (as := [.inl x5]) (r := []) (pc' := 110) rfl rfl (Nat.le_of_ble_eq_true rfl) (Nat.le_of_ble_eq_true rfl) ⟨rfl, rfl⟩ (Nat.le_of_ble_eq_true rfl) rfl rfl rfl rfl ?_
    refine ev.post h (fun v M1 h => ?_)
    obtain ⟨w1, rfl, h⟩ := h
    show ev 97 110 [(0, .inr (.inr (some 30))), (1, .inl x1), (2, .inl x2), (3, .inl x3), (4, .inl x4), (5, .inl x5), (6, .inl x6)] [.inl w1] M1 _
    refine ev_ifT (pc' := 117) (pc2 := 113) rfl (by decide) rfl rfl (fun hc => ?_) (fun hc => ?_)
    · replace h := h.1 (of_decide_eq_true hc)
      exact ev_pick [0, 1, 2, 3, 4, 5, 6] rfl rfl h
    · replace h := h.2 (of_decide_eq_false hc)
      exact ev_pick [0, 1, 2, 3, 4, 5, 6] rfl rfl h
set_option maxRecDepth 10000 in
theorem b97_113 {x1 x2 x3 x4 x5 x6 : Int} {M : ev_M} {Q : Int → ev_M → Prop}
    (h : c97_118 x1 x2 x3 x4 x5 x6 1 M Q) : c97_113 x1 x2 x3 x4 x5 x6 M Q := by
  unfold c97_113
  refine ev_pu (st' := [.inl 1]) (pc' := 114) rfl rfl rfl rfl ?_
  refine ev_br (pc' := 118) (st' := [.inl 1]) rfl rfl rfl ?_
  exact ev_pick [0, 1, 2, 3, 4, 5, 6] rfl rfl h
set_option maxRecDepth 10000 in
theorem b97_117 {x1 x2 x3 x4 x5 x6 : Int} {M : ev_M} {Q : Int → ev_M → Prop}
    (h : c97_118 x1 x2 x3 x4 x5 x6 0 M Q) : c97_117 x1 x2 x3 x4 x5 x6 M Q := by
  unfold c97_117
  refine ev_pu (st' := [.inl 0]) (pc' := 118) rfl rfl rfl rfl ?_
  exact ev_pick [0, 1, 2, 3, 4, 5, 6] rfl rfl h
set_option maxRecDepth 10000 in
theorem b97_118 {x1 x2 x3 x4 x5 x6 t0 : Int} {M : ev_M} {Q : Int → ev_M → Prop}
    (h : (¬ t0 = 0 → ((0 ≤ (sM_rules M) ∧ (sM_rules M) < 14) ∧ ((0 ≤ (sM_rules M) ∧ (sM_rules M) < 14) ∧ (tm_iI (4 * (sM_rules M)) ∧ ((0 ≤ (4 * (sM_rules M)) ∧ (4 * (sM_rules M)) < 56) ∧ (tm_iI (4 * (sM_rules M)) ∧ (tm_iI ((4 * (sM_rules M)) + 1) ∧ ((0 ≤ ((4 * (sM_rules M)) + 1) ∧ ((4 * (sM_rules M)) + 1) < 56) ∧ (tm_iI (4 * (sM_rules M)) ∧ (tm_iI ((4 * (sM_rules M)) + 2) ∧ ((0 ≤ ((4 * (sM_rules M)) + 2) ∧ ((4 * (sM_rules M)) + 2) < 56) ∧ (tm_iI (4 * (sM_rules M)) ∧ (tm_iI ((4 * (sM_rules M)) + 3) ∧ ((0 ≤ ((4 * (sM_rules M)) + 3) ∧ ((4 * (sM_rules M)) + 3) < 56) ∧ (m96 (sM_rules M) (ev_sA (ev_sA (ev_sA (ev_sA (ev_sA (ev_sA M 31 (sM_rules M).toNat x1) 32 (sM_rules M).toNat x6) 33 (4 * (sM_rules M)).toNat x2) 33 ((4 * (sM_rules M)) + 1).toNat x3) 33 ((4 * (sM_rules M)) + 2).toNat x4) 33 ((4 * (sM_rules M)) + 3).toNat x5) (fun w1 M1 => (w1 = 0 → (tm_iI ((sM_rules M1) + 1) ∧ (m91 (ev_sS M1 11 ((sM_rules M1) + 1)) (fun w2 M2 => (¬ w2 = 0 → (tm_iI ((sM_rules M2) - 1) ∧ (Q ((sM_rules M2) - 1) M2))) ∧ (¬ (¬ w2 = 0) → (tm_iI ((sM_rules M2) - 1) ∧ (m91 (ev_sS M2 11 ((sM_rules M2) - 1)) (fun w3 M3 => Q (-1) M3)))))))) ∧ (¬ (w1 = 0) → (Q (-1) M1)))))))))))))))))) ∧ (¬ (¬ t0 = 0) → (Q (-1) M))) : c97_118 x1 x2 x3 x4 x5 x6 t0 M Q := by
  unfold c97_118
  refine ev_lo (lo' := [(7, .inl t0), (0, .inr (.inr (some 30))), (1, .inl x1), (2, .inl x2), (3, .inl x3), (4, .inl x4), (5, .inl x5), (6, .inl x6)]) (st' := []) (pc' := 120) rfl rfl rfl rfl ?_
  refine ev_lo (lo' := [(7, .inl t0), (0, .inr (.inr (some 30))), (1, .inl x1), (2, .inl x2), (3, .inl x3), (4, .inl x4), (5, .inl x5), (6, .inl x6)]) (st' := [.inl t0]) (pc' := 122) rfl rfl rfl rfl ?_
  refine ev_ifT (pc' := 127) (pc2 := 125) rfl (by decide) rfl rfl (fun hc => ?_) (fun hc => ?_)
  · replace h := h.1 (of_decide_eq_true hc)
    refine ev_lo (lo' := [(7, .inl t0), (0, .inr (.inr (some 30))), (1, .inl x1), (2, .inl x2), (3, .inl x3), (4, .inl x4), (5, .inl x5), (6, .inl x6)]) (st' := [.inr (.inr (some 30))]) (pc' := 128) rfl rfl rfl rfl ?_
    refine ev_get (v := .inr (.inr (some 31))) (pc' := 131) rfl rfl rfl rfl ?_
    refine ev_lo (lo' := [(7, .inl t0), (0, .inr (.inr (some 30))), (1, .inl x1), (2, .inl x2), (3, .inl x3), (4, .inl x4), (5, .inl x5), (6, .inl x6)]) (st' := [.inr (.inr (some 30)), .inr (.inr (some 31))]) (pc' := 132) rfl rfl rfl rfl ?_
    refine ev_get (v := .inl (sM_rules M)) (pc' := 135) rfl rfl rfl rfl ?_
    refine ev_lo (lo' := [(7, .inl t0), (0, .inr (.inr (some 30))), (1, .inl x1), (2, .inl x2), (3, .inl x3), (4, .inl x4), (5, .inl x5), (6, .inl x6)]) (st' := [.inl x1, .inl (sM_rules M), .inr (.inr (some 31))]) (pc' := 136) rfl rfl rfl rfl ?_
    obtain ⟨hs0, h⟩ := h
    refine ev_iast (n := 14) (f := aM_left M) (M' := ev_sA M 31 (sM_rules M).toNat x1) (pc' := 137) rfl rfl hs0 (hp_a31 _ _ _) rfl ?_
    refine ev_lo (lo' := [(7, .inl t0), (0, .inr (.inr (some 30))), (1, .inl x1), (2, .inl x2), (3, .inl x3), (4, .inl x4), (5, .inl x5), (6, .inl x6)]) (st' := [.inr (.inr (some 30))]) (pc' := 138) rfl rfl rfl rfl ?_
    refine ev_get (v := .inr (.inr (some 32))) (pc' := 141) rfl rfl rfl rfl ?_
    refine ev_lo (lo' := [(7, .inl t0), (0, .inr (.inr (some 30))), (1, .inl x1), (2, .inl x2), (3, .inl x3), (4, .inl x4), (5, .inl x5), (6, .inl x6)]) (st' := [.inr (.inr (some 30)), .inr (.inr (some 32))]) (pc' := 142) rfl rfl rfl rfl ?_
    refine ev_get (v := .inl (sM_rules M)) (pc' := 145) rfl rfl rfl rfl ?_
    refine ev_lo (lo' := [(7, .inl t0), (0, .inr (.inr (some 30))), (1, .inl x1), (2, .inl x2), (3, .inl x3), (4, .inl x4), (5, .inl x5), (6, .inl x6)]) (st' := [.inl x6, .inl (sM_rules M), .inr (.inr (some 32))]) (pc' := 147) rfl rfl rfl rfl ?_
    obtain ⟨hs0, h⟩ := h
    refine ev_iast (n := 14) (f := aM_sizes M) (M' := ev_sA (ev_sA M 31 (sM_rules M).toNat x1) 32 (sM_rules M).toNat x6) (pc' := 148) rfl rfl hs0 (hp_a32 _ _ _) rfl ?_
    refine ev_lo (lo' := [(7, .inl t0), (0, .inr (.inr (some 30))), (1, .inl x1), (2, .inl x2), (3, .inl x3), (4, .inl x4), (5, .inl x5), (6, .inl x6)]) (st' := [.inr (.inr (some 30))]) (pc' := 149) rfl rfl rfl rfl ?_
    refine ev_get (v := .inr (.inr (some 33))) (pc' := 152) rfl rfl rfl rfl ?_
    refine ev_pu (st' := [.inl 4, .inr (.inr (some 33))]) (pc' := 153) rfl rfl rfl rfl ?_
    refine ev_lo (lo' := [(7, .inl t0), (0, .inr (.inr (some 30))), (1, .inl x1), (2, .inl x2), (3, .inl x3), (4, .inl x4), (5, .inl x5), (6, .inl x6)]) (st' := [.inr (.inr (some 30)), .inl 4, .inr (.inr (some 33))]) (pc' := 154) rfl rfl rfl rfl ?_
    refine ev_get (v := .inl (sM_rules M)) (pc' := 157) rfl rfl rfl rfl ?_
    obtain ⟨hs, h⟩ := h
    refine ev_ii (f := fun a b => a * b) (pc' := 158) rfl rfl (fun _ => rfl) (tm_mul hs) rfl ?_
    refine ev_lo (lo' := [(7, .inl t0), (0, .inr (.inr (some 30))), (1, .inl x1), (2, .inl x2), (3, .inl x3), (4, .inl x4), (5, .inl x5), (6, .inl x6)]) (st' := [.inl x2, .inl (4 * (sM_rules M)), .inr (.inr (some 33))]) (pc' := 159) rfl rfl rfl rfl ?_
    obtain ⟨hs0, h⟩ := h
    refine ev_iast (n := 56) (f := aM_right M) (M' := ev_sA (ev_sA (ev_sA M 31 (sM_rules M).toNat x1) 32 (sM_rules M).toNat x6) 33 (4 * (sM_rules M)).toNat x2) (pc' := 160) rfl rfl hs0 (hp_a33 _ _ _) rfl ?_
    refine ev_lo (lo' := [(7, .inl t0), (0, .inr (.inr (some 30))), (1, .inl x1), (2, .inl x2), (3, .inl x3), (4, .inl x4), (5, .inl x5), (6, .inl x6)]) (st' := [.inr (.inr (some 30))]) (pc' := 161) rfl rfl rfl rfl ?_
    refine ev_get (v := .inr (.inr (some 33))) (pc' := 164) rfl rfl rfl rfl ?_
    refine ev_pu (st' := [.inl 4, .inr (.inr (some 33))]) (pc' := 165) rfl rfl rfl rfl ?_
    refine ev_lo (lo' := [(7, .inl t0), (0, .inr (.inr (some 30))), (1, .inl x1), (2, .inl x2), (3, .inl x3), (4, .inl x4), (5, .inl x5), (6, .inl x6)]) (st' := [.inr (.inr (some 30)), .inl 4, .inr (.inr (some 33))]) (pc' := 166) rfl rfl rfl rfl ?_
    refine ev_get (v := .inl (sM_rules M)) (pc' := 169) rfl rfl rfl rfl ?_
    obtain ⟨hs, h⟩ := h
    refine ev_ii (f := fun a b => a * b) (pc' := 170) rfl rfl (fun _ => rfl) (tm_mul hs) rfl ?_
    refine ev_pu (st' := [.inl 1, .inl (4 * (sM_rules M)), .inr (.inr (some 33))]) (pc' := 171) rfl rfl rfl rfl ?_
    obtain ⟨hs, h⟩ := h
    refine ev_ii (f := fun a b => a + b) (pc' := 172) rfl rfl (fun _ => rfl) (tm_add hs) rfl ?_
    refine ev_lo (lo' := [(7, .inl t0), (0, .inr (.inr (some 30))), (1, .inl x1), (2, .inl x2), (3, .inl x3), (4, .inl x4), (5, .inl x5), (6, .inl x6)]) (st' := [.inl x3, .inl ((4 * (sM_rules M)) + 1), .inr (.inr (some 33))]) (pc' := 173) rfl rfl rfl rfl ?_
    obtain ⟨hs0, h⟩ := h
    refine ev_iast (n := 56) (f := (ev_sA (ev_sA (ev_sA M 31 (sM_rules M).toNat x1) 32 (sM_rules M).toNat x6) 33 (4 * (sM_rules M)).toNat x2).2 33) (M' := ev_sA (ev_sA (ev_sA (ev_sA M 31 (sM_rules M).toNat x1) 32 (sM_rules M).toNat x6) 33 (4 * (sM_rules M)).toNat x2) 33 ((4 * (sM_rules M)) + 1).toNat x3) (pc' := 174) rfl rfl hs0 (hp_a33 _ _ _) rfl ?_
    refine ev_lo (lo' := [(7, .inl t0), (0, .inr (.inr (some 30))), (1, .inl x1), (2, .inl x2), (3, .inl x3), (4, .inl x4), (5, .inl x5), (6, .inl x6)]) (st' := [.inr (.inr (some 30))]) (pc' := 175) rfl rfl rfl rfl ?_
    refine ev_get (v := .inr (.inr (some 33))) (pc' := 178) rfl rfl rfl rfl ?_
    refine ev_pu (st' := [.inl 4, .inr (.inr (some 33))]) (pc' := 179) rfl rfl rfl rfl ?_
    refine ev_lo (lo' := [(7, .inl t0), (0, .inr (.inr (some 30))), (1, .inl x1), (2, .inl x2), (3, .inl x3), (4, .inl x4), (5, .inl x5), (6, .inl x6)]) (st' := [.inr (.inr (some 30)), .inl 4, .inr (.inr (some 33))]) (pc' := 180) rfl rfl rfl rfl ?_
    refine ev_get (v := .inl (sM_rules M)) (pc' := 183) rfl rfl rfl rfl ?_
    obtain ⟨hs, h⟩ := h
    refine ev_ii (f := fun a b => a * b) (pc' := 184) rfl rfl (fun _ => rfl) (tm_mul hs) rfl ?_
    refine ev_pu (st' := [.inl 2, .inl (4 * (sM_rules M)), .inr (.inr (some 33))]) (pc' := 185) rfl rfl rfl rfl ?_
    obtain ⟨hs, h⟩ := h
    refine ev_ii (f := fun a b => a + b) (pc' := 186) rfl rfl (fun _ => rfl) (tm_add hs) rfl ?_
    refine ev_lo (lo' := [(7, .inl t0), (0, .inr (.inr (some 30))), (1, .inl x1), (2, .inl x2), (3, .inl x3), (4, .inl x4), (5, .inl x5), (6, .inl x6)]) (st' := [.inl x4, .inl ((4 * (sM_rules M)) + 2), .inr (.inr (some 33))]) (pc' := 188) rfl rfl rfl rfl ?_
    obtain ⟨hs0, h⟩ := h
    refine ev_iast (n := 56) (f := (ev_sA (ev_sA (ev_sA (ev_sA M 31 (sM_rules M).toNat x1) 32 (sM_rules M).toNat x6) 33 (4 * (sM_rules M)).toNat x2) 33 ((4 * (sM_rules M)) + 1).toNat x3).2 33) (M' := ev_sA (ev_sA (ev_sA (ev_sA (ev_sA M 31 (sM_rules M).toNat x1) 32 (sM_rules M).toNat x6) 33 (4 * (sM_rules M)).toNat x2) 33 ((4 * (sM_rules M)) + 1).toNat x3) 33 ((4 * (sM_rules M)) + 2).toNat x4) (pc' := 189) rfl rfl hs0 (hp_a33 _ _ _) rfl ?_
    refine ev_lo (lo' := [(7, .inl t0), (0, .inr (.inr (some 30))), (1, .inl x1), (2, .inl x2), (3, .inl x3), (4, .inl x4), (5, .inl x5), (6, .inl x6)]) (st' := [.inr (.inr (some 30))]) (pc' := 190) rfl rfl rfl rfl ?_
    refine ev_get (v := .inr (.inr (some 33))) (pc' := 193) rfl rfl rfl rfl ?_
    refine ev_pu (st' := [.inl 4, .inr (.inr (some 33))]) (pc' := 194) rfl rfl rfl rfl ?_
    refine ev_lo (lo' := [(7, .inl t0), (0, .inr (.inr (some 30))), (1, .inl x1), (2, .inl x2), (3, .inl x3), (4, .inl x4), (5, .inl x5), (6, .inl x6)]) (st' := [.inr (.inr (some 30)), .inl 4, .inr (.inr (some 33))]) (pc' := 195) rfl rfl rfl rfl ?_
    refine ev_get (v := .inl (sM_rules M)) (pc' := 198) rfl rfl rfl rfl ?_
    obtain ⟨hs, h⟩ := h
    refine ev_ii (f := fun a b => a * b) (pc' := 199) rfl rfl (fun _ => rfl) (tm_mul hs) rfl ?_
    refine ev_pu (st' := [.inl 3, .inl (4 * (sM_rules M)), .inr (.inr (some 33))]) (pc' := 200) rfl rfl rfl rfl ?_
    obtain ⟨hs, h⟩ := h
    refine ev_ii (f := fun a b => a + b) (pc' := 201) rfl rfl (fun _ => rfl) (tm_add hs) rfl ?_
    refine ev_lo (lo' := [(7, .inl t0), (0, .inr (.inr (some 30))), (1, .inl x1), (2, .inl x2), (3, .inl x3), (4, .inl x4), (5, .inl x5), (6, .inl x6)]) (st' := [.inl x5, .inl ((4 * (sM_rules M)) + 3), .inr (.inr (some 33))]) (pc' := 203) rfl rfl rfl rfl ?_
    obtain ⟨hs0, h⟩ := h
    refine ev_iast (n := 56) (f := (ev_sA (ev_sA (ev_sA (ev_sA (ev_sA M 31 (sM_rules M).toNat x1) 32 (sM_rules M).toNat x6) 33 (4 * (sM_rules M)).toNat x2) 33 ((4 * (sM_rules M)) + 1).toNat x3) 33 ((4 * (sM_rules M)) + 2).toNat x4).2 33) (M' := ev_sA (ev_sA (ev_sA (ev_sA (ev_sA (ev_sA M 31 (sM_rules M).toNat x1) 32 (sM_rules M).toNat x6) 33 (4 * (sM_rules M)).toNat x2) 33 ((4 * (sM_rules M)) + 1).toNat x3) 33 ((4 * (sM_rules M)) + 2).toNat x4) 33 ((4 * (sM_rules M)) + 3).toNat x5) (pc' := 204) rfl rfl hs0 (hp_a33 _ _ _) rfl ?_
    refine ev_lo (lo' := [(7, .inl t0), (0, .inr (.inr (some 30))), (1, .inl x1), (2, .inl x2), (3, .inl x3), (4, .inl x4), (5, .inl x5), (6, .inl x6)]) (st' := [.inr (.inr (some 30))]) (pc' := 205) rfl rfl rfl rfl ?_
    refine ev_lo (lo' := [(7, .inl t0), (0, .inr (.inr (some 30))), (1, .inl x1), (2, .inl x2), (3, .inl x3), (4, .inl x4), (5, .inl x5), (6, .inl x6)]) (st' := [.inr (.inr (some 30)), .inr (.inr (some 30))]) (pc' := 206) rfl rfl rfl rfl ?_
    refine ev_get (v := .inl (sM_rules M)) (pc' := 209) rfl rfl rfl rfl ?_
    refine ev_call (as := [.inr (.inr (some 30)), .inl (sM_rules M)]) (r := []) (pc' := 212) rfl rfl (Nat.le_of_ble_eq_true rfl) (Nat.le_of_ble_eq_true rfl) ⟨rfl, rfl⟩ (Nat.le_of_ble_eq_true rfl) rfl rfl rfl rfl ?_
    refine ev.post h (fun v M1 h => ?_)
    obtain ⟨w1, rfl, h⟩ := h
    show ev 97 212 [(7, .inl t0), (0, .inr (.inr (some 30))), (1, .inl x1), (2, .inl x2), (3, .inl x3), (4, .inl x4), (5, .inl x5), (6, .inl x6)] [.inl w1] M1 _
    refine ev_ifT (pc' := 217) (pc2 := 215) rfl (by decide) rfl rfl (fun hc => ?_) (fun hc => ?_)
    · replace h := h.1 (of_decide_eq_true hc)
      refine ev_lo (lo' := [(7, .inl t0), (0, .inr (.inr (some 30))), (1, .inl x1), (2, .inl x2), (3, .inl x3), (4, .inl x4), (5, .inl x5), (6, .inl x6)]) (st' := [.inr (.inr (some 30))]) (pc' := 218) rfl rfl rfl rfl ?_
      refine ev_lo (lo' := [(7, .inl t0), (0, .inr (.inr (some 30))), (1, .inl x1), (2, .inl x2), (3, .inl x3), (4, .inl x4), (5, .inl x5), (6, .inl x6)]) (st' := [.inr (.inr (some 30)), .inr (.inr (some 30))]) (pc' := 219) rfl rfl rfl rfl ?_
      refine ev_get (v := .inl (sM_rules M1)) (pc' := 222) rfl rfl rfl rfl ?_
      refine ev_pu (st' := [.inl 1, .inl (sM_rules M1), .inr (.inr (some 30))]) (pc' := 223) rfl rfl rfl rfl ?_
      obtain ⟨hs, h⟩ := h
      refine ev_ii (f := fun a b => a + b) (pc' := 224) rfl rfl (fun _ => rfl) (tm_add hs) rfl ?_
      refine ev_put (M' := ev_sS M1 11 ((sM_rules M1) + 1)) (pc' := 227) rfl rfl (Nat.le_of_ble_eq_true rfl) rfl (hp_s11 _ _) rfl ?_
      refine ev_lo (lo' := [(7, .inl t0), (0, .inr (.inr (some 30))), (1, .inl x1), (2, .inl x2), (3, .inl x3), (4, .inl x4), (5, .inl x5), (6, .inl x6)]) (st' := [.inr (.inr (some 30))]) (pc' := 228) rfl rfl rfl rfl ?_
      refine ev_call (as := [.inr (.inr (some 30))]) (r := []) (pc' := 231) rfl rfl (Nat.le_of_ble_eq_true rfl) (Nat.le_of_ble_eq_true rfl) ⟨rfl, rfl⟩ (Nat.le_of_ble_eq_true rfl) rfl rfl rfl rfl ?_
      refine ev.post h (fun v M2 h => ?_)
      obtain ⟨w2, rfl, h⟩ := h
      show ev 97 231 [(7, .inl t0), (0, .inr (.inr (some 30))), (1, .inl x1), (2, .inl x2), (3, .inl x3), (4, .inl x4), (5, .inl x5), (6, .inl x6)] [.inl w2] M2 _
      refine ev_ifT (pc' := 251) (pc2 := 234) rfl (by decide) rfl rfl (fun hc => ?_) (fun hc => ?_)
      · replace h := h.1 (of_decide_eq_true hc)
        refine ev_lo (lo' := [(7, .inl t0), (0, .inr (.inr (some 30))), (1, .inl x1), (2, .inl x2), (3, .inl x3), (4, .inl x4), (5, .inl x5), (6, .inl x6)]) (st' := [.inr (.inr (some 30))]) (pc' := 252) rfl rfl rfl rfl ?_
        refine ev_get (v := .inl (sM_rules M2)) (pc' := 255) rfl rfl rfl rfl ?_
        refine ev_pu (st' := [.inl 1, .inl (sM_rules M2)]) (pc' := 256) rfl rfl rfl rfl ?_
        obtain ⟨hs, h⟩ := h
        refine ev_ii (f := fun a b => a - b) (pc' := 257) rfl rfl (fun _ => rfl) (tm_sub' hs) rfl ?_
        exact ev_rt rfl rfl rfl ⟨_, rfl, h⟩
      · replace h := h.2 (of_decide_eq_false hc)
        refine ev_lo (lo' := [(7, .inl t0), (0, .inr (.inr (some 30))), (1, .inl x1), (2, .inl x2), (3, .inl x3), (4, .inl x4), (5, .inl x5), (6, .inl x6)]) (st' := [.inr (.inr (some 30))]) (pc' := 235) rfl rfl rfl rfl ?_
        refine ev_lo (lo' := [(7, .inl t0), (0, .inr (.inr (some 30))), (1, .inl x1), (2, .inl x2), (3, .inl x3), (4, .inl x4), (5, .inl x5), (6, .inl x6)]) (st' := [.inr (.inr (some 30)), .inr (.inr (some 30))]) (pc' := 236) rfl rfl rfl rfl ?_
        refine ev_get (v := .inl (sM_rules M2)) (pc' := 239) rfl rfl rfl rfl ?_
        refine ev_pu (st' := [.inl 1, .inl (sM_rules M2), .inr (.inr (some 30))]) (pc' := 240) rfl rfl rfl rfl ?_
        obtain ⟨hs, h⟩ := h
        refine ev_ii (f := fun a b => a - b) (pc' := 241) rfl rfl (fun _ => rfl) (tm_sub' hs) rfl ?_
        refine ev_put (M' := ev_sS M2 11 ((sM_rules M2) - 1)) (pc' := 244) rfl rfl (Nat.le_of_ble_eq_true rfl) rfl (hp_s11 _ _) rfl ?_
        refine ev_lo (lo' := [(7, .inl t0), (0, .inr (.inr (some 30))), (1, .inl x1), (2, .inl x2), (3, .inl x3), (4, .inl x4), (5, .inl x5), (6, .inl x6)]) (st' := [.inr (.inr (some 30))]) (pc' := 245) rfl rfl rfl rfl ?_
        refine ev_call (as := [.inr (.inr (some 30))]) (r := []) (pc' := 248) rfl rfl (Nat.le_of_ble_eq_true rfl) (Nat.le_of_ble_eq_true rfl) ⟨rfl, rfl⟩ (Nat.le_of_ble_eq_true rfl) rfl rfl rfl rfl ?_
        refine ev.post h (fun v M3 h => ?_)
        obtain ⟨w3, rfl, h⟩ := h
        show ev 97 248 [(7, .inl t0), (0, .inr (.inr (some 30))), (1, .inl x1), (2, .inl x2), (3, .inl x3), (4, .inl x4), (5, .inl x5), (6, .inl x6)] [.inl w3] M3 _
        refine ev_pu (st' := []) (pc' := 249) rfl rfl rfl rfl ?_
        refine ev_pu (st' := [.inl (-1)]) (pc' := 250) rfl rfl rfl rfl ?_
        exact ev_rt rfl rfl rfl ⟨_, rfl, h⟩
    · replace h := h.2 (of_decide_eq_false hc)
      refine ev_pu (st' := [.inl (-1)]) (pc' := 216) rfl rfl rfl rfl ?_
      exact ev_rt rfl rfl rfl ⟨_, rfl, h⟩
  · replace h := h.2 (of_decide_eq_false hc)
    refine ev_pu (st' := [.inl (-1)]) (pc' := 126) rfl rfl rfl rfl ?_
    exact ev_rt rfl rfl rfl ⟨_, rfl, h⟩
/-! NulledForestModel.word(I)Z -/
def m98 (x1 : Int) (M : ev_M) (Q : Int → ev_M → Prop) : Prop := ev 98 0 [(0, .inr (.inr (some 30))), (1, .inl x1)] [] M (fun v M1 => ∃ w : Int, v = some (.inl w) ∧ Q w M1)
def c98_21 (M : ev_M) (Q : Int → ev_M → Prop) : Prop := ev 98 21 [] [] M (fun v M1 => ∃ w : Int, v = some (.inl w) ∧ Q w M1)
set_option maxRecDepth 10000 in
theorem b98 {x1 : Int} {M : ev_M} {Q : Int → ev_M → Prop}
    (h : (x1 < 6 → (c98_21 M Q)) ∧ (¬ (x1 < 6) → ((9 < x1 → (c98_21 M Q)) ∧ (¬ (9 < x1) → ((¬ (sM_length M) = 10 → ((0 ≤ (sM_length M) ∧ (sM_length M) < 10) ∧ (tm_iI ((sM_length M) + 1) ∧ (Q 1 (ev_sS (ev_sS (ev_sA M 34 (sM_length M).toNat x1) 12 ((sM_length M) + 1)) 16 0))))) ∧ (¬ (¬ (sM_length M) = 10) → (c98_21 M Q))))))) : m98 x1 M Q := by
  unfold m98
  refine ev_lo (lo' := [(0, .inr (.inr (some 30))), (1, .inl x1)]) (st' := [.inl x1]) (pc' := 1) rfl rfl rfl rfl ?_
  refine ev_pu (st' := [.inl 6, .inl x1]) (pc' := 3) rfl rfl rfl rfl ?_
  refine ev_icmp (pc' := 21) (pc2 := 6) rfl (by decide) rfl rfl (fun hc => ?_) (fun hc => ?_)
  · replace h := h.1 (of_decide_eq_true hc)
    exact ev_pick [] rfl rfl h
  · replace h := h.2 (of_decide_eq_false hc)
    refine ev_lo (lo' := [(0, .inr (.inr (some 30))), (1, .inl x1)]) (st' := [.inl x1]) (pc' := 7) rfl rfl rfl rfl ?_
    refine ev_pu (st' := [.inl 9, .inl x1]) (pc' := 9) rfl rfl rfl rfl ?_
    refine ev_icmp (pc' := 21) (pc2 := 12) rfl (by decide) rfl rfl (fun hc => ?_) (fun hc => ?_)
    · replace h := h.1 (of_decide_eq_true hc)
      exact ev_pick [] rfl rfl h
    · replace h := h.2 (of_decide_eq_false hc)
      refine ev_lo (lo' := [(0, .inr (.inr (some 30))), (1, .inl x1)]) (st' := [.inr (.inr (some 30))]) (pc' := 13) rfl rfl rfl rfl ?_
      refine ev_get (v := .inl (sM_length M)) (pc' := 16) rfl rfl rfl rfl ?_
      refine ev_pu (st' := [.inl 10, .inl (sM_length M)]) (pc' := 18) rfl rfl rfl rfl ?_
      refine ev_icmp (pc' := 23) (pc2 := 21) rfl (by decide) rfl rfl (fun hc => ?_) (fun hc => ?_)
      · replace h := h.1 (of_decide_eq_true hc)
        refine ev_lo (lo' := [(0, .inr (.inr (some 30))), (1, .inl x1)]) (st' := [.inr (.inr (some 30))]) (pc' := 24) rfl rfl rfl rfl ?_
        refine ev_get (v := .inr (.inr (some 34))) (pc' := 27) rfl rfl rfl rfl ?_
        refine ev_lo (lo' := [(0, .inr (.inr (some 30))), (1, .inl x1)]) (st' := [.inr (.inr (some 30)), .inr (.inr (some 34))]) (pc' := 28) rfl rfl rfl rfl ?_
        refine ev_get (v := .inl (sM_length M)) (pc' := 31) rfl rfl rfl rfl ?_
        refine ev_lo (lo' := [(0, .inr (.inr (some 30))), (1, .inl x1)]) (st' := [.inl x1, .inl (sM_length M), .inr (.inr (some 34))]) (pc' := 32) rfl rfl rfl rfl ?_
        obtain ⟨hs0, h⟩ := h
        refine ev_iast (n := 10) (f := aM_text M) (M' := ev_sA M 34 (sM_length M).toNat x1) (pc' := 33) rfl rfl hs0 (hp_a34 _ _ _) rfl ?_
        refine ev_lo (lo' := [(0, .inr (.inr (some 30))), (1, .inl x1)]) (st' := [.inr (.inr (some 30))]) (pc' := 34) rfl rfl rfl rfl ?_
        refine ev_lo (lo' := [(0, .inr (.inr (some 30))), (1, .inl x1)]) (st' := [.inr (.inr (some 30)), .inr (.inr (some 30))]) (pc' := 35) rfl rfl rfl rfl ?_
        refine ev_get (v := .inl (sM_length M)) (pc' := 38) rfl rfl rfl rfl ?_
        refine ev_pu (st' := [.inl 1, .inl (sM_length M), .inr (.inr (some 30))]) (pc' := 39) rfl rfl rfl rfl ?_
        obtain ⟨hs, h⟩ := h
        refine ev_ii (f := fun a b => a + b) (pc' := 40) rfl rfl (fun _ => rfl) (tm_add hs) rfl ?_
        refine ev_put (M' := ev_sS (ev_sA M 34 (sM_length M).toNat x1) 12 ((sM_length M) + 1)) (pc' := 43) rfl rfl (Nat.le_of_ble_eq_true rfl) rfl (hp_s12 _ _) rfl ?_
        refine ev_lo (lo' := [(0, .inr (.inr (some 30))), (1, .inl x1)]) (st' := [.inr (.inr (some 30))]) (pc' := 44) rfl rfl rfl rfl ?_
        refine ev_pu (st' := [.inl 0, .inr (.inr (some 30))]) (pc' := 45) rfl rfl rfl rfl ?_
        refine ev_put (M' := ev_sS (ev_sS (ev_sA M 34 (sM_length M).toNat x1) 12 ((sM_length M) + 1)) 16 0) (pc' := 48) rfl rfl (Nat.le_of_ble_eq_true rfl) rfl (hp_s16 _ _) rfl ?_
        refine ev_pu (st' := [.inl 1]) (pc' := 49) rfl rfl rfl rfl ?_
        exact ev_rt rfl rfl rfl ⟨_, rfl, h⟩
      · replace h := h.2 (of_decide_eq_false hc)
        exact ev_pick [] rfl rfl h
set_option maxRecDepth 10000 in
theorem b98_21 {M : ev_M} {Q : Int → ev_M → Prop}
    (h : Q 0 M) : c98_21 M Q := by
  unfold c98_21
  refine ev_pu (st' := [.inl 0]) (pc' := 22) rfl rfl rfl rfl ?_
  exact ev_rt rfl rfl rfl ⟨_, rfl, h⟩
/-! NulledForestModel.erase()I -/
def m99 (M : ev_M) (Q : Int → ev_M → Prop) : Prop := ev 99 0 [(0, .inr (.inr (some 30)))] [] M (fun v M1 => ∃ w : Int, v = some (.inl w) ∧ Q w M1)
set_option maxRecDepth 10000 in
theorem b99 {M : ev_M} {Q : Int → ev_M → Prop}
    (h : Q (sM_length M) (ev_sS (ev_sS M 12 0) 16 0)) : m99 M Q := by
  unfold m99
  refine ev_lo (lo' := [(0, .inr (.inr (some 30)))]) (st' := [.inr (.inr (some 30))]) (pc' := 1) rfl rfl rfl rfl ?_
  refine ev_get (v := .inl (sM_length M)) (pc' := 4) rfl rfl rfl rfl ?_
  refine ev_lo (lo' := [(1, .inl (sM_length M)), (0, .inr (.inr (some 30)))]) (st' := []) (pc' := 5) rfl rfl rfl rfl ?_
  refine ev_lo (lo' := [(1, .inl (sM_length M)), (0, .inr (.inr (some 30)))]) (st' := [.inr (.inr (some 30))]) (pc' := 6) rfl rfl rfl rfl ?_
  refine ev_pu (st' := [.inl 0, .inr (.inr (some 30))]) (pc' := 7) rfl rfl rfl rfl ?_
  refine ev_put (M' := ev_sS M 12 0) (pc' := 10) rfl rfl (Nat.le_of_ble_eq_true rfl) rfl (hp_s12 _ _) rfl ?_
  refine ev_lo (lo' := [(1, .inl (sM_length M)), (0, .inr (.inr (some 30)))]) (st' := [.inr (.inr (some 30))]) (pc' := 11) rfl rfl rfl rfl ?_
  refine ev_pu (st' := [.inl 0, .inr (.inr (some 30))]) (pc' := 12) rfl rfl rfl rfl ?_
  refine ev_put (M' := ev_sS (ev_sS M 12 0) 16 0) (pc' := 15) rfl rfl (Nat.le_of_ble_eq_true rfl) rfl (hp_s16 _ _) rfl ?_
  refine ev_lo (lo' := [(1, .inl (sM_length M)), (0, .inr (.inr (some 30)))]) (st' := [.inl (sM_length M)]) (pc' := 16) rfl rfl rfl rfl ?_
  exact ev_rt rfl rfl rfl ⟨_, rfl, h⟩
/-! NulledForestModel.clear()I -/
def m100 (M : ev_M) (Q : Int → ev_M → Prop) : Prop := ev 100 0 [(0, .inr (.inr (some 30)))] [] M (fun v M1 => ∃ w : Int, v = some (.inl w) ∧ Q w M1)
set_option maxRecDepth 10000 in
theorem b100 {M : ev_M} {Q : Int → ev_M → Prop}
    (h : m91 (ev_sS (ev_sS M 11 0) 12 0) (fun w1 M1 => Q (sM_rules M) M1)) : m100 M Q := by
  unfold m100
  refine ev_lo (lo' := [(0, .inr (.inr (some 30)))]) (st' := [.inr (.inr (some 30))]) (pc' := 1) rfl rfl rfl rfl ?_
  refine ev_get (v := .inl (sM_rules M)) (pc' := 4) rfl rfl rfl rfl ?_
  refine ev_lo (lo' := [(1, .inl (sM_rules M)), (0, .inr (.inr (some 30)))]) (st' := []) (pc' := 5) rfl rfl rfl rfl ?_
  refine ev_lo (lo' := [(1, .inl (sM_rules M)), (0, .inr (.inr (some 30)))]) (st' := [.inr (.inr (some 30))]) (pc' := 6) rfl rfl rfl rfl ?_
  refine ev_pu (st' := [.inl 0, .inr (.inr (some 30))]) (pc' := 7) rfl rfl rfl rfl ?_
  refine ev_put (M' := ev_sS M 11 0) (pc' := 10) rfl rfl (Nat.le_of_ble_eq_true rfl) rfl (hp_s11 _ _) rfl ?_
  refine ev_lo (lo' := [(1, .inl (sM_rules M)), (0, .inr (.inr (some 30)))]) (st' := [.inr (.inr (some 30))]) (pc' := 11) rfl rfl rfl rfl ?_
  refine ev_pu (st' := [.inl 0, .inr (.inr (some 30))]) (pc' := 12) rfl rfl rfl rfl ?_
  refine ev_put (M' := ev_sS (ev_sS M 11 0) 12 0) (pc' := 15) rfl rfl (Nat.le_of_ble_eq_true rfl) rfl (hp_s12 _ _) rfl ?_
  refine ev_lo (lo' := [(1, .inl (sM_rules M)), (0, .inr (.inr (some 30)))]) (st' := [.inr (.inr (some 30))]) (pc' := 16) rfl rfl rfl rfl ?_
  refine ev_call (as := [.inr (.inr (some 30))]) (r := []) (pc' := 19) rfl rfl (Nat.le_of_ble_eq_true rfl) (Nat.le_of_ble_eq_true rfl) ⟨rfl, rfl⟩ (Nat.le_of_ble_eq_true rfl) rfl rfl rfl rfl ?_
  refine ev.post h (fun v M1 h => ?_)
  obtain ⟨w1, rfl, h⟩ := h
  show ev 100 19 [(1, .inl (sM_rules M)), (0, .inr (.inr (some 30)))] [.inl w1] M1 _
  refine ev_pu (st' := []) (pc' := 20) rfl rfl rfl rfl ?_
  refine ev_lo (lo' := [(1, .inl (sM_rules M)), (0, .inr (.inr (some 30)))]) (st' := [.inl (sM_rules M)]) (pc' := 21) rfl rfl rfl rfl ?_
  exact ev_rt rfl rfl rfl ⟨_, rfl, h⟩
