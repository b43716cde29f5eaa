/-! Block rules, written by wip/whole/gen3.py -/
/-! NulledForestModel.stand(III)Z -/
def m101 (x1 x2 x3 : Int) (M : ev_M) (Q : Int → ev_M → Prop) : Prop := ev 101 0 [(0, .inr (.inr (some 30))), (1, .inl x1), (2, .inl x2), (3, .inl x3)] [] M (fun v M1 => ∃ w : Int, v = some (.inl w) ∧ Q w M1)
set_option maxRecDepth 10000 in
theorem b101 {x1 x2 x3 : Int} {M : ev_M} {Q : Int → ev_M → Prop}
    (h : tm_iI (121 * x1) ∧ (tm_iI (11 * x2) ∧ (tm_iI ((121 * x1) + (11 * x2)) ∧ (tm_iI (((121 * x1) + (11 * x2)) + x3) ∧ ((0 ≤ (((121 * x1) + (11 * x2)) + x3) ∧ (((121 * x1) + (11 * x2)) + x3) < 1210) ∧ (((aM_table M (((121 * x1) + (11 * x2)) + x3).toNat) = 0 ∨ (aM_table M (((121 * x1) + (11 * x2)) + x3).toNat) = 1) ∧ Q (aM_table M (((121 * x1) + (11 * x2)) + x3).toNat) M)))))) : m101 x1 x2 x3 M Q := by
  unfold m101
  refine ev_lo (lo' := [(0, .inr (.inr (some 30))), (1, .inl x1), (2, .inl x2), (3, .inl x3)]) (st' := [.inr (.inr (some 30))]) (pc' := 1) rfl rfl rfl rfl ?_
  refine ev_get (v := .inr (.inr (some 39))) (pc' := 4) rfl rfl rfl rfl ?_
  refine ev_pu (st' := [.inl 121, .inr (.inr (some 39))]) (pc' := 6) rfl rfl rfl rfl ?_
  refine ev_lo (lo' := [(0, .inr (.inr (some 30))), (1, .inl x1), (2, .inl x2), (3, .inl x3)]) (st' := [.inl x1, .inl 121, .inr (.inr (some 39))]) (pc' := 7) rfl rfl rfl rfl ?_
  obtain ⟨hs, h⟩ := h
  refine ev_ii (f := fun a b => a * b) (pc' := 8) rfl rfl (fun _ => rfl) (tm_mul hs) rfl ?_
  refine ev_pu (st' := [.inl 11, .inl (121 * x1), .inr (.inr (some 39))]) (pc' := 10) rfl rfl rfl rfl ?_
  refine ev_lo (lo' := [(0, .inr (.inr (some 30))), (1, .inl x1), (2, .inl x2), (3, .inl x3)]) (st' := [.inl x2, .inl 11, .inl (121 * x1), .inr (.inr (some 39))]) (pc' := 11) rfl rfl rfl rfl ?_
  obtain ⟨hs, h⟩ := h
  refine ev_ii (f := fun a b => a * b) (pc' := 12) rfl rfl (fun _ => rfl) (tm_mul hs) rfl ?_
  obtain ⟨hs, h⟩ := h
  refine ev_ii (f := fun a b => a + b) (pc' := 13) rfl rfl (fun _ => rfl) (tm_add hs) rfl ?_
  refine ev_lo (lo' := [(0, .inr (.inr (some 30))), (1, .inl x1), (2, .inl x2), (3, .inl x3)]) (st' := [.inl x3, .inl ((121 * x1) + (11 * x2)), .inr (.inr (some 39))]) (pc' := 14) rfl rfl rfl rfl ?_
  obtain ⟨hs, h⟩ := h
  refine ev_ii (f := fun a b => a + b) (pc' := 15) rfl rfl (fun _ => rfl) (tm_add hs) rfl ?_
  obtain ⟨hs0, h⟩ := h
  refine ev_ald (t := 2) (n := 1210) (f := aM_table M) (w := fun x => .inl x) (pc' := 16) rfl rfl (fun _ _ => rfl) rfl hs0 rfl ?_
  obtain ⟨hs, h⟩ := h
  exact ev_rtZ rfl rfl hs ⟨_, rfl, h⟩
/-! NulledForestModel.reaches(III)Z -/
def m102 (x1 x2 x3 : Int) (M : ev_M) (Q : Int → ev_M → Prop) : Prop := ev 102 0 [(0, .inr (.inr (some 30))), (1, .inl x1), (2, .inl x2), (3, .inl x3)] [] M (fun v M1 => ∃ w : Int, v = some (.inl w) ∧ Q w M1)
def c102_8 (x1 x2 x3 x4 x5 : Int) (M : ev_M) (Q : Int → ev_M → Prop) : Prop := ev 102 8 [(0, .inr (.inr (some 30))), (1, .inl x1), (2, .inl x2), (3, .inl x3), (4, .inl x4), (5, .inl x5)] [] M (fun v M1 => ∃ w : Int, v = some (.inl w) ∧ Q w M1)
def c102_25 (x1 x2 x3 x4 x5 x6 x7 : Int) (M : ev_M) (Q : Int → ev_M → Prop) : Prop := ev 102 25 [(0, .inr (.inr (some 30))), (1, .inl x1), (2, .inl x2), (3, .inl x3), (4, .inl x4), (5, .inl x5), (6, .inl x6), (7, .inl x7)] [] M (fun v M1 => ∃ w : Int, v = some (.inl w) ∧ Q w M1)
def c102_35 (x1 x2 x3 x4 x5 x6 x7 x8 : Int) (M : ev_M) (Q : Int → ev_M → Prop) : Prop := ev 102 35 [(0, .inr (.inr (some 30))), (1, .inl x1), (2, .inl x2), (3, .inl x3), (4, .inl x4), (5, .inl x5), (6, .inl x6), (7, .inl x7), (8, .inl x8)] [] M (fun v M1 => ∃ w : Int, v = some (.inl w) ∧ Q w M1)
def c102_86 (x1 x2 x3 x4 x5 x7 x8 t0 : Int) (M : ev_M) (Q : Int → ev_M → Prop) : Prop := ev 102 86 [(0, .inr (.inr (some 30))), (1, .inl x1), (2, .inl x2), (3, .inl x3), (4, .inl x4), (5, .inl x5), (7, .inl x7), (8, .inl x8)] [.inl t0] M (fun v M1 => ∃ w : Int, v = some (.inl w) ∧ Q w M1)
def c102_94 (x1 x2 x3 x4 x5 x6 x7 : Int) (M : ev_M) (Q : Int → ev_M → Prop) : Prop := ev 102 94 [(0, .inr (.inr (some 30))), (1, .inl x1), (2, .inl x2), (3, .inl x3), (4, .inl x4), (5, .inl x5), (6, .inl x6), (7, .inl x7)] [] M (fun v M1 => ∃ w : Int, v = some (.inl w) ∧ Q w M1)
def c102_125 (t0 : Int) (M : ev_M) (Q : Int → ev_M → Prop) : Prop := ev 102 125 [] [.inl t0] M (fun v M1 => ∃ w : Int, v = some (.inl w) ∧ Q w M1)
set_option maxRecDepth 10000 in
theorem b102 {x1 x2 x3 : Int} {M : ev_M} {Q : Int → ev_M → Prop}
    (h : (0 ≤ x2 ∧ x2 < 32) ∧ (1 : Int) * 2 ^ (x2).toNat < 2147483648 ∧ (c102_8 x1 x2 x3 (tm_sl 1 x2) 0 M Q)) : m102 x1 x2 x3 M Q := by
  unfold m102
  refine ev_pu (st' := [.inl 1]) (pc' := 1) rfl rfl rfl rfl ?_
  refine ev_lo (lo' := [(0, .inr (.inr (some 30))), (1, .inl x1), (2, .inl x2), (3, .inl x3)]) (st' := [.inl x2, .inl 1]) (pc' := 2) rfl rfl rfl rfl ?_
  obtain ⟨hs1, hs2, h⟩ := h
  refine ev_ii (f := fun a b => a <<< (b &&& 31)) (pc' := 3) rfl rfl (fun _ => rfl) (tm_sl_eq (by decide) hs1 hs2) rfl ?_
  refine ev_lo (lo' := [(4, .inl (tm_sl 1 x2)), (0, .inr (.inr (some 30))), (1, .inl x1), (2, .inl x2), (3, .inl x3)]) (st' := []) (pc' := 5) rfl rfl rfl rfl ?_
  refine ev_pu (st' := [.inl 0]) (pc' := 6) rfl rfl rfl rfl ?_
  refine ev_lo (lo' := [(5, .inl 0), (4, .inl (tm_sl 1 x2)), (0, .inr (.inr (some 30))), (1, .inl x1), (2, .inl x2), (3, .inl x3)]) (st' := []) (pc' := 8) rfl rfl rfl rfl ?_
  exact ev_pick [0, 1, 2, 3, 4, 5] rfl rfl h
set_option maxRecDepth 10000 in
theorem b102_8 {x1 x2 x3 x4 x5 : Int} {M : ev_M} {Q : Int → ev_M → Prop}
    (h : (0 ≤ x1 ∧ x1 < 14) ∧ (((aM_sizes M (x1).toNat) ≤ x5 → ((0 ≤ x4 ∧ x4 < 2147483648) ∧ (0 ≤ x3 ∧ x3 < 32) ∧ ((0 ≤ (tm_sr x4 x3) ∧ (tm_sr x4 x3) < 2147483648) ∧ ((¬ (tm_an (tm_sr x4 x3) 1) = 1 → (c102_125 0 M Q)) ∧ (¬ (¬ (tm_an (tm_sr x4 x3) 1) = 1) → (c102_125 1 M Q)))))) ∧ (¬ ((aM_sizes M (x1).toNat) ≤ x5) → (c102_25 x1 x2 x3 x4 x5 0 x2 M Q)))) : c102_8 x1 x2 x3 x4 x5 M Q := by
  unfold c102_8
  refine ev_lo (lo' := [(0, .inr (.inr (some 30))), (1, .inl x1), (2, .inl x2), (3, .inl x3), (4, .inl x4), (5, .inl x5)]) (st' := [.inl x5]) (pc' := 10) rfl rfl rfl rfl ?_
  refine ev_lo (lo' := [(0, .inr (.inr (some 30))), (1, .inl x1), (2, .inl x2), (3, .inl x3), (4, .inl x4), (5, .inl x5)]) (st' := [.inr (.inr (some 30)), .inl x5]) (pc' := 11) rfl rfl rfl rfl ?_
  refine ev_get (v := .inr (.inr (some 32))) (pc' := 14) rfl rfl rfl rfl ?_
  refine ev_lo (lo' := [(0, .inr (.inr (some 30))), (1, .inl x1), (2, .inl x2), (3, .inl x3), (4, .inl x4), (5, .inl x5)]) (st' := [.inl x1, .inr (.inr (some 32)), .inl x5]) (pc' := 15) rfl rfl rfl rfl ?_
  obtain ⟨hs0, h⟩ := h
  refine ev_ald (t := 0) (n := 14) (f := aM_sizes M) (w := fun x => .inl x) (pc' := 16) rfl rfl (fun _ _ => rfl) rfl hs0 rfl ?_
  refine ev_icmp (pc' := 110) (pc2 := 19) rfl (by decide) rfl rfl (fun hc => ?_) (fun hc => ?_)
  · replace h := h.1 (of_decide_eq_true hc)
    refine ev_lo (lo' := [(0, .inr (.inr (some 30))), (1, .inl x1), (2, .inl x2), (3, .inl x3), (4, .inl x4), (5, .inl x5)]) (st' := [.inl x4]) (pc' := 112) rfl rfl rfl rfl ?_
    refine ev_lo (lo' := [(0, .inr (.inr (some 30))), (1, .inl x1), (2, .inl x2), (3, .inl x3), (4, .inl x4), (5, .inl x5)]) (st' := [.inl x3, .inl x4]) (pc' := 113) rfl rfl rfl rfl ?_
    obtain ⟨hs0, hs1, h⟩ := h
    refine ev_ii (f := fun a b => a >>> (b &&& 31)) (pc' := 114) rfl rfl (fun _ => rfl) (tm_sr_eq hs0 hs1) rfl ?_
    refine ev_pu (st' := [.inl 1, .inl (tm_sr x4 x3)]) (pc' := 115) rfl rfl rfl rfl ?_
    obtain ⟨hs0, h⟩ := h
    refine ev_ii (f := fun a b => a &&& b) (pc' := 116) rfl rfl (fun _ => rfl) (tm_an_eq hs0 (by decide)) rfl ?_
    refine ev_pu (st' := [.inl 1, .inl (tm_an (tm_sr x4 x3) 1)]) (pc' := 117) rfl rfl rfl rfl ?_
    refine ev_icmp (pc' := 124) (pc2 := 120) rfl (by decide) rfl rfl (fun hc => ?_) (fun hc => ?_)
    · replace h := h.1 (of_decide_eq_true hc)
      refine ev_pu (st' := [.inl 0]) (pc' := 125) rfl rfl rfl rfl ?_
      exact ev_pick [] rfl rfl h
    · replace h := h.2 (of_decide_eq_false hc)
      refine ev_pu (st' := [.inl 1]) (pc' := 121) rfl rfl rfl rfl ?_
      refine ev_br (pc' := 125) (st' := [.inl 1]) rfl rfl rfl ?_
      exact ev_pick [] rfl rfl h
  · replace h := h.2 (of_decide_eq_false hc)
    refine ev_pu (st' := [.inl 0]) (pc' := 20) rfl rfl rfl rfl ?_
    refine ev_lo (lo' := [(6, .inl 0), (0, .inr (.inr (some 30))), (1, .inl x1), (2, .inl x2), (3, .inl x3), (4, .inl x4), (5, .inl x5)]) (st' := []) (pc' := 22) rfl rfl rfl rfl ?_
    refine ev_lo (lo' := [(6, .inl 0), (0, .inr (.inr (some 30))), (1, .inl x1), (2, .inl x2), (3, .inl x3), (4, .inl x4), (5, .inl x5)]) (st' := [.inl x2]) (pc' := 23) rfl rfl rfl rfl ?_
    refine ev_lo (lo' := [(7, .inl x2), (6, .inl 0), (0, .inr (.inr (some 30))), (1, .inl x1), (2, .inl x2), (3, .inl x3), (4, .inl x4), (5, .inl x5)]) (st' := []) (pc' := 25) rfl rfl rfl rfl ?_
    exact ev_pick [0, 1, 2, 3, 4, 5, 6, 7] rfl rfl h
set_option maxRecDepth 10000 in
theorem b102_25 {x1 x2 x3 x4 x5 x6 x7 : Int} {M : ev_M} {Q : Int → ev_M → Prop}
    (h : (x3 < x7 → (tm_iI (x5 + 1) ∧ (c102_8 x1 x2 x3 x6 (x5 + 1) M Q))) ∧ (¬ (x3 < x7) → (c102_35 x1 x2 x3 x4 x5 x6 x7 x7 M Q))) : c102_25 x1 x2 x3 x4 x5 x6 x7 M Q := by
  unfold c102_25
  refine ev_lo (lo' := [(0, .inr (.inr (some 30))), (1, .inl x1), (2, .inl x2), (3, .inl x3), (4, .inl x4), (5, .inl x5), (6, .inl x6), (7, .inl x7)]) (st' := [.inl x7]) (pc' := 27) rfl rfl rfl rfl ?_
  refine ev_lo (lo' := [(0, .inr (.inr (some 30))), (1, .inl x1), (2, .inl x2), (3, .inl x3), (4, .inl x4), (5, .inl x5), (6, .inl x6), (7, .inl x7)]) (st' := [.inl x3, .inl x7]) (pc' := 28) rfl rfl rfl rfl ?_
  refine ev_icmp (pc' := 100) (pc2 := 31) rfl (by decide) rfl rfl (fun hc => ?_) (fun hc => ?_)
  · replace h := h.1 (of_decide_eq_true hc)
    refine ev_lo (lo' := [(0, .inr (.inr (some 30))), (1, .inl x1), (2, .inl x2), (3, .inl x3), (4, .inl x4), (5, .inl x5), (6, .inl x6), (7, .inl x7)]) (st' := [.inl x6]) (pc' := 102) rfl rfl rfl rfl ?_
    refine ev_lo (lo' := [(4, .inl x6), (0, .inr (.inr (some 30))), (1, .inl x1), (2, .inl x2), (3, .inl x3), (5, .inl x5), (6, .inl x6), (7, .inl x7)]) (st' := []) (pc' := 104) rfl rfl rfl rfl ?_
    obtain ⟨hs, h⟩ := h
    refine ev_iinc (lo' := [(5, .inl (x5 + 1)), (4, .inl x6), (0, .inr (.inr (some 30))), (1, .inl x1), (2, .inl x2), (3, .inl x3), (6, .inl x6), (7, .inl x7)]) (pc' := 107) rfl rfl (by decide) (tm_add hs) rfl rfl ?_
    refine ev_br (pc' := 8) (st' := []) rfl rfl rfl ?_
    exact ev_pick [0, 1, 2, 3, 4, 5] rfl rfl h
  · replace h := h.2 (of_decide_eq_false hc)
    refine ev_lo (lo' := [(0, .inr (.inr (some 30))), (1, .inl x1), (2, .inl x2), (3, .inl x3), (4, .inl x4), (5, .inl x5), (6, .inl x6), (7, .inl x7)]) (st' := [.inl x7]) (pc' := 33) rfl rfl rfl rfl ?_
    refine ev_lo (lo' := [(8, .inl x7), (0, .inr (.inr (some 30))), (1, .inl x1), (2, .inl x2), (3, .inl x3), (4, .inl x4), (5, .inl x5), (6, .inl x6), (7, .inl x7)]) (st' := []) (pc' := 35) rfl rfl rfl rfl ?_
    exact ev_pick [0, 1, 2, 3, 4, 5, 6, 7, 8] rfl rfl h
set_option maxRecDepth 10000 in
theorem b102_35 {x1 x2 x3 x4 x5 x6 x7 x8 : Int} {M : ev_M} {Q : Int → ev_M → Prop}
    (h : (x3 < x8 → (c102_94 x1 x2 x3 x4 x5 x6 x7 M Q)) ∧ (¬ (x3 < x8) → ((0 ≤ x4 ∧ x4 < 2147483648) ∧ (0 ≤ x7 ∧ x7 < 32) ∧ ((0 ≤ (tm_sr x4 x7) ∧ (tm_sr x4 x7) < 2147483648) ∧ ((¬ (tm_an (tm_sr x4 x7) 1) = 1 → (c102_94 x1 x2 x3 x4 x5 x6 x7 M Q)) ∧ (¬ (¬ (tm_an (tm_sr x4 x7) 1) = 1) → (tm_iI (4 * x1) ∧ (tm_iI ((4 * x1) + x5) ∧ ((0 ≤ ((4 * x1) + x5) ∧ ((4 * x1) + x5) < 56) ∧ (m101 (aM_right M ((4 * x1) + x5).toNat) x7 x8 M (fun w1 M1 => (w1 = 0 → (c102_86 x1 x2 x3 x4 x5 x7 x8 x6 M1 Q)) ∧ (¬ (w1 = 0) → ((0 ≤ x8 ∧ x8 < 32) ∧ (1 : Int) * 2 ^ (x8).toNat < 2147483648 ∧ ((0 ≤ x6 ∧ x6 < 2147483648) ∧ (0 ≤ (tm_sl 1 x8) ∧ (tm_sl 1 x8) < 2147483648) ∧ (c102_86 x1 x2 x3 x4 x5 x7 x8 (tm_or x6 (tm_sl 1 x8)) M1 Q))))))))))))))) : c102_35 x1 x2 x3 x4 x5 x6 x7 x8 M Q := by
  unfold c102_35
  refine ev_lo (lo' := [(0, .inr (.inr (some 30))), (1, .inl x1), (2, .inl x2), (3, .inl x3), (4, .inl x4), (5, .inl x5), (6, .inl x6), (7, .inl x7), (8, .inl x8)]) (st' := [.inl x8]) (pc' := 37) rfl rfl rfl rfl ?_
  refine ev_lo (lo' := [(0, .inr (.inr (some 30))), (1, .inl x1), (2, .inl x2), (3, .inl x3), (4, .inl x4), (5, .inl x5), (6, .inl x6), (7, .inl x7), (8, .inl x8)]) (st' := [.inl x3, .inl x8]) (pc' := 38) rfl rfl rfl rfl ?_
  refine ev_icmp (pc' := 94) (pc2 := 41) rfl (by decide) rfl rfl (fun hc => ?_) (fun hc => ?_)
  · replace h := h.1 (of_decide_eq_true hc)
    exact ev_pick [0, 1, 2, 3, 4, 5, 6, 7] rfl rfl h
  · replace h := h.2 (of_decide_eq_false hc)
    refine ev_lo (lo' := [(0, .inr (.inr (some 30))), (1, .inl x1), (2, .inl x2), (3, .inl x3), (4, .inl x4), (5, .inl x5), (6, .inl x6), (7, .inl x7), (8, .inl x8)]) (st' := [.inl x4]) (pc' := 43) rfl rfl rfl rfl ?_
    refine ev_lo (lo' := [(0, .inr (.inr (some 30))), (1, .inl x1), (2, .inl x2), (3, .inl x3), (4, .inl x4), (5, .inl x5), (6, .inl x6), (7, .inl x7), (8, .inl x8)]) (st' := [.inl x7, .inl x4]) (pc' := 45) rfl rfl rfl rfl ?_
    obtain ⟨hs0, hs1, h⟩ := h
    refine ev_ii (f := fun a b => a >>> (b &&& 31)) (pc' := 46) rfl rfl (fun _ => rfl) (tm_sr_eq hs0 hs1) rfl ?_
    refine ev_pu (st' := [.inl 1, .inl (tm_sr x4 x7)]) (pc' := 47) rfl rfl rfl rfl ?_
    obtain ⟨hs0, h⟩ := h
    refine ev_ii (f := fun a b => a &&& b) (pc' := 48) rfl rfl (fun _ => rfl) (tm_an_eq hs0 (by decide)) rfl ?_
    refine ev_pu (st' := [.inl 1, .inl (tm_an (tm_sr x4 x7) 1)]) (pc' := 49) rfl rfl rfl rfl ?_
    refine ev_icmp (pc' := 94) (pc2 := 52) rfl (by decide) rfl rfl (fun hc => ?_) (fun hc => ?_)
    · replace h := h.1 (of_decide_eq_true hc)
      exact ev_pick [0, 1, 2, 3, 4, 5, 6, 7] rfl rfl h
    · replace h := h.2 (of_decide_eq_false hc)
      refine ev_lo (lo' := [(0, .inr (.inr (some 30))), (1, .inl x1), (2, .inl x2), (3, .inl x3), (4, .inl x4), (5, .inl x5), (6, .inl x6), (7, .inl x7), (8, .inl x8)]) (st' := [.inr (.inr (some 30))]) (pc' := 53) rfl rfl rfl rfl ?_
      refine ev_lo (lo' := [(0, .inr (.inr (some 30))), (1, .inl x1), (2, .inl x2), (3, .inl x3), (4, .inl x4), (5, .inl x5), (6, .inl x6), (7, .inl x7), (8, .inl x8)]) (st' := [.inr (.inr (some 30)), .inr (.inr (some 30))]) (pc' := 54) rfl rfl rfl rfl ?_
      refine ev_get (v := .inr (.inr (some 33))) (pc' := 57) rfl rfl rfl rfl ?_
      refine ev_pu (st' := [.inl 4, .inr (.inr (some 33)), .inr (.inr (some 30))]) (pc' := 58) rfl rfl rfl rfl ?_
      refine ev_lo (lo' := [(0, .inr (.inr (some 30))), (1, .inl x1), (2, .inl x2), (3, .inl x3), (4, .inl x4), (5, .inl x5), (6, .inl x6), (7, .inl x7), (8, .inl x8)]) (st' := [.inl x1, .inl 4, .inr (.inr (some 33)), .inr (.inr (some 30))]) (pc' := 59) rfl rfl rfl rfl ?_
      obtain ⟨hs, h⟩ := h
      refine ev_ii (f := fun a b => a * b) (pc' := 60) rfl rfl (fun _ => rfl) (tm_mul hs) rfl ?_
      refine ev_lo (lo' := [(0, .inr (.inr (some 30))), (1, .inl x1), (2, .inl x2), (3, .inl x3), (4, .inl x4), (5, .inl x5), (6, .inl x6), (7, .inl x7), (8, .inl x8)]) (st' := [.inl x5, .inl (4 * x1), .inr (.inr (some 33)), .inr (.inr (some 30))]) (pc' := 62) rfl rfl rfl rfl ?_
      obtain ⟨hs, h⟩ := h
      refine ev_ii (f := fun a b => a + b) (pc' := 63) rfl rfl (fun _ => rfl) (tm_add hs) rfl ?_
      obtain ⟨hs0, h⟩ := h
      refine ev_ald (t := 0) (n := 56) (f := aM_right M) (w := fun x => .inl x) (pc' := 64) rfl rfl (fun _ _ => rfl) rfl hs0 rfl ?_
      refine ev_lo (lo' := [(0, .inr (.inr (some 30))), (1, .inl x1), (2, .inl x2), (3, .inl x3), (4, .inl x4), (5, .inl x5), (6, .inl x6), (7, .inl x7), (8, .inl x8)]) (st' := [.inl x7, .inl (aM_right M ((4 * x1) + x5).toNat), .inr (.inr (some 30))]) (pc' := 66) rfl rfl rfl rfl ?_
      refine ev_lo (lo' := [(0, .inr (.inr (some 30))), (1, .inl x1), (2, .inl x2), (3, .inl x3), (4, .inl x4), (5, .inl x5), (6, .inl x6), (7, .inl x7), (8, .inl x8)]) (st' := [.inl x8, .inl x7, .inl (aM_right M ((4 * x1) + x5).toNat), .inr (.inr (some 30))]) (pc' := 68) rfl rfl rfl rfl ?_
      refine ev_call (as := [.inr (.inr (some 30)), .inl (aM_right M ((4 * x1) + x5).toNat), .inl x7, .inl x8]) (r := []) (pc' := 71) rfl rfl (Nat.le_of_ble_eq_true rfl) (Nat.le_of_ble_eq_true rfl) ⟨rfl, rfl⟩ (Nat.le_of_ble_eq_true rfl) rfl rfl rfl rfl ?_
      refine ev.post h (fun v M1 h => ?_)
      obtain ⟨w1, rfl, h⟩ := h
      show ev 102 71 [(0, .inr (.inr (some 30))), (1, .inl x1), (2, .inl x2), (3, .inl x3), (4, .inl x4), (5, .inl x5), (6, .inl x6), (7, .inl x7), (8, .inl x8)] [.inl w1] M1 _
      refine ev_ifT (pc' := 84) (pc2 := 74) rfl (by decide) rfl rfl (fun hc => ?_) (fun hc => ?_)
      · replace h := h.1 (of_decide_eq_true hc)
        refine ev_lo (lo' := [(0, .inr (.inr (some 30))), (1, .inl x1), (2, .inl x2), (3, .inl x3), (4, .inl x4), (5, .inl x5), (6, .inl x6), (7, .inl x7), (8, .inl x8)]) (st' := [.inl x6]) (pc' := 86) rfl rfl rfl rfl ?_
        exact ev_pick [0, 1, 2, 3, 4, 5, 7, 8] rfl rfl h
      · replace h := h.2 (of_decide_eq_false hc)
        refine ev_lo (lo' := [(0, .inr (.inr (some 30))), (1, .inl x1), (2, .inl x2), (3, .inl x3), (4, .inl x4), (5, .inl x5), (6, .inl x6), (7, .inl x7), (8, .inl x8)]) (st' := [.inl x6]) (pc' := 76) rfl rfl rfl rfl ?_
        refine ev_pu (st' := [.inl 1, .inl x6]) (pc' := 77) rfl rfl rfl rfl ?_
        refine ev_lo (lo' := [(0, .inr (.inr (some 30))), (1, .inl x1), (2, .inl x2), (3, .inl x3), (4, .inl x4), (5, .inl x5), (6, .inl x6), (7, .inl x7), (8, .inl x8)]) (st' := [.inl x8, .inl 1, .inl x6]) (pc' := 79) rfl rfl rfl rfl ?_
        obtain ⟨hs1, hs2, h⟩ := h
        refine ev_ii (f := fun a b => a <<< (b &&& 31)) (pc' := 80) rfl rfl (fun _ => rfl) (tm_sl_eq (by decide) hs1 hs2) rfl ?_
        obtain ⟨hs0, hs1, h⟩ := h
        refine ev_ii (f := fun a b => a ||| b) (pc' := 81) rfl rfl (fun _ => rfl) (tm_or_eq hs0 hs1) rfl ?_
        refine ev_br (pc' := 86) (st' := [.inl (tm_or x6 (tm_sl 1 x8))]) rfl rfl rfl ?_
        exact ev_pick [0, 1, 2, 3, 4, 5, 7, 8] rfl rfl h
set_option maxRecDepth 10000 in
theorem b102_86 {x1 x2 x3 x4 x5 x7 x8 t0 : Int} {M : ev_M} {Q : Int → ev_M → Prop}
    (h : tm_iI (x8 + 1) ∧ (c102_35 x1 x2 x3 x4 x5 t0 x7 (x8 + 1) M Q)) : c102_86 x1 x2 x3 x4 x5 x7 x8 t0 M Q := by
  unfold c102_86
  refine ev_lo (lo' := [(6, .inl t0), (0, .inr (.inr (some 30))), (1, .inl x1), (2, .inl x2), (3, .inl x3), (4, .inl x4), (5, .inl x5), (7, .inl x7), (8, .inl x8)]) (st' := []) (pc' := 88) rfl rfl rfl rfl ?_
  obtain ⟨hs, h⟩ := h
  refine ev_iinc (lo' := [(8, .inl (x8 + 1)), (6, .inl t0), (0, .inr (.inr (some 30))), (1, .inl x1), (2, .inl x2), (3, .inl x3), (4, .inl x4), (5, .inl x5), (7, .inl x7)]) (pc' := 91) rfl rfl (by decide) (tm_add hs) rfl rfl ?_
  refine ev_br (pc' := 35) (st' := []) rfl rfl rfl ?_
  exact ev_pick [0, 1, 2, 3, 4, 5, 6, 7, 8] rfl rfl h
set_option maxRecDepth 10000 in
theorem b102_94 {x1 x2 x3 x4 x5 x6 x7 : Int} {M : ev_M} {Q : Int → ev_M → Prop}
    (h : tm_iI (x7 + 1) ∧ (c102_25 x1 x2 x3 x4 x5 x6 (x7 + 1) M Q)) : c102_94 x1 x2 x3 x4 x5 x6 x7 M Q := by
  unfold c102_94
  obtain ⟨hs, h⟩ := h
  refine ev_iinc (lo' := [(7, .inl (x7 + 1)), (0, .inr (.inr (some 30))), (1, .inl x1), (2, .inl x2), (3, .inl x3), (4, .inl x4), (5, .inl x5), (6, .inl x6)]) (pc' := 97) rfl rfl (by decide) (tm_add hs) rfl rfl ?_
  refine ev_br (pc' := 25) (st' := []) rfl rfl rfl ?_
  exact ev_pick [0, 1, 2, 3, 4, 5, 6, 7] rfl rfl h
set_option maxRecDepth 10000 in
theorem b102_125 {t0 : Int} {M : ev_M} {Q : Int → ev_M → Prop}
    (h : (t0 = 0 ∨ t0 = 1) ∧ Q t0 M) : c102_125 t0 M Q := by
  unfold c102_125
  obtain ⟨hs, h⟩ := h
  exact ev_rtZ rfl rfl hs ⟨_, rfl, h⟩
/-! NulledForestModel.findParts()V -/
def m103 (M : ev_M) (Q : ev_M → Prop) : Prop := ev 103 0 [(0, .inr (.inr (some 30)))] [] M (fun v M1 => v = none ∧ Q M1)
def c103_2 (x1 : Int) (M : ev_M) (Q : ev_M → Prop) : Prop := ev 103 2 [(0, .inr (.inr (some 30))), (1, .inl x1)] [] M (fun v M1 => v = none ∧ Q M1)
def c103_24 (x1 : Int) (M : ev_M) (Q : ev_M → Prop) : Prop := ev 103 24 [(0, .inr (.inr (some 30))), (1, .inl x1)] [] M (fun v M1 => v = none ∧ Q M1)
def c103_64 (x1 : Int) (M : ev_M) (Q : ev_M → Prop) : Prop := ev 103 64 [(0, .inr (.inr (some 30))), (1, .inl x1)] [] M (fun v M1 => v = none ∧ Q M1)
def c103_72 (x1 x2 : Int) (M : ev_M) (Q : ev_M → Prop) : Prop := ev 103 72 [(0, .inr (.inr (some 30))), (1, .inl x1), (2, .inl x2)] [] M (fun v M1 => v = none ∧ Q M1)
def c103_82 (x1 x2 x3 : Int) (M : ev_M) (Q : ev_M → Prop) : Prop := ev 103 82 [(0, .inr (.inr (some 30))), (1, .inl x1), (2, .inl x2), (3, .inl x3)] [] M (fun v M1 => v = none ∧ Q M1)
def c103_93 (x1 x2 x3 x4 : Int) (M : ev_M) (Q : ev_M → Prop) : Prop := ev 103 93 [(0, .inr (.inr (some 30))), (1, .inl x1), (2, .inl x2), (3, .inl x3), (4, .inl x4)] [] M (fun v M1 => v = none ∧ Q M1)
def c103_154 (x1 x2 x3 x4 : Int) (M : ev_M) (Q : ev_M → Prop) : Prop := ev 103 154 [(0, .inr (.inr (some 30))), (1, .inl x1), (2, .inl x2), (3, .inl x3), (4, .inl x4)] [] M (fun v M1 => v = none ∧ Q M1)
set_option maxRecDepth 10000 in
theorem b103 {M : ev_M} {Q : ev_M → Prop}
    (h : c103_2 0 M Q) : m103 M Q := by
  unfold m103
  refine ev_pu (st' := [.inl 0]) (pc' := 1) rfl rfl rfl rfl ?_
  refine ev_lo (lo' := [(1, .inl 0), (0, .inr (.inr (some 30)))]) (st' := []) (pc' := 2) rfl rfl rfl rfl ?_
  exact ev_pick [0, 1] rfl rfl h
set_option maxRecDepth 10000 in
theorem b103_2 {x1 : Int} {M : ev_M} {Q : ev_M → Prop}
    (h : (1210 ≤ x1 → (c103_24 0 M Q)) ∧ (¬ (1210 ≤ x1) → ((0 ≤ x1 ∧ x1 < 1210) ∧ (tm_iI (x1 + 1) ∧ (c103_2 (x1 + 1) (ev_sA M 39 (x1).toNat 0) Q))))) : c103_2 x1 M Q := by
  unfold c103_2
  refine ev_lo (lo' := [(0, .inr (.inr (some 30))), (1, .inl x1)]) (st' := [.inl x1]) (pc' := 3) rfl rfl rfl rfl ?_
  refine ev_pu (st' := [.inl 1210, .inl x1]) (pc' := 6) rfl rfl rfl rfl ?_
  refine ev_icmp (pc' := 22) (pc2 := 9) rfl (by decide) rfl rfl (fun hc => ?_) (fun hc => ?_)
  · replace h := h.1 (of_decide_eq_true hc)
    refine ev_pu (st' := [.inl 0]) (pc' := 23) rfl rfl rfl rfl ?_
    refine ev_lo (lo' := [(1, .inl 0), (0, .inr (.inr (some 30)))]) (st' := []) (pc' := 24) rfl rfl rfl rfl ?_
    exact ev_pick [0, 1] rfl rfl h
  · replace h := h.2 (of_decide_eq_false hc)
    refine ev_lo (lo' := [(0, .inr (.inr (some 30))), (1, .inl x1)]) (st' := [.inr (.inr (some 30))]) (pc' := 10) rfl rfl rfl rfl ?_
    refine ev_get (v := .inr (.inr (some 39))) (pc' := 13) rfl rfl rfl rfl ?_
    refine ev_lo (lo' := [(0, .inr (.inr (some 30))), (1, .inl x1)]) (st' := [.inl x1, .inr (.inr (some 39))]) (pc' := 14) rfl rfl rfl rfl ?_
    refine ev_pu (st' := [.inl 0, .inl x1, .inr (.inr (some 39))]) (pc' := 15) rfl rfl rfl rfl ?_
    obtain ⟨hs0, h⟩ := h
    refine ev_bast (n := 1210) (f := aM_table M) (M' := ev_sA M 39 (x1).toNat 0) (pc' := 16) rfl rfl hs0 (by decide) (hp_a39 _ _ _) rfl ?_
    obtain ⟨hs, h⟩ := h
    refine ev_iinc (lo' := [(1, .inl (x1 + 1)), (0, .inr (.inr (some 30)))]) (pc' := 19) rfl rfl (by decide) (tm_add hs) rfl rfl ?_
    refine ev_br (pc' := 2) (st' := []) rfl rfl rfl ?_
    exact ev_pick [0, 1] rfl rfl h
set_option maxRecDepth 10000 in
theorem b103_24 {x1 : Int} {M : ev_M} {Q : ev_M → Prop}
    (h : ((sM_length M) ≤ x1 → (c103_64 1 M Q)) ∧ (¬ ((sM_length M) ≤ x1) → ((0 ≤ x1 ∧ x1 < 10) ∧ (tm_iI (121 * (aM_text M (x1).toNat)) ∧ (tm_iI (11 * x1) ∧ (tm_iI ((121 * (aM_text M (x1).toNat)) + (11 * x1)) ∧ (tm_iI (((121 * (aM_text M (x1).toNat)) + (11 * x1)) + x1) ∧ (tm_iI ((((121 * (aM_text M (x1).toNat)) + (11 * x1)) + x1) + 1) ∧ ((0 ≤ ((((121 * (aM_text M (x1).toNat)) + (11 * x1)) + x1) + 1) ∧ ((((121 * (aM_text M (x1).toNat)) + (11 * x1)) + x1) + 1) < 1210) ∧ (tm_iI (x1 + 1) ∧ (c103_24 (x1 + 1) (ev_sA M 39 ((((121 * (aM_text M (x1).toNat)) + (11 * x1)) + x1) + 1).toNat 1) Q))))))))))) : c103_24 x1 M Q := by
  unfold c103_24
  refine ev_lo (lo' := [(0, .inr (.inr (some 30))), (1, .inl x1)]) (st' := [.inl x1]) (pc' := 25) rfl rfl rfl rfl ?_
  refine ev_lo (lo' := [(0, .inr (.inr (some 30))), (1, .inl x1)]) (st' := [.inr (.inr (some 30)), .inl x1]) (pc' := 26) rfl rfl rfl rfl ?_
  refine ev_get (v := .inl (sM_length M)) (pc' := 29) rfl rfl rfl rfl ?_
  refine ev_icmp (pc' := 62) (pc2 := 32) rfl (by decide) rfl rfl (fun hc => ?_) (fun hc => ?_)
  · replace h := h.1 (of_decide_eq_true hc)
    refine ev_pu (st' := [.inl 1]) (pc' := 63) rfl rfl rfl rfl ?_
    refine ev_lo (lo' := [(1, .inl 1), (0, .inr (.inr (some 30)))]) (st' := []) (pc' := 64) rfl rfl rfl rfl ?_
    exact ev_pick [0, 1] rfl rfl h
  · replace h := h.2 (of_decide_eq_false hc)
    refine ev_lo (lo' := [(0, .inr (.inr (some 30))), (1, .inl x1)]) (st' := [.inr (.inr (some 30))]) (pc' := 33) rfl rfl rfl rfl ?_
    refine ev_get (v := .inr (.inr (some 39))) (pc' := 36) rfl rfl rfl rfl ?_
    refine ev_pu (st' := [.inl 121, .inr (.inr (some 39))]) (pc' := 38) rfl rfl rfl rfl ?_
    refine ev_lo (lo' := [(0, .inr (.inr (some 30))), (1, .inl x1)]) (st' := [.inr (.inr (some 30)), .inl 121, .inr (.inr (some 39))]) (pc' := 39) rfl rfl rfl rfl ?_
    refine ev_get (v := .inr (.inr (some 34))) (pc' := 42) rfl rfl rfl rfl ?_
    refine ev_lo (lo' := [(0, .inr (.inr (some 30))), (1, .inl x1)]) (st' := [.inl x1, .inr (.inr (some 34)), .inl 121, .inr (.inr (some 39))]) (pc' := 43) rfl rfl rfl rfl ?_
    obtain ⟨hs0, h⟩ := h
    refine ev_ald (t := 0) (n := 10) (f := aM_text M) (w := fun x => .inl x) (pc' := 44) rfl rfl (fun _ _ => rfl) rfl hs0 rfl ?_
    obtain ⟨hs, h⟩ := h
    refine ev_ii (f := fun a b => a * b) (pc' := 45) rfl rfl (fun _ => rfl) (tm_mul hs) rfl ?_
    refine ev_pu (st' := [.inl 11, .inl (121 * (aM_text M (x1).toNat)), .inr (.inr (some 39))]) (pc' := 47) rfl rfl rfl rfl ?_
    refine ev_lo (lo' := [(0, .inr (.inr (some 30))), (1, .inl x1)]) (st' := [.inl x1, .inl 11, .inl (121 * (aM_text M (x1).toNat)), .inr (.inr (some 39))]) (pc' := 48) rfl rfl rfl rfl ?_
    obtain ⟨hs, h⟩ := h
    refine ev_ii (f := fun a b => a * b) (pc' := 49) rfl rfl (fun _ => rfl) (tm_mul hs) rfl ?_
    obtain ⟨hs, h⟩ := h
    refine ev_ii (f := fun a b => a + b) (pc' := 50) rfl rfl (fun _ => rfl) (tm_add hs) rfl ?_
    refine ev_lo (lo' := [(0, .inr (.inr (some 30))), (1, .inl x1)]) (st' := [.inl x1, .inl ((121 * (aM_text M (x1).toNat)) + (11 * x1)), .inr (.inr (some 39))]) (pc' := 51) rfl rfl rfl rfl ?_
    obtain ⟨hs, h⟩ := h
    refine ev_ii (f := fun a b => a + b) (pc' := 52) rfl rfl (fun _ => rfl) (tm_add hs) rfl ?_
    refine ev_pu (st' := [.inl 1, .inl (((121 * (aM_text M (x1).toNat)) + (11 * x1)) + x1), .inr (.inr (some 39))]) (pc' := 53) rfl rfl rfl rfl ?_
    obtain ⟨hs, h⟩ := h
    refine ev_ii (f := fun a b => a + b) (pc' := 54) rfl rfl (fun _ => rfl) (tm_add hs) rfl ?_
    refine ev_pu (st' := [.inl 1, .inl ((((121 * (aM_text M (x1).toNat)) + (11 * x1)) + x1) + 1), .inr (.inr (some 39))]) (pc' := 55) rfl rfl rfl rfl ?_
    obtain ⟨hs0, h⟩ := h
    refine ev_bast (n := 1210) (f := aM_table M) (M' := ev_sA M 39 ((((121 * (aM_text M (x1).toNat)) + (11 * x1)) + x1) + 1).toNat 1) (pc' := 56) rfl rfl hs0 (by decide) (hp_a39 _ _ _) rfl ?_
    obtain ⟨hs, h⟩ := h
    refine ev_iinc (lo' := [(1, .inl (x1 + 1)), (0, .inr (.inr (some 30)))]) (pc' := 59) rfl rfl (by decide) (tm_add hs) rfl rfl ?_
    refine ev_br (pc' := 24) (st' := []) rfl rfl rfl ?_
    exact ev_pick [0, 1] rfl rfl h
set_option maxRecDepth 10000 in
theorem b103_64 {x1 : Int} {M : ev_M} {Q : ev_M → Prop}
    (h : (x1 = 0 → (Q M)) ∧ (¬ (x1 = 0) → (c103_72 0 0 M Q))) : c103_64 x1 M Q := by
  unfold c103_64
  refine ev_lo (lo' := [(0, .inr (.inr (some 30))), (1, .inl x1)]) (st' := [.inl x1]) (pc' := 65) rfl rfl rfl rfl ?_
  refine ev_ifT (pc' := 175) (pc2 := 68) rfl (by decide) rfl rfl (fun hc => ?_) (fun hc => ?_)
  · replace h := h.1 (of_decide_eq_true hc)
    exact ev_rt rfl rfl rfl ⟨rfl, h⟩
  · replace h := h.2 (of_decide_eq_false hc)
    refine ev_pu (st' := [.inl 0]) (pc' := 69) rfl rfl rfl rfl ?_
    refine ev_lo (lo' := [(1, .inl 0), (0, .inr (.inr (some 30)))]) (st' := []) (pc' := 70) rfl rfl rfl rfl ?_
    refine ev_pu (st' := [.inl 0]) (pc' := 71) rfl rfl rfl rfl ?_
    refine ev_lo (lo' := [(2, .inl 0), (1, .inl 0), (0, .inr (.inr (some 30)))]) (st' := []) (pc' := 72) rfl rfl rfl rfl ?_
    exact ev_pick [0, 1, 2] rfl rfl h
set_option maxRecDepth 10000 in
theorem b103_72 {x1 x2 : Int} {M : ev_M} {Q : ev_M → Prop}
    (h : ((sM_length M) < x2 → (c103_64 x1 M Q)) ∧ (¬ ((sM_length M) < x2) → (c103_82 x1 x2 x2 M Q))) : c103_72 x1 x2 M Q := by
  unfold c103_72
  refine ev_lo (lo' := [(0, .inr (.inr (some 30))), (1, .inl x1), (2, .inl x2)]) (st' := [.inl x2]) (pc' := 73) rfl rfl rfl rfl ?_
  refine ev_lo (lo' := [(0, .inr (.inr (some 30))), (1, .inl x1), (2, .inl x2)]) (st' := [.inr (.inr (some 30)), .inl x2]) (pc' := 74) rfl rfl rfl rfl ?_
  refine ev_get (v := .inl (sM_length M)) (pc' := 77) rfl rfl rfl rfl ?_
  refine ev_icmp (pc' := 172) (pc2 := 80) rfl (by decide) rfl rfl (fun hc => ?_) (fun hc => ?_)
  · replace h := h.1 (of_decide_eq_true hc)
    refine ev_br (pc' := 64) (st' := []) rfl rfl rfl ?_
    exact ev_pick [0, 1] rfl rfl h
  · replace h := h.2 (of_decide_eq_false hc)
    refine ev_lo (lo' := [(0, .inr (.inr (some 30))), (1, .inl x1), (2, .inl x2)]) (st' := [.inl x2]) (pc' := 81) rfl rfl rfl rfl ?_
    refine ev_lo (lo' := [(3, .inl x2), (0, .inr (.inr (some 30))), (1, .inl x1), (2, .inl x2)]) (st' := []) (pc' := 82) rfl rfl rfl rfl ?_
    exact ev_pick [0, 1, 2, 3] rfl rfl h
set_option maxRecDepth 10000 in
theorem b103_82 {x1 x2 x3 : Int} {M : ev_M} {Q : ev_M → Prop}
    (h : ((sM_length M) < x3 → (tm_iI (x2 + 1) ∧ (c103_72 x1 (x2 + 1) M Q))) ∧ (¬ ((sM_length M) < x3) → (c103_93 x1 x2 x3 0 M Q))) : c103_82 x1 x2 x3 M Q := by
  unfold c103_82
  refine ev_lo (lo' := [(0, .inr (.inr (some 30))), (1, .inl x1), (2, .inl x2), (3, .inl x3)]) (st' := [.inl x3]) (pc' := 83) rfl rfl rfl rfl ?_
  refine ev_lo (lo' := [(0, .inr (.inr (some 30))), (1, .inl x1), (2, .inl x2), (3, .inl x3)]) (st' := [.inr (.inr (some 30)), .inl x3]) (pc' := 84) rfl rfl rfl rfl ?_
  refine ev_get (v := .inl (sM_length M)) (pc' := 87) rfl rfl rfl rfl ?_
  refine ev_icmp (pc' := 166) (pc2 := 90) rfl (by decide) rfl rfl (fun hc => ?_) (fun hc => ?_)
  · replace h := h.1 (of_decide_eq_true hc)
    obtain ⟨hs, h⟩ := h
    refine ev_iinc (lo' := [(2, .inl (x2 + 1)), (0, .inr (.inr (some 30))), (1, .inl x1), (3, .inl x3)]) (pc' := 169) rfl rfl (by decide) (tm_add hs) rfl rfl ?_
    refine ev_br (pc' := 72) (st' := []) rfl rfl rfl ?_
    exact ev_pick [0, 1, 2] rfl rfl h
  · replace h := h.2 (of_decide_eq_false hc)
    refine ev_pu (st' := [.inl 0]) (pc' := 91) rfl rfl rfl rfl ?_
    refine ev_lo (lo' := [(4, .inl 0), (0, .inr (.inr (some 30))), (1, .inl x1), (2, .inl x2), (3, .inl x3)]) (st' := []) (pc' := 93) rfl rfl rfl rfl ?_
    exact ev_pick [0, 1, 2, 3, 4] rfl rfl h
set_option maxRecDepth 10000 in
theorem b103_93 {x1 x2 x3 x4 : Int} {M : ev_M} {Q : ev_M → Prop}
    (h : ((sM_rules M) ≤ x4 → (tm_iI (x3 + 1) ∧ (c103_82 x1 x2 (x3 + 1) M Q))) ∧ (¬ ((sM_rules M) ≤ x4) → ((0 ≤ x4 ∧ x4 < 14) ∧ (m101 (aM_left M (x4).toNat) x2 x3 M (fun w1 M1 => (¬ w1 = 0 → (c103_154 x1 x2 x3 x4 M1 Q)) ∧ (¬ (¬ w1 = 0) → (m102 x4 x2 x3 M1 (fun w2 M2 => (w2 = 0 → (c103_154 x1 x2 x3 x4 M2 Q)) ∧ (¬ (w2 = 0) → ((0 ≤ x4 ∧ x4 < 14) ∧ (tm_iI (121 * (aM_left M2 (x4).toNat)) ∧ (tm_iI (11 * x2) ∧ (tm_iI ((121 * (aM_left M2 (x4).toNat)) + (11 * x2)) ∧ (tm_iI (((121 * (aM_left M2 (x4).toNat)) + (11 * x2)) + x3) ∧ ((0 ≤ (((121 * (aM_left M2 (x4).toNat)) + (11 * x2)) + x3) ∧ (((121 * (aM_left M2 (x4).toNat)) + (11 * x2)) + x3) < 1210) ∧ (c103_154 1 x2 x3 x4 (ev_sA M2 39 (((121 * (aM_left M2 (x4).toNat)) + (11 * x2)) + x3).toNat 1) Q)))))))))))))))) : c103_93 x1 x2 x3 x4 M Q := by
  unfold c103_93
  refine ev_lo (lo' := [(0, .inr (.inr (some 30))), (1, .inl x1), (2, .inl x2), (3, .inl x3), (4, .inl x4)]) (st' := [.inl x4]) (pc' := 95) rfl rfl rfl rfl ?_
  refine ev_lo (lo' := [(0, .inr (.inr (some 30))), (1, .inl x1), (2, .inl x2), (3, .inl x3), (4, .inl x4)]) (st' := [.inr (.inr (some 30)), .inl x4]) (pc' := 96) rfl rfl rfl rfl ?_
  refine ev_get (v := .inl (sM_rules M)) (pc' := 99) rfl rfl rfl rfl ?_
  refine ev_icmp (pc' := 160) (pc2 := 102) rfl (by decide) rfl rfl (fun hc => ?_) (fun hc => ?_)
  · replace h := h.1 (of_decide_eq_true hc)
    obtain ⟨hs, h⟩ := h
    refine ev_iinc (lo' := [(3, .inl (x3 + 1)), (0, .inr (.inr (some 30))), (1, .inl x1), (2, .inl x2), (4, .inl x4)]) (pc' := 163) rfl rfl (by decide) (tm_add hs) rfl rfl ?_
    refine ev_br (pc' := 82) (st' := []) rfl rfl rfl ?_
    exact ev_pick [0, 1, 2, 3] rfl rfl h
  · replace h := h.2 (of_decide_eq_false hc)
    refine ev_lo (lo' := [(0, .inr (.inr (some 30))), (1, .inl x1), (2, .inl x2), (3, .inl x3), (4, .inl x4)]) (st' := [.inr (.inr (some 30))]) (pc' := 103) rfl rfl rfl rfl ?_
    refine ev_lo (lo' := [(0, .inr (.inr (some 30))), (1, .inl x1), (2, .inl x2), (3, .inl x3), (4, .inl x4)]) (st' := [.inr (.inr (some 30)), .inr (.inr (some 30))]) (pc' := 104) rfl rfl rfl rfl ?_
    refine ev_get (v := .inr (.inr (some 31))) (pc' := 107) rfl rfl rfl rfl ?_
    refine ev_lo (lo' := [(0, .inr (.inr (some 30))), (1, .inl x1), (2, .inl x2), (3, .inl x3), (4, .inl x4)]) (st' := [.inl x4, .inr (.inr (some 31)), .inr (.inr (some 30))]) (pc' := 109) rfl rfl rfl rfl ?_
    obtain ⟨hs0, h⟩ := h
    refine ev_ald (t := 0) (n := 14) (f := aM_left M) (w := fun x => .inl x) (pc' := 110) rfl rfl (fun _ _ => rfl) rfl hs0 rfl ?_
    refine ev_lo (lo' := [(0, .inr (.inr (some 30))), (1, .inl x1), (2, .inl x2), (3, .inl x3), (4, .inl x4)]) (st' := [.inl x2, .inl (aM_left M (x4).toNat), .inr (.inr (some 30))]) (pc' := 111) rfl rfl rfl rfl ?_
    refine ev_lo (lo' := [(0, .inr (.inr (some 30))), (1, .inl x1), (2, .inl x2), (3, .inl x3), (4, .inl x4)]) (st' := [.inl x3, .inl x2, .inl (aM_left M (x4).toNat), .inr (.inr (some 30))]) (pc' := 112) rfl rfl rfl rfl ?_
    refine ev_call (as := [.inr (.inr (some 30)), .inl (aM_left M (x4).toNat), .inl x2, .inl x3]) (r := []) (pc' := 115) rfl rfl (Nat.le_of_ble_eq_true rfl) (Nat.le_of_ble_eq_true rfl) ⟨rfl, rfl⟩ (Nat.le_of_ble_eq_true rfl) rfl rfl rfl rfl ?_
    refine ev.post h (fun v M1 h => ?_)
    obtain ⟨w1, rfl, h⟩ := h
    show ev 103 115 [(0, .inr (.inr (some 30))), (1, .inl x1), (2, .inl x2), (3, .inl x3), (4, .inl x4)] [.inl w1] M1 _
    refine ev_ifT (pc' := 154) (pc2 := 118) rfl (by decide) rfl rfl (fun hc => ?_) (fun hc => ?_)
    · replace h := h.1 (of_decide_eq_true hc)
      exact ev_pick [0, 1, 2, 3, 4] rfl rfl h
    · replace h := h.2 (of_decide_eq_false hc)
      refine ev_lo (lo' := [(0, .inr (.inr (some 30))), (1, .inl x1), (2, .inl x2), (3, .inl x3), (4, .inl x4)]) (st' := [.inr (.inr (some 30))]) (pc' := 119) rfl rfl rfl rfl ?_
      refine ev_lo (lo' := [(0, .inr (.inr (some 30))), (1, .inl x1), (2, .inl x2), (3, .inl x3), (4, .inl x4)]) (st' := [.inl x4, .inr (.inr (some 30))]) (pc' := 121) rfl rfl rfl rfl ?_
      refine ev_lo (lo' := [(0, .inr (.inr (some 30))), (1, .inl x1), (2, .inl x2), (3, .inl x3), (4, .inl x4)]) (st' := [.inl x2, .inl x4, .inr (.inr (some 30))]) (pc' := 122) rfl rfl rfl rfl ?_
      refine ev_lo (lo' := [(0, .inr (.inr (some 30))), (1, .inl x1), (2, .inl x2), (3, .inl x3), (4, .inl x4)]) (st' := [.inl x3, .inl x2, .inl x4, .inr (.inr (some 30))]) (pc' := 123) rfl rfl rfl rfl ?_
      refine ev_call (as := [.inr (.inr (some 30)), .inl x4, .inl x2, .inl x3]) (r := []) (pc' := 126) rfl rfl (Nat.le_of_ble_eq_true rfl) (Nat.le_of_ble_eq_true rfl) ⟨rfl, rfl⟩ (Nat.le_of_ble_eq_true rfl) rfl rfl rfl rfl ?_
      refine ev.post h (fun v M2 h => ?_)
      obtain ⟨w2, rfl, h⟩ := h
      show ev 103 126 [(0, .inr (.inr (some 30))), (1, .inl x1), (2, .inl x2), (3, .inl x3), (4, .inl x4)] [.inl w2] M2 _
      refine ev_ifT (pc' := 154) (pc2 := 129) rfl (by decide) rfl rfl (fun hc => ?_) (fun hc => ?_)
      · replace h := h.1 (of_decide_eq_true hc)
        exact ev_pick [0, 1, 2, 3, 4] rfl rfl h
      · replace h := h.2 (of_decide_eq_false hc)
        refine ev_lo (lo' := [(0, .inr (.inr (some 30))), (1, .inl x1), (2, .inl x2), (3, .inl x3), (4, .inl x4)]) (st' := [.inr (.inr (some 30))]) (pc' := 130) rfl rfl rfl rfl ?_
        refine ev_get (v := .inr (.inr (some 39))) (pc' := 133) rfl rfl rfl rfl ?_
        refine ev_pu (st' := [.inl 121, .inr (.inr (some 39))]) (pc' := 135) rfl rfl rfl rfl ?_
        refine ev_lo (lo' := [(0, .inr (.inr (some 30))), (1, .inl x1), (2, .inl x2), (3, .inl x3), (4, .inl x4)]) (st' := [.inr (.inr (some 30)), .inl 121, .inr (.inr (some 39))]) (pc' := 136) rfl rfl rfl rfl ?_
        refine ev_get (v := .inr (.inr (some 31))) (pc' := 139) rfl rfl rfl rfl ?_
        refine ev_lo (lo' := [(0, .inr (.inr (some 30))), (1, .inl x1), (2, .inl x2), (3, .inl x3), (4, .inl x4)]) (st' := [.inl x4, .inr (.inr (some 31)), .inl 121, .inr (.inr (some 39))]) (pc' := 141) rfl rfl rfl rfl ?_
        obtain ⟨hs0, h⟩ := h
        refine ev_ald (t := 0) (n := 14) (f := aM_left M2) (w := fun x => .inl x) (pc' := 142) rfl rfl (fun _ _ => rfl) rfl hs0 rfl ?_
        obtain ⟨hs, h⟩ := h
        refine ev_ii (f := fun a b => a * b) (pc' := 143) rfl rfl (fun _ => rfl) (tm_mul hs) rfl ?_
        refine ev_pu (st' := [.inl 11, .inl (121 * (aM_left M2 (x4).toNat)), .inr (.inr (some 39))]) (pc' := 145) rfl rfl rfl rfl ?_
        refine ev_lo (lo' := [(0, .inr (.inr (some 30))), (1, .inl x1), (2, .inl x2), (3, .inl x3), (4, .inl x4)]) (st' := [.inl x2, .inl 11, .inl (121 * (aM_left M2 (x4).toNat)), .inr (.inr (some 39))]) (pc' := 146) rfl rfl rfl rfl ?_
        obtain ⟨hs, h⟩ := h
        refine ev_ii (f := fun a b => a * b) (pc' := 147) rfl rfl (fun _ => rfl) (tm_mul hs) rfl ?_
        obtain ⟨hs, h⟩ := h
        refine ev_ii (f := fun a b => a + b) (pc' := 148) rfl rfl (fun _ => rfl) (tm_add hs) rfl ?_
        refine ev_lo (lo' := [(0, .inr (.inr (some 30))), (1, .inl x1), (2, .inl x2), (3, .inl x3), (4, .inl x4)]) (st' := [.inl x3, .inl ((121 * (aM_left M2 (x4).toNat)) + (11 * x2)), .inr (.inr (some 39))]) (pc' := 149) rfl rfl rfl rfl ?_
        obtain ⟨hs, h⟩ := h
        refine ev_ii (f := fun a b => a + b) (pc' := 150) rfl rfl (fun _ => rfl) (tm_add hs) rfl ?_
        refine ev_pu (st' := [.inl 1, .inl (((121 * (aM_left M2 (x4).toNat)) + (11 * x2)) + x3), .inr (.inr (some 39))]) (pc' := 151) rfl rfl rfl rfl ?_
        obtain ⟨hs0, h⟩ := h
        refine ev_bast (n := 1210) (f := aM_table M2) (M' := ev_sA M2 39 (((121 * (aM_left M2 (x4).toNat)) + (11 * x2)) + x3).toNat 1) (pc' := 152) rfl rfl hs0 (by decide) (hp_a39 _ _ _) rfl ?_
        refine ev_pu (st' := [.inl 1]) (pc' := 153) rfl rfl rfl rfl ?_
        refine ev_lo (lo' := [(1, .inl 1), (0, .inr (.inr (some 30))), (2, .inl x2), (3, .inl x3), (4, .inl x4)]) (st' := []) (pc' := 154) rfl rfl rfl rfl ?_
        exact ev_pick [0, 1, 2, 3, 4] rfl rfl h
set_option maxRecDepth 10000 in
theorem b103_154 {x1 x2 x3 x4 : Int} {M : ev_M} {Q : ev_M → Prop}
    (h : tm_iI (x4 + 1) ∧ (c103_93 x1 x2 x3 (x4 + 1) M Q)) : c103_154 x1 x2 x3 x4 M Q := by
  unfold c103_154
  obtain ⟨hs, h⟩ := h
  refine ev_iinc (lo' := [(4, .inl (x4 + 1)), (0, .inr (.inr (some 30))), (1, .inl x1), (2, .inl x2), (3, .inl x3)]) (pc' := 157) rfl rfl (by decide) (tm_add hs) rfl rfl ?_
  refine ev_br (pc' := 93) (st' := []) rfl rfl rfl ?_
  exact ev_pick [0, 1, 2, 3, 4] rfl rfl h
/-! NulledForestModel.isEmptyFrom(II)Z -/
def m104 (x1 x2 : Int) (M : ev_M) (Q : Int → ev_M → Prop) : Prop := ev 104 0 [(0, .inr (.inr (some 30))), (1, .inl x1), (2, .inl x2)] [] M (fun v M1 => ∃ w : Int, v = some (.inl w) ∧ Q w M1)
def c104_5 (x1 x3 x4 : Int) (M : ev_M) (Q : Int → ev_M → Prop) : Prop := ev 104 5 [(0, .inr (.inr (some 30))), (1, .inl x1), (3, .inl x3), (4, .inl x4)] [] M (fun v M1 => ∃ w : Int, v = some (.inl w) ∧ Q w M1)
def c104_59 (x1 x4 : Int) (M : ev_M) (Q : Int → ev_M → Prop) : Prop := ev 104 59 [(0, .inr (.inr (some 30))), (1, .inl x1), (4, .inl x4)] [] M (fun v M1 => ∃ w : Int, v = some (.inl w) ∧ Q w M1)
def c104_60 (x1 x4 t0 : Int) (M : ev_M) (Q : Int → ev_M → Prop) : Prop := ev 104 60 [(0, .inr (.inr (some 30))), (1, .inl x1), (4, .inl x4)] [.inl t0] M (fun v M1 => ∃ w : Int, v = some (.inl w) ∧ Q w M1)
set_option maxRecDepth 10000 in
theorem b104 {x1 x2 : Int} {M : ev_M} {Q : Int → ev_M → Prop}
    (h : c104_5 x1 1 x2 M Q) : m104 x1 x2 M Q := by
  unfold m104
  refine ev_pu (st' := [.inl 1]) (pc' := 1) rfl rfl rfl rfl ?_
  refine ev_lo (lo' := [(3, .inl 1), (0, .inr (.inr (some 30))), (1, .inl x1), (2, .inl x2)]) (st' := []) (pc' := 2) rfl rfl rfl rfl ?_
  refine ev_lo (lo' := [(3, .inl 1), (0, .inr (.inr (some 30))), (1, .inl x1), (2, .inl x2)]) (st' := [.inl x2]) (pc' := 3) rfl rfl rfl rfl ?_
  refine ev_lo (lo' := [(4, .inl x2), (3, .inl 1), (0, .inr (.inr (some 30))), (1, .inl x1), (2, .inl x2)]) (st' := []) (pc' := 5) rfl rfl rfl rfl ?_
  exact ev_pick [0, 1, 3, 4] rfl rfl h
set_option maxRecDepth 10000 in
theorem b104_5 {x1 x3 x4 : Int} {M : ev_M} {Q : Int → ev_M → Prop}
    (h : (0 ≤ x1 ∧ x1 < 14) ∧ (((aM_sizes M (x1).toNat) ≤ x4 → ((x3 = 0 ∨ x3 = 1) ∧ Q x3 M)) ∧ (¬ ((aM_sizes M (x1).toNat) ≤ x4) → ((x3 = 0 → (c104_59 x1 x4 M Q)) ∧ (¬ (x3 = 0) → (tm_iI (4 * x1) ∧ (tm_iI ((4 * x1) + x4) ∧ ((0 ≤ ((4 * x1) + x4) ∧ ((4 * x1) + x4) < 56) ∧ ((6 ≤ (aM_right M ((4 * x1) + x4).toNat) → (c104_59 x1 x4 M Q)) ∧ (¬ (6 ≤ (aM_right M ((4 * x1) + x4).toNat)) → (tm_iI (4 * x1) ∧ (tm_iI ((4 * x1) + x4) ∧ ((0 ≤ ((4 * x1) + x4) ∧ ((4 * x1) + x4) < 56) ∧ ((0 ≤ (aM_right M ((4 * x1) + x4).toNat) ∧ (aM_right M ((4 * x1) + x4).toNat) < 6) ∧ (((aM_empty M (aM_right M ((4 * x1) + x4).toNat).toNat) = 0 → (c104_59 x1 x4 M Q)) ∧ (¬ ((aM_empty M (aM_right M ((4 * x1) + x4).toNat).toNat) = 0) → (c104_60 x1 x4 1 M Q))))))))))))))))) : c104_5 x1 x3 x4 M Q := by
  unfold c104_5
  refine ev_lo (lo' := [(0, .inr (.inr (some 30))), (1, .inl x1), (3, .inl x3), (4, .inl x4)]) (st' := [.inl x4]) (pc' := 7) rfl rfl rfl rfl ?_
  refine ev_lo (lo' := [(0, .inr (.inr (some 30))), (1, .inl x1), (3, .inl x3), (4, .inl x4)]) (st' := [.inr (.inr (some 30)), .inl x4]) (pc' := 8) rfl rfl rfl rfl ?_
  refine ev_get (v := .inr (.inr (some 32))) (pc' := 11) rfl rfl rfl rfl ?_
  refine ev_lo (lo' := [(0, .inr (.inr (some 30))), (1, .inl x1), (3, .inl x3), (4, .inl x4)]) (st' := [.inl x1, .inr (.inr (some 32)), .inl x4]) (pc' := 12) rfl rfl rfl rfl ?_
  obtain ⟨hs0, h⟩ := h
  refine ev_ald (t := 0) (n := 14) (f := aM_sizes M) (w := fun x => .inl x) (pc' := 13) rfl rfl (fun _ _ => rfl) rfl hs0 rfl ?_
  refine ev_icmp (pc' := 67) (pc2 := 16) rfl (by decide) rfl rfl (fun hc => ?_) (fun hc => ?_)
  · replace h := h.1 (of_decide_eq_true hc)
    refine ev_lo (lo' := [(0, .inr (.inr (some 30))), (1, .inl x1), (3, .inl x3), (4, .inl x4)]) (st' := [.inl x3]) (pc' := 68) rfl rfl rfl rfl ?_
    obtain ⟨hs, h⟩ := h
    exact ev_rtZ rfl rfl hs ⟨_, rfl, h⟩
  · replace h := h.2 (of_decide_eq_false hc)
    refine ev_lo (lo' := [(0, .inr (.inr (some 30))), (1, .inl x1), (3, .inl x3), (4, .inl x4)]) (st' := [.inl x3]) (pc' := 17) rfl rfl rfl rfl ?_
    refine ev_ifT (pc' := 59) (pc2 := 20) rfl (by decide) rfl rfl (fun hc => ?_) (fun hc => ?_)
    · replace h := h.1 (of_decide_eq_true hc)
      exact ev_pick [0, 1, 4] rfl rfl h
    · replace h := h.2 (of_decide_eq_false hc)
      refine ev_lo (lo' := [(0, .inr (.inr (some 30))), (1, .inl x1), (3, .inl x3), (4, .inl x4)]) (st' := [.inr (.inr (some 30))]) (pc' := 21) rfl rfl rfl rfl ?_
      refine ev_get (v := .inr (.inr (some 33))) (pc' := 24) rfl rfl rfl rfl ?_
      refine ev_pu (st' := [.inl 4, .inr (.inr (some 33))]) (pc' := 25) rfl rfl rfl rfl ?_
      refine ev_lo (lo' := [(0, .inr (.inr (some 30))), (1, .inl x1), (3, .inl x3), (4, .inl x4)]) (st' := [.inl x1, .inl 4, .inr (.inr (some 33))]) (pc' := 26) rfl rfl rfl rfl ?_
      obtain ⟨hs, h⟩ := h
      refine ev_ii (f := fun a b => a * b) (pc' := 27) rfl rfl (fun _ => rfl) (tm_mul hs) rfl ?_
      refine ev_lo (lo' := [(0, .inr (.inr (some 30))), (1, .inl x1), (3, .inl x3), (4, .inl x4)]) (st' := [.inl x4, .inl (4 * x1), .inr (.inr (some 33))]) (pc' := 29) rfl rfl rfl rfl ?_
      obtain ⟨hs, h⟩ := h
      refine ev_ii (f := fun a b => a + b) (pc' := 30) rfl rfl (fun _ => rfl) (tm_add hs) rfl ?_
      obtain ⟨hs0, h⟩ := h
      refine ev_ald (t := 0) (n := 56) (f := aM_right M) (w := fun x => .inl x) (pc' := 31) rfl rfl (fun _ _ => rfl) rfl hs0 rfl ?_
      refine ev_pu (st' := [.inl 6, .inl (aM_right M ((4 * x1) + x4).toNat)]) (pc' := 33) rfl rfl rfl rfl ?_
      refine ev_icmp (pc' := 59) (pc2 := 36) rfl (by decide) rfl rfl (fun hc => ?_) (fun hc => ?_)
      · replace h := h.1 (of_decide_eq_true hc)
        exact ev_pick [0, 1, 4] rfl rfl h
      · replace h := h.2 (of_decide_eq_false hc)
        refine ev_lo (lo' := [(0, .inr (.inr (some 30))), (1, .inl x1), (3, .inl x3), (4, .inl x4)]) (st' := [.inr (.inr (some 30))]) (pc' := 37) rfl rfl rfl rfl ?_
        refine ev_get (v := .inr (.inr (some 38))) (pc' := 40) rfl rfl rfl rfl ?_
        refine ev_lo (lo' := [(0, .inr (.inr (some 30))), (1, .inl x1), (3, .inl x3), (4, .inl x4)]) (st' := [.inr (.inr (some 30)), .inr (.inr (some 38))]) (pc' := 41) rfl rfl rfl rfl ?_
        refine ev_get (v := .inr (.inr (some 33))) (pc' := 44) rfl rfl rfl rfl ?_
        refine ev_pu (st' := [.inl 4, .inr (.inr (some 33)), .inr (.inr (some 38))]) (pc' := 45) rfl rfl rfl rfl ?_
        refine ev_lo (lo' := [(0, .inr (.inr (some 30))), (1, .inl x1), (3, .inl x3), (4, .inl x4)]) (st' := [.inl x1, .inl 4, .inr (.inr (some 33)), .inr (.inr (some 38))]) (pc' := 46) rfl rfl rfl rfl ?_
        obtain ⟨hs, h⟩ := h
        refine ev_ii (f := fun a b => a * b) (pc' := 47) rfl rfl (fun _ => rfl) (tm_mul hs) rfl ?_
        refine ev_lo (lo' := [(0, .inr (.inr (some 30))), (1, .inl x1), (3, .inl x3), (4, .inl x4)]) (st' := [.inl x4, .inl (4 * x1), .inr (.inr (some 33)), .inr (.inr (some 38))]) (pc' := 49) rfl rfl rfl rfl ?_
        obtain ⟨hs, h⟩ := h
        refine ev_ii (f := fun a b => a + b) (pc' := 50) rfl rfl (fun _ => rfl) (tm_add hs) rfl ?_
        obtain ⟨hs0, h⟩ := h
        refine ev_ald (t := 0) (n := 56) (f := aM_right M) (w := fun x => .inl x) (pc' := 51) rfl rfl (fun _ _ => rfl) rfl hs0 rfl ?_
        obtain ⟨hs0, h⟩ := h
        refine ev_ald (t := 2) (n := 6) (f := aM_empty M) (w := fun x => .inl x) (pc' := 52) rfl rfl (fun _ _ => rfl) rfl hs0 rfl ?_
        refine ev_ifT (pc' := 59) (pc2 := 55) rfl (by decide) rfl rfl (fun hc => ?_) (fun hc => ?_)
        · replace h := h.1 (of_decide_eq_true hc)
          exact ev_pick [0, 1, 4] rfl rfl h
        · replace h := h.2 (of_decide_eq_false hc)
          refine ev_pu (st' := [.inl 1]) (pc' := 56) rfl rfl rfl rfl ?_
          refine ev_br (pc' := 60) (st' := [.inl 1]) rfl rfl rfl ?_
          exact ev_pick [0, 1, 4] rfl rfl h
set_option maxRecDepth 10000 in
theorem b104_59 {x1 x4 : Int} {M : ev_M} {Q : Int → ev_M → Prop}
    (h : c104_60 x1 x4 0 M Q) : c104_59 x1 x4 M Q := by
  unfold c104_59
  refine ev_pu (st' := [.inl 0]) (pc' := 60) rfl rfl rfl rfl ?_
  exact ev_pick [0, 1, 4] rfl rfl h
set_option maxRecDepth 10000 in
theorem b104_60 {x1 x4 t0 : Int} {M : ev_M} {Q : Int → ev_M → Prop}
    (h : tm_iI (x4 + 1) ∧ (c104_5 x1 t0 (x4 + 1) M Q)) : c104_60 x1 x4 t0 M Q := by
  unfold c104_60
  refine ev_lo (lo' := [(3, .inl t0), (0, .inr (.inr (some 30))), (1, .inl x1), (4, .inl x4)]) (st' := []) (pc' := 61) rfl rfl rfl rfl ?_
  obtain ⟨hs, h⟩ := h
  refine ev_iinc (lo' := [(4, .inl (x4 + 1)), (3, .inl t0), (0, .inr (.inr (some 30))), (1, .inl x1)]) (pc' := 64) rfl rfl (by decide) (tm_add hs) rfl rfl ?_
  refine ev_br (pc' := 5) (st' := []) rfl rfl rfl ?_
  exact ev_pick [0, 1, 3, 4] rfl rfl h
/-! NulledForestModel.findEmpty()V -/
def m105 (M : ev_M) (Q : ev_M → Prop) : Prop := ev 105 0 [(0, .inr (.inr (some 30)))] [] M (fun v M1 => v = none ∧ Q M1)
def c105_2 (x1 : Int) (M : ev_M) (Q : ev_M → Prop) : Prop := ev 105 2 [(0, .inr (.inr (some 30))), (1, .inl x1)] [] M (fun v M1 => v = none ∧ Q M1)
def c105_23 (x1 : Int) (M : ev_M) (Q : ev_M → Prop) : Prop := ev 105 23 [(0, .inr (.inr (some 30))), (1, .inl x1)] [] M (fun v M1 => v = none ∧ Q M1)
def c105_31 (x1 x2 : Int) (M : ev_M) (Q : ev_M → Prop) : Prop := ev 105 31 [(0, .inr (.inr (some 30))), (1, .inl x1), (2, .inl x2)] [] M (fun v M1 => v = none ∧ Q M1)
def c105_72 (x1 x2 t1 : Int) (M : ev_M) (Q : ev_M → Prop) : Prop := ev 105 72 [(0, .inr (.inr (some 30))), (1, .inl x1), (2, .inl x2)] [.inl t1, .inr (.inr (some 38))] M (fun v M1 => v = none ∧ Q M1)
def c105_77 (x1 x2 t1 t2 : Int) (M : ev_M) (Q : ev_M → Prop) : Prop := ev 105 77 [(0, .inr (.inr (some 30))), (1, .inl x1), (2, .inl x2)] [.inl t2, .inl t1, .inr (.inr (some 38))] M (fun v M1 => v = none ∧ Q M1)
set_option maxRecDepth 10000 in
theorem b105 {M : ev_M} {Q : ev_M → Prop}
    (h : c105_2 0 M Q) : m105 M Q := by
  unfold m105
  refine ev_pu (st' := [.inl 0]) (pc' := 1) rfl rfl rfl rfl ?_
  refine ev_lo (lo' := [(1, .inl 0), (0, .inr (.inr (some 30)))]) (st' := []) (pc' := 2) rfl rfl rfl rfl ?_
  exact ev_pick [0, 1] rfl rfl h
set_option maxRecDepth 10000 in
theorem b105_2 {x1 : Int} {M : ev_M} {Q : ev_M → Prop}
    (h : (6 ≤ x1 → (c105_23 0 M Q)) ∧ (¬ (6 ≤ x1) → ((0 ≤ x1 ∧ x1 < 6) ∧ (tm_iI (x1 + 1) ∧ (c105_2 (x1 + 1) (ev_sA M 38 (x1).toNat 0) Q))))) : c105_2 x1 M Q := by
  unfold c105_2
  refine ev_lo (lo' := [(0, .inr (.inr (some 30))), (1, .inl x1)]) (st' := [.inl x1]) (pc' := 3) rfl rfl rfl rfl ?_
  refine ev_pu (st' := [.inl 6, .inl x1]) (pc' := 5) rfl rfl rfl rfl ?_
  refine ev_icmp (pc' := 21) (pc2 := 8) rfl (by decide) rfl rfl (fun hc => ?_) (fun hc => ?_)
  · replace h := h.1 (of_decide_eq_true hc)
    refine ev_pu (st' := [.inl 0]) (pc' := 22) rfl rfl rfl rfl ?_
    refine ev_lo (lo' := [(1, .inl 0), (0, .inr (.inr (some 30)))]) (st' := []) (pc' := 23) rfl rfl rfl rfl ?_
    exact ev_pick [0, 1] rfl rfl h
  · replace h := h.2 (of_decide_eq_false hc)
    refine ev_lo (lo' := [(0, .inr (.inr (some 30))), (1, .inl x1)]) (st' := [.inr (.inr (some 30))]) (pc' := 9) rfl rfl rfl rfl ?_
    refine ev_get (v := .inr (.inr (some 38))) (pc' := 12) rfl rfl rfl rfl ?_
    refine ev_lo (lo' := [(0, .inr (.inr (some 30))), (1, .inl x1)]) (st' := [.inl x1, .inr (.inr (some 38))]) (pc' := 13) rfl rfl rfl rfl ?_
    refine ev_pu (st' := [.inl 0, .inl x1, .inr (.inr (some 38))]) (pc' := 14) rfl rfl rfl rfl ?_
    obtain ⟨hs0, h⟩ := h
    refine ev_bast (n := 6) (f := aM_empty M) (M' := ev_sA M 38 (x1).toNat 0) (pc' := 15) rfl rfl hs0 (by decide) (hp_a38 _ _ _) rfl ?_
    obtain ⟨hs, h⟩ := h
    refine ev_iinc (lo' := [(1, .inl (x1 + 1)), (0, .inr (.inr (some 30)))]) (pc' := 18) rfl rfl (by decide) (tm_add hs) rfl rfl ?_
    refine ev_br (pc' := 2) (st' := []) rfl rfl rfl ?_
    exact ev_pick [0, 1] rfl rfl h
set_option maxRecDepth 10000 in
theorem b105_23 {x1 : Int} {M : ev_M} {Q : ev_M → Prop}
    (h : (6 ≤ x1 → (Q M)) ∧ (¬ (6 ≤ x1) → (c105_31 x1 0 M Q))) : c105_23 x1 M Q := by
  unfold c105_23
  refine ev_lo (lo' := [(0, .inr (.inr (some 30))), (1, .inl x1)]) (st' := [.inl x1]) (pc' := 24) rfl rfl rfl rfl ?_
  refine ev_pu (st' := [.inl 6, .inl x1]) (pc' := 26) rfl rfl rfl rfl ?_
  refine ev_icmp (pc' := 90) (pc2 := 29) rfl (by decide) rfl rfl (fun hc => ?_) (fun hc => ?_)
  · replace h := h.1 (of_decide_eq_true hc)
    exact ev_rt rfl rfl rfl ⟨rfl, h⟩
  · replace h := h.2 (of_decide_eq_false hc)
    refine ev_pu (st' := [.inl 0]) (pc' := 30) rfl rfl rfl rfl ?_
    refine ev_lo (lo' := [(2, .inl 0), (0, .inr (.inr (some 30))), (1, .inl x1)]) (st' := []) (pc' := 31) rfl rfl rfl rfl ?_
    exact ev_pick [0, 1, 2] rfl rfl h
set_option maxRecDepth 10000 in
theorem b105_31 {x1 x2 : Int} {M : ev_M} {Q : ev_M → Prop}
    (h : ((sM_rules M) ≤ x2 → (tm_iI (x1 + 1) ∧ (c105_23 (x1 + 1) M Q))) ∧ (¬ ((sM_rules M) ≤ x2) → ((0 ≤ x2 ∧ x2 < 14) ∧ ((0 ≤ x2 ∧ x2 < 14) ∧ ((0 ≤ (aM_left M (x2).toNat) ∧ (aM_left M (x2).toNat) < 6) ∧ ((¬ (aM_empty M (aM_left M (x2).toNat).toNat) = 0 → (c105_72 x1 x2 (aM_left M (x2).toNat) M Q)) ∧ (¬ (¬ (aM_empty M (aM_left M (x2).toNat).toNat) = 0) → (m104 x2 0 M (fun w1 M1 => (w1 = 0 → (c105_77 x1 x2 (aM_left M (x2).toNat) 0 M1 Q)) ∧ (¬ (w1 = 0) → (c105_72 x1 x2 (aM_left M (x2).toNat) M1 Q))))))))))) : c105_31 x1 x2 M Q := by
  unfold c105_31
  refine ev_lo (lo' := [(0, .inr (.inr (some 30))), (1, .inl x1), (2, .inl x2)]) (st' := [.inl x2]) (pc' := 32) rfl rfl rfl rfl ?_
  refine ev_lo (lo' := [(0, .inr (.inr (some 30))), (1, .inl x1), (2, .inl x2)]) (st' := [.inr (.inr (some 30)), .inl x2]) (pc' := 33) rfl rfl rfl rfl ?_
  refine ev_get (v := .inl (sM_rules M)) (pc' := 36) rfl rfl rfl rfl ?_
  refine ev_icmp (pc' := 84) (pc2 := 39) rfl (by decide) rfl rfl (fun hc => ?_) (fun hc => ?_)
  · replace h := h.1 (of_decide_eq_true hc)
    obtain ⟨hs, h⟩ := h
    refine ev_iinc (lo' := [(1, .inl (x1 + 1)), (0, .inr (.inr (some 30))), (2, .inl x2)]) (pc' := 87) rfl rfl (by decide) (tm_add hs) rfl rfl ?_
    refine ev_br (pc' := 23) (st' := []) rfl rfl rfl ?_
    exact ev_pick [0, 1] rfl rfl h
  · replace h := h.2 (of_decide_eq_false hc)
    refine ev_lo (lo' := [(0, .inr (.inr (some 30))), (1, .inl x1), (2, .inl x2)]) (st' := [.inr (.inr (some 30))]) (pc' := 40) rfl rfl rfl rfl ?_
    refine ev_get (v := .inr (.inr (some 38))) (pc' := 43) rfl rfl rfl rfl ?_
    refine ev_lo (lo' := [(0, .inr (.inr (some 30))), (1, .inl x1), (2, .inl x2)]) (st' := [.inr (.inr (some 30)), .inr (.inr (some 38))]) (pc' := 44) rfl rfl rfl rfl ?_
    refine ev_get (v := .inr (.inr (some 31))) (pc' := 47) rfl rfl rfl rfl ?_
    refine ev_lo (lo' := [(0, .inr (.inr (some 30))), (1, .inl x1), (2, .inl x2)]) (st' := [.inl x2, .inr (.inr (some 31)), .inr (.inr (some 38))]) (pc' := 48) rfl rfl rfl rfl ?_
    obtain ⟨hs0, h⟩ := h
    refine ev_ald (t := 0) (n := 14) (f := aM_left M) (w := fun x => .inl x) (pc' := 49) rfl rfl (fun _ _ => rfl) rfl hs0 rfl ?_
    refine ev_lo (lo' := [(0, .inr (.inr (some 30))), (1, .inl x1), (2, .inl x2)]) (st' := [.inr (.inr (some 30)), .inl (aM_left M (x2).toNat), .inr (.inr (some 38))]) (pc' := 50) rfl rfl rfl rfl ?_
    refine ev_get (v := .inr (.inr (some 38))) (pc' := 53) rfl rfl rfl rfl ?_
    refine ev_lo (lo' := [(0, .inr (.inr (some 30))), (1, .inl x1), (2, .inl x2)]) (st' := [.inr (.inr (some 30)), .inr (.inr (some 38)), .inl (aM_left M (x2).toNat), .inr (.inr (some 38))]) (pc' := 54) rfl rfl rfl rfl ?_
    refine ev_get (v := .inr (.inr (some 31))) (pc' := 57) rfl rfl rfl rfl ?_
    refine ev_lo (lo' := [(0, .inr (.inr (some 30))), (1, .inl x1), (2, .inl x2)]) (st' := [.inl x2, .inr (.inr (some 31)), .inr (.inr (some 38)), .inl (aM_left M (x2).toNat), .inr (.inr (some 38))]) (pc' := 58) rfl rfl rfl rfl ?_
    obtain ⟨hs0, h⟩ := h
    refine ev_ald (t := 0) (n := 14) (f := aM_left M) (w := fun x => .inl x) (pc' := 59) rfl rfl (fun _ _ => rfl) rfl hs0 rfl ?_
    obtain ⟨hs0, h⟩ := h
    refine ev_ald (t := 2) (n := 6) (f := aM_empty M) (w := fun x => .inl x) (pc' := 60) rfl rfl (fun _ _ => rfl) rfl hs0 rfl ?_
    refine ev_ifT (pc' := 72) (pc2 := 63) rfl (by decide) rfl rfl (fun hc => ?_) (fun hc => ?_)
    · replace h := h.1 (of_decide_eq_true hc)
      exact ev_pick [0, 1, 2] rfl rfl h
    · replace h := h.2 (of_decide_eq_false hc)
      refine ev_lo (lo' := [(0, .inr (.inr (some 30))), (1, .inl x1), (2, .inl x2)]) (st' := [.inr (.inr (some 30)), .inl (aM_left M (x2).toNat), .inr (.inr (some 38))]) (pc' := 64) rfl rfl rfl rfl ?_
      refine ev_lo (lo' := [(0, .inr (.inr (some 30))), (1, .inl x1), (2, .inl x2)]) (st' := [.inl x2, .inr (.inr (some 30)), .inl (aM_left M (x2).toNat), .inr (.inr (some 38))]) (pc' := 65) rfl rfl rfl rfl ?_
      refine ev_pu (st' := [.inl 0, .inl x2, .inr (.inr (some 30)), .inl (aM_left M (x2).toNat), .inr (.inr (some 38))]) (pc' := 66) rfl rfl rfl rfl ?_
      refine ev_call (as := [.inr (.inr (some 30)), .inl x2, .inl 0]) (r := [.inl (aM_left M (x2).toNat), .inr (.inr (some 38))]) (pc' := 69) rfl rfl (Nat.le_of_ble_eq_true rfl) (Nat.le_of_ble_eq_true rfl) ⟨rfl, rfl⟩ (Nat.le_of_ble_eq_true rfl) rfl rfl rfl rfl ?_
      refine ev.post h (fun v M1 h => ?_)
      obtain ⟨w1, rfl, h⟩ := h
      show ev 105 69 [(0, .inr (.inr (some 30))), (1, .inl x1), (2, .inl x2)] [.inl w1, .inl (aM_left M (x2).toNat), .inr (.inr (some 38))] M1 _
      refine ev_ifT (pc' := 76) (pc2 := 72) rfl (by decide) rfl rfl (fun hc => ?_) (fun hc => ?_)
      · replace h := h.1 (of_decide_eq_true hc)
        refine ev_pu (st' := [.inl 0, .inl (aM_left M (x2).toNat), .inr (.inr (some 38))]) (pc' := 77) rfl rfl rfl rfl ?_
        exact ev_pick [0, 1, 2] rfl rfl h
      · replace h := h.2 (of_decide_eq_false hc)
        exact ev_pick [0, 1, 2] rfl rfl h
set_option maxRecDepth 10000 in
theorem b105_72 {x1 x2 t1 : Int} {M : ev_M} {Q : ev_M → Prop}
    (h : c105_77 x1 x2 t1 1 M Q) : c105_72 x1 x2 t1 M Q := by
  unfold c105_72
  refine ev_pu (st' := [.inl 1, .inl t1, .inr (.inr (some 38))]) (pc' := 73) rfl rfl rfl rfl ?_
  refine ev_br (pc' := 77) (st' := [.inl 1, .inl t1, .inr (.inr (some 38))]) rfl rfl rfl ?_
  exact ev_pick [0, 1, 2] rfl rfl h
set_option maxRecDepth 10000 in
theorem b105_77 {x1 x2 t1 t2 : Int} {M : ev_M} {Q : ev_M → Prop}
    (h : (0 ≤ t1 ∧ t1 < 6) ∧ (t2 = 0 ∨ t2 = 1) ∧ (tm_iI (x2 + 1) ∧ (c105_31 x1 (x2 + 1) (ev_sA M 38 (t1).toNat t2) Q))) : c105_77 x1 x2 t1 t2 M Q := by
  unfold c105_77
  obtain ⟨hs0, hs1, h⟩ := h
  refine ev_bast (n := 6) (f := aM_empty M) (M' := ev_sA M 38 (t1).toNat t2) (pc' := 78) rfl rfl hs0 hs1 (hp_a38 _ _ _) rfl ?_
  obtain ⟨hs, h⟩ := h
  refine ev_iinc (lo' := [(2, .inl (x2 + 1)), (0, .inr (.inr (some 30))), (1, .inl x1)]) (pc' := 81) rfl rfl (by decide) (tm_add hs) rfl rfl ?_
  refine ev_br (pc' := 31) (st' := []) rfl rfl rfl ?_
  exact ev_pick [0, 1, 2] rfl rfl h
/-! NulledForestModel.firstCuts(I)V -/
def m106 (x1 : Int) (M : ev_M) (Q : ev_M → Prop) : Prop := ev 106 0 [(0, .inr (.inr (some 30))), (1, .inl x1)] [] M (fun v M1 => v = none ∧ Q M1)
def c106_38 (x1 x2 t1 : Int) (M : ev_M) (Q : ev_M → Prop) : Prop := ev 106 38 [(0, .inr (.inr (some 30))), (1, .inl x1), (2, .inl x2)] [.inl t1, .inr (.inr (some 30))] M (fun v M1 => v = none ∧ Q M1)
def c106_70 (x2 t1 : Int) (M : ev_M) (Q : ev_M → Prop) : Prop := ev 106 70 [(0, .inr (.inr (some 30))), (2, .inl x2)] [.inl t1, .inr (.inr (some 30))] M (fun v M1 => v = none ∧ Q M1)
def c106_90 (t1 : Int) (M : ev_M) (Q : ev_M → Prop) : Prop := ev 106 90 [] [.inl t1, .inr (.inr (some 30))] M (fun v M1 => v = none ∧ Q M1)
set_option maxRecDepth 10000 in
theorem b106 {x1 : Int} {M : ev_M} {Q : ev_M → Prop}
    (h : (0 ≤ (sM_rule M) ∧ (sM_rule M) < 14) ∧ ((x1 ≤ 0 → ((2 ≤ (aM_sizes M (sM_rule M).toNat) → (c106_38 x1 (aM_sizes M (sM_rule M).toNat) (sM_from M) M Q)) ∧ (¬ (2 ≤ (aM_sizes M (sM_rule M).toNat)) → (c106_38 x1 (aM_sizes M (sM_rule M).toNat) (sM_to M) M Q)))) ∧ (¬ (x1 ≤ 0) → (c106_38 x1 (aM_sizes M (sM_rule M).toNat) (sM_one M) M Q)))) : m106 x1 M Q := by
  unfold m106
  refine ev_lo (lo' := [(0, .inr (.inr (some 30))), (1, .inl x1)]) (st' := [.inr (.inr (some 30))]) (pc' := 1) rfl rfl rfl rfl ?_
  refine ev_get (v := .inr (.inr (some 32))) (pc' := 4) rfl rfl rfl rfl ?_
  refine ev_lo (lo' := [(0, .inr (.inr (some 30))), (1, .inl x1)]) (st' := [.inr (.inr (some 30)), .inr (.inr (some 32))]) (pc' := 5) rfl rfl rfl rfl ?_
  refine ev_get (v := .inl (sM_rule M)) (pc' := 8) rfl rfl rfl rfl ?_
  obtain ⟨hs0, h⟩ := h
  refine ev_ald (t := 0) (n := 14) (f := aM_sizes M) (w := fun x => .inl x) (pc' := 9) rfl rfl (fun _ _ => rfl) rfl hs0 rfl ?_
  refine ev_lo (lo' := [(2, .inl (aM_sizes M (sM_rule M).toNat)), (0, .inr (.inr (some 30))), (1, .inl x1)]) (st' := []) (pc' := 10) rfl rfl rfl rfl ?_
  refine ev_lo (lo' := [(2, .inl (aM_sizes M (sM_rule M).toNat)), (0, .inr (.inr (some 30))), (1, .inl x1)]) (st' := [.inr (.inr (some 30))]) (pc' := 11) rfl rfl rfl rfl ?_
  refine ev_lo (lo' := [(2, .inl (aM_sizes M (sM_rule M).toNat)), (0, .inr (.inr (some 30))), (1, .inl x1)]) (st' := [.inl x1, .inr (.inr (some 30))]) (pc' := 12) rfl rfl rfl rfl ?_
  refine ev_ifT (pc' := 22) (pc2 := 15) rfl (by decide) rfl rfl (fun hc => ?_) (fun hc => ?_)
  · replace h := h.1 (of_decide_eq_true hc)
    refine ev_lo (lo' := [(2, .inl (aM_sizes M (sM_rule M).toNat)), (0, .inr (.inr (some 30))), (1, .inl x1)]) (st' := [.inl (aM_sizes M (sM_rule M).toNat), .inr (.inr (some 30))]) (pc' := 23) rfl rfl rfl rfl ?_
    refine ev_pu (st' := [.inl 2, .inl (aM_sizes M (sM_rule M).toNat), .inr (.inr (some 30))]) (pc' := 24) rfl rfl rfl rfl ?_
    refine ev_icmp (pc' := 34) (pc2 := 27) rfl (by decide) rfl rfl (fun hc => ?_) (fun hc => ?_)
    · replace h := h.1 (of_decide_eq_true hc)
      refine ev_lo (lo' := [(2, .inl (aM_sizes M (sM_rule M).toNat)), (0, .inr (.inr (some 30))), (1, .inl x1)]) (st' := [.inr (.inr (some 30)), .inr (.inr (some 30))]) (pc' := 35) rfl rfl rfl rfl ?_
      refine ev_get (v := .inl (sM_from M)) (pc' := 38) rfl rfl rfl rfl ?_
      exact ev_pick [0, 1, 2] rfl rfl h
    · replace h := h.2 (of_decide_eq_false hc)
      refine ev_lo (lo' := [(2, .inl (aM_sizes M (sM_rule M).toNat)), (0, .inr (.inr (some 30))), (1, .inl x1)]) (st' := [.inr (.inr (some 30)), .inr (.inr (some 30))]) (pc' := 28) rfl rfl rfl rfl ?_
      refine ev_get (v := .inl (sM_to M)) (pc' := 31) rfl rfl rfl rfl ?_
      refine ev_br (pc' := 38) (st' := [.inl (sM_to M), .inr (.inr (some 30))]) rfl rfl rfl ?_
      exact ev_pick [0, 1, 2] rfl rfl h
  · replace h := h.2 (of_decide_eq_false hc)
    refine ev_lo (lo' := [(2, .inl (aM_sizes M (sM_rule M).toNat)), (0, .inr (.inr (some 30))), (1, .inl x1)]) (st' := [.inr (.inr (some 30)), .inr (.inr (some 30))]) (pc' := 16) rfl rfl rfl rfl ?_
    refine ev_get (v := .inl (sM_one M)) (pc' := 19) rfl rfl rfl rfl ?_
    refine ev_br (pc' := 38) (st' := [.inl (sM_one M), .inr (.inr (some 30))]) rfl rfl rfl ?_
    exact ev_pick [0, 1, 2] rfl rfl h
set_option maxRecDepth 10000 in
theorem b106_38 {x1 x2 t1 : Int} {M : ev_M} {Q : ev_M → Prop}
    (h : (x1 ≤ 1 → ((3 ≤ x2 → (c106_70 x2 t1 (ev_sS M 22 t1) Q)) ∧ (¬ (3 ≤ x2) → (c106_70 x2 (sM_to M) (ev_sS M 22 t1) Q)))) ∧ (¬ (x1 ≤ 1) → (c106_70 x2 (sM_two M) (ev_sS M 22 t1) Q))) : c106_38 x1 x2 t1 M Q := by
  unfold c106_38
  refine ev_put (M' := ev_sS M 22 t1) (pc' := 41) rfl rfl (Nat.le_of_ble_eq_true rfl) rfl (hp_s22 _ _) rfl ?_
  refine ev_lo (lo' := [(0, .inr (.inr (some 30))), (1, .inl x1), (2, .inl x2)]) (st' := [.inr (.inr (some 30))]) (pc' := 42) rfl rfl rfl rfl ?_
  refine ev_lo (lo' := [(0, .inr (.inr (some 30))), (1, .inl x1), (2, .inl x2)]) (st' := [.inl x1, .inr (.inr (some 30))]) (pc' := 43) rfl rfl rfl rfl ?_
  refine ev_pu (st' := [.inl 1, .inl x1, .inr (.inr (some 30))]) (pc' := 44) rfl rfl rfl rfl ?_
  refine ev_icmp (pc' := 54) (pc2 := 47) rfl (by decide) rfl rfl (fun hc => ?_) (fun hc => ?_)
  · replace h := h.1 (of_decide_eq_true hc)
    refine ev_lo (lo' := [(0, .inr (.inr (some 30))), (1, .inl x1), (2, .inl x2)]) (st' := [.inl x2, .inr (.inr (some 30))]) (pc' := 55) rfl rfl rfl rfl ?_
    refine ev_pu (st' := [.inl 3, .inl x2, .inr (.inr (some 30))]) (pc' := 56) rfl rfl rfl rfl ?_
    refine ev_icmp (pc' := 66) (pc2 := 59) rfl (by decide) rfl rfl (fun hc => ?_) (fun hc => ?_)
    · replace h := h.1 (of_decide_eq_true hc)
      refine ev_lo (lo' := [(0, .inr (.inr (some 30))), (1, .inl x1), (2, .inl x2)]) (st' := [.inr (.inr (some 30)), .inr (.inr (some 30))]) (pc' := 67) rfl rfl rfl rfl ?_
      refine ev_get (v := .inl t1) (pc' := 70) rfl rfl rfl rfl ?_
      exact ev_pick [0, 2] rfl rfl h
    · replace h := h.2 (of_decide_eq_false hc)
      refine ev_lo (lo' := [(0, .inr (.inr (some 30))), (1, .inl x1), (2, .inl x2)]) (st' := [.inr (.inr (some 30)), .inr (.inr (some 30))]) (pc' := 60) rfl rfl rfl rfl ?_
      refine ev_get (v := .inl (sM_to M)) (pc' := 63) rfl rfl rfl rfl ?_
      refine ev_br (pc' := 70) (st' := [.inl (sM_to M), .inr (.inr (some 30))]) rfl rfl rfl ?_
      exact ev_pick [0, 2] rfl rfl h
  · replace h := h.2 (of_decide_eq_false hc)
    refine ev_lo (lo' := [(0, .inr (.inr (some 30))), (1, .inl x1), (2, .inl x2)]) (st' := [.inr (.inr (some 30)), .inr (.inr (some 30))]) (pc' := 48) rfl rfl rfl rfl ?_
    refine ev_get (v := .inl (sM_two M)) (pc' := 51) rfl rfl rfl rfl ?_
    refine ev_br (pc' := 70) (st' := [.inl (sM_two M), .inr (.inr (some 30))]) rfl rfl rfl ?_
    exact ev_pick [0, 2] rfl rfl h
set_option maxRecDepth 10000 in
theorem b106_70 {x2 t1 : Int} {M : ev_M} {Q : ev_M → Prop}
    (h : (4 ≤ x2 → (c106_90 t1 (ev_sS M 23 t1) Q)) ∧ (¬ (4 ≤ x2) → (c106_90 (sM_to M) (ev_sS M 23 t1) Q))) : c106_70 x2 t1 M Q := by
  unfold c106_70
  refine ev_put (M' := ev_sS M 23 t1) (pc' := 73) rfl rfl (Nat.le_of_ble_eq_true rfl) rfl (hp_s23 _ _) rfl ?_
  refine ev_lo (lo' := [(0, .inr (.inr (some 30))), (2, .inl x2)]) (st' := [.inr (.inr (some 30))]) (pc' := 74) rfl rfl rfl rfl ?_
  refine ev_lo (lo' := [(0, .inr (.inr (some 30))), (2, .inl x2)]) (st' := [.inl x2, .inr (.inr (some 30))]) (pc' := 75) rfl rfl rfl rfl ?_
  refine ev_pu (st' := [.inl 4, .inl x2, .inr (.inr (some 30))]) (pc' := 76) rfl rfl rfl rfl ?_
  refine ev_icmp (pc' := 86) (pc2 := 79) rfl (by decide) rfl rfl (fun hc => ?_) (fun hc => ?_)
  · replace h := h.1 (of_decide_eq_true hc)
    refine ev_lo (lo' := [(0, .inr (.inr (some 30))), (2, .inl x2)]) (st' := [.inr (.inr (some 30)), .inr (.inr (some 30))]) (pc' := 87) rfl rfl rfl rfl ?_
    refine ev_get (v := .inl t1) (pc' := 90) rfl rfl rfl rfl ?_
    exact ev_pick [] rfl rfl h
  · replace h := h.2 (of_decide_eq_false hc)
    refine ev_lo (lo' := [(0, .inr (.inr (some 30))), (2, .inl x2)]) (st' := [.inr (.inr (some 30)), .inr (.inr (some 30))]) (pc' := 80) rfl rfl rfl rfl ?_
    refine ev_get (v := .inl (sM_to M)) (pc' := 83) rfl rfl rfl rfl ?_
    refine ev_br (pc' := 90) (st' := [.inl (sM_to M), .inr (.inr (some 30))]) rfl rfl rfl ?_
    exact ev_pick [] rfl rfl h
set_option maxRecDepth 10000 in
theorem b106_90 {t1 : Int} {M : ev_M} {Q : ev_M → Prop}
    (h : Q (ev_sS M 24 t1)) : c106_90 t1 M Q := by
  unfold c106_90
  refine ev_put (M' := ev_sS M 24 t1) (pc' := 93) rfl rfl (Nat.le_of_ble_eq_true rfl) rfl (hp_s24 _ _) rfl ?_
  exact ev_rt rfl rfl rfl ⟨rfl, h⟩
/-! NulledForestModel.step()Z -/
def m107 (M : ev_M) (Q : Int → ev_M → Prop) : Prop := ev 107 0 [(0, .inr (.inr (some 30)))] [] M (fun v M1 => ∃ w : Int, v = some (.inl w) ∧ Q w M1)
def c107_20 (t0 : Int) (M : ev_M) (Q : Int → ev_M → Prop) : Prop := ev 107 20 [(0, .inr (.inr (some 30)))] [.inl t0] M (fun v M1 => ∃ w : Int, v = some (.inl w) ∧ Q w M1)
def c107_50 (x1 : Int) (M : ev_M) (Q : Int → ev_M → Prop) : Prop := ev 107 50 [(0, .inr (.inr (some 30))), (1, .inl x1)] [] M (fun v M1 => ∃ w : Int, v = some (.inl w) ∧ Q w M1)
def c107_84 (x1 : Int) (M : ev_M) (Q : Int → ev_M → Prop) : Prop := ev 107 84 [(0, .inr (.inr (some 30))), (1, .inl x1)] [] M (fun v M1 => ∃ w : Int, v = some (.inl w) ∧ Q w M1)
def c107_118 (M : ev_M) (Q : Int → ev_M → Prop) : Prop := ev 107 118 [(0, .inr (.inr (some 30)))] [] M (fun v M1 => ∃ w : Int, v = some (.inl w) ∧ Q w M1)
def c107_128 (M : ev_M) (Q : Int → ev_M → Prop) : Prop := ev 107 128 [(0, .inr (.inr (some 30)))] [] M (fun v M1 => ∃ w : Int, v = some (.inl w) ∧ Q w M1)
def c107_168 (M : ev_M) (Q : Int → ev_M → Prop) : Prop := ev 107 168 [(0, .inr (.inr (some 30)))] [] M (fun v M1 => ∃ w : Int, v = some (.inl w) ∧ Q w M1)
def c107_186 (M : ev_M) (Q : Int → ev_M → Prop) : Prop := ev 107 186 [] [] M (fun v M1 => ∃ w : Int, v = some (.inl w) ∧ Q w M1)
set_option maxRecDepth 10000 in
theorem b107 {M : ev_M} {Q : Int → ev_M → Prop}
    (h : (0 ≤ (sM_rule M) → ((0 ≤ (sM_rule M) ∧ (sM_rule M) < 14) ∧ (c107_20 (aM_sizes M (sM_rule M).toNat) M Q))) ∧ (¬ (0 ≤ (sM_rule M)) → (c107_20 0 M Q))) : m107 M Q := by
  unfold m107
  refine ev_lo (lo' := [(0, .inr (.inr (some 30)))]) (st' := [.inr (.inr (some 30))]) (pc' := 1) rfl rfl rfl rfl ?_
  refine ev_get (v := .inl (sM_rule M)) (pc' := 4) rfl rfl rfl rfl ?_
  refine ev_ifT (pc' := 11) (pc2 := 7) rfl (by decide) rfl rfl (fun hc => ?_) (fun hc => ?_)
  · replace h := h.1 (of_decide_eq_true hc)
    refine ev_lo (lo' := [(0, .inr (.inr (some 30)))]) (st' := [.inr (.inr (some 30))]) (pc' := 12) rfl rfl rfl rfl ?_
    refine ev_get (v := .inr (.inr (some 32))) (pc' := 15) rfl rfl rfl rfl ?_
    refine ev_lo (lo' := [(0, .inr (.inr (some 30)))]) (st' := [.inr (.inr (some 30)), .inr (.inr (some 32))]) (pc' := 16) rfl rfl rfl rfl ?_
    refine ev_get (v := .inl (sM_rule M)) (pc' := 19) rfl rfl rfl rfl ?_
    obtain ⟨hs0, h⟩ := h
    refine ev_ald (t := 0) (n := 14) (f := aM_sizes M) (w := fun x => .inl x) (pc' := 20) rfl rfl (fun _ _ => rfl) rfl hs0 rfl ?_
    exact ev_pick [0] rfl rfl h
  · replace h := h.2 (of_decide_eq_false hc)
    refine ev_pu (st' := [.inl 0]) (pc' := 8) rfl rfl rfl rfl ?_
    refine ev_br (pc' := 20) (st' := [.inl 0]) rfl rfl rfl ?_
    exact ev_pick [0] rfl rfl h
set_option maxRecDepth 10000 in
theorem b107_20 {t0 : Int} {M : ev_M} {Q : Int → ev_M → Prop}
    (h : (t0 ≤ 3 → (c107_50 t0 M Q)) ∧ (¬ (t0 ≤ 3) → (((sM_to M) ≤ (sM_three M) → (c107_50 t0 M Q)) ∧ (¬ ((sM_to M) ≤ (sM_three M)) → (tm_iI ((sM_three M) + 1) ∧ (c107_186 (ev_sS M 24 ((sM_three M) + 1)) Q)))))) : c107_20 t0 M Q := by
  unfold c107_20
  refine ev_lo (lo' := [(1, .inl t0), (0, .inr (.inr (some 30)))]) (st' := []) (pc' := 21) rfl rfl rfl rfl ?_
  refine ev_lo (lo' := [(1, .inl t0), (0, .inr (.inr (some 30)))]) (st' := [.inl t0]) (pc' := 22) rfl rfl rfl rfl ?_
  refine ev_pu (st' := [.inl 3, .inl t0]) (pc' := 23) rfl rfl rfl rfl ?_
  refine ev_icmp (pc' := 50) (pc2 := 26) rfl (by decide) rfl rfl (fun hc => ?_) (fun hc => ?_)
  · replace h := h.1 (of_decide_eq_true hc)
    exact ev_pick [0, 1] rfl rfl h
  · replace h := h.2 (of_decide_eq_false hc)
    refine ev_lo (lo' := [(1, .inl t0), (0, .inr (.inr (some 30)))]) (st' := [.inr (.inr (some 30))]) (pc' := 27) rfl rfl rfl rfl ?_
    refine ev_get (v := .inl (sM_three M)) (pc' := 30) rfl rfl rfl rfl ?_
    refine ev_lo (lo' := [(1, .inl t0), (0, .inr (.inr (some 30)))]) (st' := [.inr (.inr (some 30)), .inl (sM_three M)]) (pc' := 31) rfl rfl rfl rfl ?_
    refine ev_get (v := .inl (sM_to M)) (pc' := 34) rfl rfl rfl rfl ?_
    refine ev_icmp (pc' := 50) (pc2 := 37) rfl (by decide) rfl rfl (fun hc => ?_) (fun hc => ?_)
    · replace h := h.1 (of_decide_eq_true hc)
      exact ev_pick [0, 1] rfl rfl h
    · replace h := h.2 (of_decide_eq_false hc)
      refine ev_lo (lo' := [(1, .inl t0), (0, .inr (.inr (some 30)))]) (st' := [.inr (.inr (some 30))]) (pc' := 38) rfl rfl rfl rfl ?_
      refine ev_lo (lo' := [(1, .inl t0), (0, .inr (.inr (some 30)))]) (st' := [.inr (.inr (some 30)), .inr (.inr (some 30))]) (pc' := 39) rfl rfl rfl rfl ?_
      refine ev_get (v := .inl (sM_three M)) (pc' := 42) rfl rfl rfl rfl ?_
      refine ev_pu (st' := [.inl 1, .inl (sM_three M), .inr (.inr (some 30))]) (pc' := 43) rfl rfl rfl rfl ?_
      obtain ⟨hs, h⟩ := h
      refine ev_ii (f := fun a b => a + b) (pc' := 44) rfl rfl (fun _ => rfl) (tm_add hs) rfl ?_
      refine ev_put (M' := ev_sS M 24 ((sM_three M) + 1)) (pc' := 47) rfl rfl (Nat.le_of_ble_eq_true rfl) rfl (hp_s24 _ _) rfl ?_
      refine ev_br (pc' := 186) (st' := []) rfl rfl rfl ?_
      exact ev_pick [] rfl rfl h
set_option maxRecDepth 10000 in
theorem b107_50 {x1 : Int} {M : ev_M} {Q : Int → ev_M → Prop}
    (h : (x1 ≤ 2 → (c107_84 x1 M Q)) ∧ (¬ (x1 ≤ 2) → (((sM_to M) ≤ (sM_two M) → (c107_84 x1 M Q)) ∧ (¬ ((sM_to M) ≤ (sM_two M)) → (tm_iI ((sM_two M) + 1) ∧ (m106 2 (ev_sS M 23 ((sM_two M) + 1)) (fun M1 => c107_186 M1 Q))))))) : c107_50 x1 M Q := by
  unfold c107_50
  refine ev_lo (lo' := [(0, .inr (.inr (some 30))), (1, .inl x1)]) (st' := [.inl x1]) (pc' := 51) rfl rfl rfl rfl ?_
  refine ev_pu (st' := [.inl 2, .inl x1]) (pc' := 52) rfl rfl rfl rfl ?_
  refine ev_icmp (pc' := 84) (pc2 := 55) rfl (by decide) rfl rfl (fun hc => ?_) (fun hc => ?_)
  · replace h := h.1 (of_decide_eq_true hc)
    exact ev_pick [0, 1] rfl rfl h
  · replace h := h.2 (of_decide_eq_false hc)
    refine ev_lo (lo' := [(0, .inr (.inr (some 30))), (1, .inl x1)]) (st' := [.inr (.inr (some 30))]) (pc' := 56) rfl rfl rfl rfl ?_
    refine ev_get (v := .inl (sM_two M)) (pc' := 59) rfl rfl rfl rfl ?_
    refine ev_lo (lo' := [(0, .inr (.inr (some 30))), (1, .inl x1)]) (st' := [.inr (.inr (some 30)), .inl (sM_two M)]) (pc' := 60) rfl rfl rfl rfl ?_
    refine ev_get (v := .inl (sM_to M)) (pc' := 63) rfl rfl rfl rfl ?_
    refine ev_icmp (pc' := 84) (pc2 := 66) rfl (by decide) rfl rfl (fun hc => ?_) (fun hc => ?_)
    · replace h := h.1 (of_decide_eq_true hc)
      exact ev_pick [0, 1] rfl rfl h
    · replace h := h.2 (of_decide_eq_false hc)
      refine ev_lo (lo' := [(0, .inr (.inr (some 30))), (1, .inl x1)]) (st' := [.inr (.inr (some 30))]) (pc' := 67) rfl rfl rfl rfl ?_
      refine ev_lo (lo' := [(0, .inr (.inr (some 30))), (1, .inl x1)]) (st' := [.inr (.inr (some 30)), .inr (.inr (some 30))]) (pc' := 68) rfl rfl rfl rfl ?_
      refine ev_get (v := .inl (sM_two M)) (pc' := 71) rfl rfl rfl rfl ?_
      refine ev_pu (st' := [.inl 1, .inl (sM_two M), .inr (.inr (some 30))]) (pc' := 72) rfl rfl rfl rfl ?_
      obtain ⟨hs, h⟩ := h
      refine ev_ii (f := fun a b => a + b) (pc' := 73) rfl rfl (fun _ => rfl) (tm_add hs) rfl ?_
      refine ev_put (M' := ev_sS M 23 ((sM_two M) + 1)) (pc' := 76) rfl rfl (Nat.le_of_ble_eq_true rfl) rfl (hp_s23 _ _) rfl ?_
      refine ev_lo (lo' := [(0, .inr (.inr (some 30))), (1, .inl x1)]) (st' := [.inr (.inr (some 30))]) (pc' := 77) rfl rfl rfl rfl ?_
      refine ev_pu (st' := [.inl 2, .inr (.inr (some 30))]) (pc' := 78) rfl rfl rfl rfl ?_
      refine ev_call (as := [.inr (.inr (some 30)), .inl 2]) (r := []) (pc' := 81) rfl rfl (Nat.le_of_ble_eq_true rfl) (Nat.le_of_ble_eq_true rfl) ⟨rfl, rfl⟩ (Nat.le_of_ble_eq_true rfl) rfl rfl rfl rfl ?_
      refine ev.post h (fun v M1 h => ?_)
      obtain ⟨rfl, h⟩ := h
      show ev 107 81 [(0, .inr (.inr (some 30))), (1, .inl x1)] [] M1 _
      refine ev_br (pc' := 186) (st' := []) rfl rfl rfl ?_
      exact ev_pick [] rfl rfl h
set_option maxRecDepth 10000 in
theorem b107_84 {x1 : Int} {M : ev_M} {Q : Int → ev_M → Prop}
    (h : (x1 ≤ 1 → (c107_118 M Q)) ∧ (¬ (x1 ≤ 1) → (((sM_to M) ≤ (sM_one M) → (c107_118 M Q)) ∧ (¬ ((sM_to M) ≤ (sM_one M)) → (tm_iI ((sM_one M) + 1) ∧ (m106 1 (ev_sS M 22 ((sM_one M) + 1)) (fun M1 => c107_186 M1 Q))))))) : c107_84 x1 M Q := by
  unfold c107_84
  refine ev_lo (lo' := [(0, .inr (.inr (some 30))), (1, .inl x1)]) (st' := [.inl x1]) (pc' := 85) rfl rfl rfl rfl ?_
  refine ev_pu (st' := [.inl 1, .inl x1]) (pc' := 86) rfl rfl rfl rfl ?_
  refine ev_icmp (pc' := 118) (pc2 := 89) rfl (by decide) rfl rfl (fun hc => ?_) (fun hc => ?_)
  · replace h := h.1 (of_decide_eq_true hc)
    exact ev_pick [0] rfl rfl h
  · replace h := h.2 (of_decide_eq_false hc)
    refine ev_lo (lo' := [(0, .inr (.inr (some 30))), (1, .inl x1)]) (st' := [.inr (.inr (some 30))]) (pc' := 90) rfl rfl rfl rfl ?_
    refine ev_get (v := .inl (sM_one M)) (pc' := 93) rfl rfl rfl rfl ?_
    refine ev_lo (lo' := [(0, .inr (.inr (some 30))), (1, .inl x1)]) (st' := [.inr (.inr (some 30)), .inl (sM_one M)]) (pc' := 94) rfl rfl rfl rfl ?_
    refine ev_get (v := .inl (sM_to M)) (pc' := 97) rfl rfl rfl rfl ?_
    refine ev_icmp (pc' := 118) (pc2 := 100) rfl (by decide) rfl rfl (fun hc => ?_) (fun hc => ?_)
    · replace h := h.1 (of_decide_eq_true hc)
      exact ev_pick [0] rfl rfl h
    · replace h := h.2 (of_decide_eq_false hc)
      refine ev_lo (lo' := [(0, .inr (.inr (some 30))), (1, .inl x1)]) (st' := [.inr (.inr (some 30))]) (pc' := 101) rfl rfl rfl rfl ?_
      refine ev_lo (lo' := [(0, .inr (.inr (some 30))), (1, .inl x1)]) (st' := [.inr (.inr (some 30)), .inr (.inr (some 30))]) (pc' := 102) rfl rfl rfl rfl ?_
      refine ev_get (v := .inl (sM_one M)) (pc' := 105) rfl rfl rfl rfl ?_
      refine ev_pu (st' := [.inl 1, .inl (sM_one M), .inr (.inr (some 30))]) (pc' := 106) rfl rfl rfl rfl ?_
      obtain ⟨hs, h⟩ := h
      refine ev_ii (f := fun a b => a + b) (pc' := 107) rfl rfl (fun _ => rfl) (tm_add hs) rfl ?_
      refine ev_put (M' := ev_sS M 22 ((sM_one M) + 1)) (pc' := 110) rfl rfl (Nat.le_of_ble_eq_true rfl) rfl (hp_s22 _ _) rfl ?_
      refine ev_lo (lo' := [(0, .inr (.inr (some 30))), (1, .inl x1)]) (st' := [.inr (.inr (some 30))]) (pc' := 111) rfl rfl rfl rfl ?_
      refine ev_pu (st' := [.inl 1, .inr (.inr (some 30))]) (pc' := 112) rfl rfl rfl rfl ?_
      refine ev_call (as := [.inr (.inr (some 30)), .inl 1]) (r := []) (pc' := 115) rfl rfl (Nat.le_of_ble_eq_true rfl) (Nat.le_of_ble_eq_true rfl) ⟨rfl, rfl⟩ (Nat.le_of_ble_eq_true rfl) rfl rfl rfl rfl ?_
      refine ev.post h (fun v M1 h => ?_)
      obtain ⟨rfl, h⟩ := h
      show ev 107 115 [(0, .inr (.inr (some 30))), (1, .inl x1)] [] M1 _
      refine ev_br (pc' := 186) (st' := []) rfl rfl rfl ?_
      exact ev_pick [] rfl rfl h
set_option maxRecDepth 10000 in
theorem b107_118 {M : ev_M} {Q : Int → ev_M → Prop}
    (h : tm_iI ((sM_rule M) + 1) ∧ (c107_128 (ev_sS M 21 ((sM_rule M) + 1)) Q)) : c107_118 M Q := by
  unfold c107_118
  refine ev_lo (lo' := [(0, .inr (.inr (some 30)))]) (st' := [.inr (.inr (some 30))]) (pc' := 119) rfl rfl rfl rfl ?_
  refine ev_lo (lo' := [(0, .inr (.inr (some 30)))]) (st' := [.inr (.inr (some 30)), .inr (.inr (some 30))]) (pc' := 120) rfl rfl rfl rfl ?_
  refine ev_get (v := .inl (sM_rule M)) (pc' := 123) rfl rfl rfl rfl ?_
  refine ev_pu (st' := [.inl 1, .inl (sM_rule M), .inr (.inr (some 30))]) (pc' := 124) rfl rfl rfl rfl ?_
  obtain ⟨hs, h⟩ := h
  refine ev_ii (f := fun a b => a + b) (pc' := 125) rfl rfl (fun _ => rfl) (tm_add hs) rfl ?_
  refine ev_put (M' := ev_sS M 21 ((sM_rule M) + 1)) (pc' := 128) rfl rfl (Nat.le_of_ble_eq_true rfl) rfl (hp_s21 _ _) rfl ?_
  exact ev_pick [0] rfl rfl h
set_option maxRecDepth 10000 in
theorem b107_128 {M : ev_M} {Q : Int → ev_M → Prop}
    (h : ((sM_rules M) ≤ (sM_rule M) → (c107_168 M Q)) ∧ (¬ ((sM_rules M) ≤ (sM_rule M)) → ((0 ≤ (sM_rule M) ∧ (sM_rule M) < 14) ∧ (((aM_left M (sM_rule M).toNat) = (sM_maker M) → (c107_168 M Q)) ∧ (¬ ((aM_left M (sM_rule M).toNat) = (sM_maker M)) → (tm_iI ((sM_rule M) + 1) ∧ (c107_128 (ev_sS M 21 ((sM_rule M) + 1)) Q))))))) : c107_128 M Q := by
  unfold c107_128
  refine ev_lo (lo' := [(0, .inr (.inr (some 30)))]) (st' := [.inr (.inr (some 30))]) (pc' := 129) rfl rfl rfl rfl ?_
  refine ev_get (v := .inl (sM_rule M)) (pc' := 132) rfl rfl rfl rfl ?_
  refine ev_lo (lo' := [(0, .inr (.inr (some 30)))]) (st' := [.inr (.inr (some 30)), .inl (sM_rule M)]) (pc' := 133) rfl rfl rfl rfl ?_
  refine ev_get (v := .inl (sM_rules M)) (pc' := 136) rfl rfl rfl rfl ?_
  refine ev_icmp (pc' := 168) (pc2 := 139) rfl (by decide) rfl rfl (fun hc => ?_) (fun hc => ?_)
  · replace h := h.1 (of_decide_eq_true hc)
    exact ev_pick [0] rfl rfl h
  · replace h := h.2 (of_decide_eq_false hc)
    refine ev_lo (lo' := [(0, .inr (.inr (some 30)))]) (st' := [.inr (.inr (some 30))]) (pc' := 140) rfl rfl rfl rfl ?_
    refine ev_get (v := .inr (.inr (some 31))) (pc' := 143) rfl rfl rfl rfl ?_
    refine ev_lo (lo' := [(0, .inr (.inr (some 30)))]) (st' := [.inr (.inr (some 30)), .inr (.inr (some 31))]) (pc' := 144) rfl rfl rfl rfl ?_
    refine ev_get (v := .inl (sM_rule M)) (pc' := 147) rfl rfl rfl rfl ?_
    obtain ⟨hs0, h⟩ := h
    refine ev_ald (t := 0) (n := 14) (f := aM_left M) (w := fun x => .inl x) (pc' := 148) rfl rfl (fun _ _ => rfl) rfl hs0 rfl ?_
    refine ev_lo (lo' := [(0, .inr (.inr (some 30)))]) (st' := [.inr (.inr (some 30)), .inl (aM_left M (sM_rule M).toNat)]) (pc' := 149) rfl rfl rfl rfl ?_
    refine ev_get (v := .inl (sM_maker M)) (pc' := 152) rfl rfl rfl rfl ?_
    refine ev_icmp (pc' := 168) (pc2 := 155) rfl (by decide) rfl rfl (fun hc => ?_) (fun hc => ?_)
    · replace h := h.1 (of_decide_eq_true hc)
      exact ev_pick [0] rfl rfl h
    · replace h := h.2 (of_decide_eq_false hc)
      refine ev_lo (lo' := [(0, .inr (.inr (some 30)))]) (st' := [.inr (.inr (some 30))]) (pc' := 156) rfl rfl rfl rfl ?_
      refine ev_lo (lo' := [(0, .inr (.inr (some 30)))]) (st' := [.inr (.inr (some 30)), .inr (.inr (some 30))]) (pc' := 157) rfl rfl rfl rfl ?_
      refine ev_get (v := .inl (sM_rule M)) (pc' := 160) rfl rfl rfl rfl ?_
      refine ev_pu (st' := [.inl 1, .inl (sM_rule M), .inr (.inr (some 30))]) (pc' := 161) rfl rfl rfl rfl ?_
      obtain ⟨hs, h⟩ := h
      refine ev_ii (f := fun a b => a + b) (pc' := 162) rfl rfl (fun _ => rfl) (tm_add hs) rfl ?_
      refine ev_put (M' := ev_sS M 21 ((sM_rule M) + 1)) (pc' := 165) rfl rfl (Nat.le_of_ble_eq_true rfl) rfl (hp_s21 _ _) rfl ?_
      refine ev_br (pc' := 128) (st' := []) rfl rfl rfl ?_
      exact ev_pick [0] rfl rfl h
set_option maxRecDepth 10000 in
theorem b107_168 {M : ev_M} {Q : Int → ev_M → Prop}
    (h : (¬ (sM_rule M) = (sM_rules M) → (m106 0 M (fun M1 => c107_186 M1 Q))) ∧ (¬ (¬ (sM_rule M) = (sM_rules M)) → (Q 0 M))) : c107_168 M Q := by
  unfold c107_168
  refine ev_lo (lo' := [(0, .inr (.inr (some 30)))]) (st' := [.inr (.inr (some 30))]) (pc' := 169) rfl rfl rfl rfl ?_
  refine ev_get (v := .inl (sM_rule M)) (pc' := 172) rfl rfl rfl rfl ?_
  refine ev_lo (lo' := [(0, .inr (.inr (some 30)))]) (st' := [.inr (.inr (some 30)), .inl (sM_rule M)]) (pc' := 173) rfl rfl rfl rfl ?_
  refine ev_get (v := .inl (sM_rules M)) (pc' := 176) rfl rfl rfl rfl ?_
  refine ev_icmp (pc' := 181) (pc2 := 179) rfl (by decide) rfl rfl (fun hc => ?_) (fun hc => ?_)
  · replace h := h.1 (of_decide_eq_true hc)
    refine ev_lo (lo' := [(0, .inr (.inr (some 30)))]) (st' := [.inr (.inr (some 30))]) (pc' := 182) rfl rfl rfl rfl ?_
    refine ev_pu (st' := [.inl 0, .inr (.inr (some 30))]) (pc' := 183) rfl rfl rfl rfl ?_
    refine ev_call (as := [.inr (.inr (some 30)), .inl 0]) (r := []) (pc' := 186) rfl rfl (Nat.le_of_ble_eq_true rfl) (Nat.le_of_ble_eq_true rfl) ⟨rfl, rfl⟩ (Nat.le_of_ble_eq_true rfl) rfl rfl rfl rfl ?_
    refine ev.post h (fun v M1 h => ?_)
    obtain ⟨rfl, h⟩ := h
    show ev 107 186 [(0, .inr (.inr (some 30)))] [] M1 _
    exact ev_pick [] rfl rfl h
  · replace h := h.2 (of_decide_eq_false hc)
    refine ev_pu (st' := [.inl 0]) (pc' := 180) rfl rfl rfl rfl ?_
    exact ev_rt rfl rfl rfl ⟨_, rfl, h⟩
set_option maxRecDepth 10000 in
theorem b107_186 {M : ev_M} {Q : Int → ev_M → Prop}
    (h : Q 1 M) : c107_186 M Q := by
  unfold c107_186
  refine ev_pu (st' := [.inl 1]) (pc' := 187) rfl rfl rfl rfl ?_
  exact ev_rt rfl rfl rfl ⟨_, rfl, h⟩
/-! NulledForestModel.partFrom(I)I -/
def m108 (x1 : Int) (M : ev_M) (Q : Int → ev_M → Prop) : Prop := ev 108 0 [(0, .inr (.inr (some 30))), (1, .inl x1)] [] M (fun v M1 => ∃ w : Int, v = some (.inl w) ∧ Q w M1)
def c108_39 (t0 : Int) (M : ev_M) (Q : Int → ev_M → Prop) : Prop := ev 108 39 [] [.inl t0] M (fun v M1 => ∃ w : Int, v = some (.inl w) ∧ Q w M1)
set_option maxRecDepth 10000 in
theorem b108 {x1 : Int} {M : ev_M} {Q : Int → ev_M → Prop}
    (h : (¬ x1 = 0 → ((¬ x1 = 1 → ((¬ x1 = 2 → (c108_39 (sM_three M) M Q)) ∧ (¬ (¬ x1 = 2) → (c108_39 (sM_two M) M Q)))) ∧ (¬ (¬ x1 = 1) → (c108_39 (sM_one M) M Q)))) ∧ (¬ (¬ x1 = 0) → (c108_39 (sM_from M) M Q))) : m108 x1 M Q := by
  unfold m108
  refine ev_lo (lo' := [(0, .inr (.inr (some 30))), (1, .inl x1)]) (st' := [.inl x1]) (pc' := 1) rfl rfl rfl rfl ?_
  refine ev_ifT (pc' := 11) (pc2 := 4) rfl (by decide) rfl rfl (fun hc => ?_) (fun hc => ?_)
  · replace h := h.1 (of_decide_eq_true hc)
    refine ev_lo (lo' := [(0, .inr (.inr (some 30))), (1, .inl x1)]) (st' := [.inl x1]) (pc' := 12) rfl rfl rfl rfl ?_
    refine ev_pu (st' := [.inl 1, .inl x1]) (pc' := 13) rfl rfl rfl rfl ?_
    refine ev_icmp (pc' := 23) (pc2 := 16) rfl (by decide) rfl rfl (fun hc => ?_) (fun hc => ?_)
    · replace h := h.1 (of_decide_eq_true hc)
      refine ev_lo (lo' := [(0, .inr (.inr (some 30))), (1, .inl x1)]) (st' := [.inl x1]) (pc' := 24) rfl rfl rfl rfl ?_
      refine ev_pu (st' := [.inl 2, .inl x1]) (pc' := 25) rfl rfl rfl rfl ?_
      refine ev_icmp (pc' := 35) (pc2 := 28) rfl (by decide) rfl rfl (fun hc => ?_) (fun hc => ?_)
      · replace h := h.1 (of_decide_eq_true hc)
        refine ev_lo (lo' := [(0, .inr (.inr (some 30))), (1, .inl x1)]) (st' := [.inr (.inr (some 30))]) (pc' := 36) rfl rfl rfl rfl ?_
        refine ev_get (v := .inl (sM_three M)) (pc' := 39) rfl rfl rfl rfl ?_
        exact ev_pick [] rfl rfl h
      · replace h := h.2 (of_decide_eq_false hc)
        refine ev_lo (lo' := [(0, .inr (.inr (some 30))), (1, .inl x1)]) (st' := [.inr (.inr (some 30))]) (pc' := 29) rfl rfl rfl rfl ?_
        refine ev_get (v := .inl (sM_two M)) (pc' := 32) rfl rfl rfl rfl ?_
        refine ev_br (pc' := 39) (st' := [.inl (sM_two M)]) rfl rfl rfl ?_
        exact ev_pick [] rfl rfl h
    · replace h := h.2 (of_decide_eq_false hc)
      refine ev_lo (lo' := [(0, .inr (.inr (some 30))), (1, .inl x1)]) (st' := [.inr (.inr (some 30))]) (pc' := 17) rfl rfl rfl rfl ?_
      refine ev_get (v := .inl (sM_one M)) (pc' := 20) rfl rfl rfl rfl ?_
      refine ev_br (pc' := 39) (st' := [.inl (sM_one M)]) rfl rfl rfl ?_
      exact ev_pick [] rfl rfl h
  · replace h := h.2 (of_decide_eq_false hc)
    refine ev_lo (lo' := [(0, .inr (.inr (some 30))), (1, .inl x1)]) (st' := [.inr (.inr (some 30))]) (pc' := 5) rfl rfl rfl rfl ?_
    refine ev_get (v := .inl (sM_from M)) (pc' := 8) rfl rfl rfl rfl ?_
    refine ev_br (pc' := 39) (st' := [.inl (sM_from M)]) rfl rfl rfl ?_
    exact ev_pick [] rfl rfl h
set_option maxRecDepth 10000 in
theorem b108_39 {t0 : Int} {M : ev_M} {Q : Int → ev_M → Prop}
    (h : Q t0 M) : c108_39 t0 M Q := by
  unfold c108_39
  exact ev_rt rfl rfl rfl ⟨_, rfl, h⟩
/-! NulledForestModel.partTo(I)I -/
def m109 (x1 : Int) (M : ev_M) (Q : Int → ev_M → Prop) : Prop := ev 109 0 [(0, .inr (.inr (some 30))), (1, .inl x1)] [] M (fun v M1 => ∃ w : Int, v = some (.inl w) ∧ Q w M1)
def c109_39 (t0 : Int) (M : ev_M) (Q : Int → ev_M → Prop) : Prop := ev 109 39 [] [.inl t0] M (fun v M1 => ∃ w : Int, v = some (.inl w) ∧ Q w M1)
set_option maxRecDepth 10000 in
theorem b109 {x1 : Int} {M : ev_M} {Q : Int → ev_M → Prop}
    (h : (¬ x1 = 0 → ((¬ x1 = 1 → ((¬ x1 = 2 → (c109_39 (sM_to M) M Q)) ∧ (¬ (¬ x1 = 2) → (c109_39 (sM_three M) M Q)))) ∧ (¬ (¬ x1 = 1) → (c109_39 (sM_two M) M Q)))) ∧ (¬ (¬ x1 = 0) → (c109_39 (sM_one M) M Q))) : m109 x1 M Q := by
  unfold m109
  refine ev_lo (lo' := [(0, .inr (.inr (some 30))), (1, .inl x1)]) (st' := [.inl x1]) (pc' := 1) rfl rfl rfl rfl ?_
  refine ev_ifT (pc' := 11) (pc2 := 4) rfl (by decide) rfl rfl (fun hc => ?_) (fun hc => ?_)
  · replace h := h.1 (of_decide_eq_true hc)
    refine ev_lo (lo' := [(0, .inr (.inr (some 30))), (1, .inl x1)]) (st' := [.inl x1]) (pc' := 12) rfl rfl rfl rfl ?_
    refine ev_pu (st' := [.inl 1, .inl x1]) (pc' := 13) rfl rfl rfl rfl ?_
    refine ev_icmp (pc' := 23) (pc2 := 16) rfl (by decide) rfl rfl (fun hc => ?_) (fun hc => ?_)
    · replace h := h.1 (of_decide_eq_true hc)
      refine ev_lo (lo' := [(0, .inr (.inr (some 30))), (1, .inl x1)]) (st' := [.inl x1]) (pc' := 24) rfl rfl rfl rfl ?_
      refine ev_pu (st' := [.inl 2, .inl x1]) (pc' := 25) rfl rfl rfl rfl ?_
      refine ev_icmp (pc' := 35) (pc2 := 28) rfl (by decide) rfl rfl (fun hc => ?_) (fun hc => ?_)
      · replace h := h.1 (of_decide_eq_true hc)
        refine ev_lo (lo' := [(0, .inr (.inr (some 30))), (1, .inl x1)]) (st' := [.inr (.inr (some 30))]) (pc' := 36) rfl rfl rfl rfl ?_
        refine ev_get (v := .inl (sM_to M)) (pc' := 39) rfl rfl rfl rfl ?_
        exact ev_pick [] rfl rfl h
      · replace h := h.2 (of_decide_eq_false hc)
        refine ev_lo (lo' := [(0, .inr (.inr (some 30))), (1, .inl x1)]) (st' := [.inr (.inr (some 30))]) (pc' := 29) rfl rfl rfl rfl ?_
        refine ev_get (v := .inl (sM_three M)) (pc' := 32) rfl rfl rfl rfl ?_
        refine ev_br (pc' := 39) (st' := [.inl (sM_three M)]) rfl rfl rfl ?_
        exact ev_pick [] rfl rfl h
    · replace h := h.2 (of_decide_eq_false hc)
      refine ev_lo (lo' := [(0, .inr (.inr (some 30))), (1, .inl x1)]) (st' := [.inr (.inr (some 30))]) (pc' := 17) rfl rfl rfl rfl ?_
      refine ev_get (v := .inl (sM_two M)) (pc' := 20) rfl rfl rfl rfl ?_
      refine ev_br (pc' := 39) (st' := [.inl (sM_two M)]) rfl rfl rfl ?_
      exact ev_pick [] rfl rfl h
  · replace h := h.2 (of_decide_eq_false hc)
    refine ev_lo (lo' := [(0, .inr (.inr (some 30))), (1, .inl x1)]) (st' := [.inr (.inr (some 30))]) (pc' := 5) rfl rfl rfl rfl ?_
    refine ev_get (v := .inl (sM_one M)) (pc' := 8) rfl rfl rfl rfl ?_
    refine ev_br (pc' := 39) (st' := [.inl (sM_one M)]) rfl rfl rfl ?_
    exact ev_pick [] rfl rfl h
set_option maxRecDepth 10000 in
theorem b109_39 {t0 : Int} {M : ev_M} {Q : Int → ev_M → Prop}
    (h : Q t0 M) : c109_39 t0 M Q := by
  unfold c109_39
  exact ev_rt rfl rfl rfl ⟨_, rfl, h⟩
/-! NulledForestModel.isFamily()Z -/
def m110 (M : ev_M) (Q : Int → ev_M → Prop) : Prop := ev 110 0 [(0, .inr (.inr (some 30)))] [] M (fun v M1 => ∃ w : Int, v = some (.inl w) ∧ Q w M1)
def c110_23 (M : ev_M) (Q : Int → ev_M → Prop) : Prop := ev 110 23 [(0, .inr (.inr (some 30)))] [] M (fun v M1 => ∃ w : Int, v = some (.inl w) ∧ Q w M1)
def c110_28 (t0 : Int) (M : ev_M) (Q : Int → ev_M → Prop) : Prop := ev 110 28 [(0, .inr (.inr (some 30)))] [.inl t0] M (fun v M1 => ∃ w : Int, v = some (.inl w) ∧ Q w M1)
def c110_31 (x1 x2 : Int) (M : ev_M) (Q : Int → ev_M → Prop) : Prop := ev 110 31 [(0, .inr (.inr (some 30))), (1, .inl x1), (2, .inl x2)] [] M (fun v M1 => ∃ w : Int, v = some (.inl w) ∧ Q w M1)
def c110_82 (x2 : Int) (M : ev_M) (Q : Int → ev_M → Prop) : Prop := ev 110 82 [(0, .inr (.inr (some 30))), (2, .inl x2)] [] M (fun v M1 => ∃ w : Int, v = some (.inl w) ∧ Q w M1)
def c110_83 (x2 t0 : Int) (M : ev_M) (Q : Int → ev_M → Prop) : Prop := ev 110 83 [(0, .inr (.inr (some 30))), (2, .inl x2)] [.inl t0] M (fun v M1 => ∃ w : Int, v = some (.inl w) ∧ Q w M1)
set_option maxRecDepth 10000 in
theorem b110 {M : ev_M} {Q : Int → ev_M → Prop}
    (h : (0 ≤ (sM_rule M) ∧ (sM_rule M) < 14) ∧ ((0 < (aM_sizes M (sM_rule M).toNat) → (c110_23 M Q)) ∧ (¬ (0 < (aM_sizes M (sM_rule M).toNat)) → ((¬ (sM_from M) = (sM_to M) → (c110_28 0 M Q)) ∧ (¬ (¬ (sM_from M) = (sM_to M)) → (c110_23 M Q)))))) : m110 M Q := by
  unfold m110
  refine ev_lo (lo' := [(0, .inr (.inr (some 30)))]) (st' := [.inr (.inr (some 30))]) (pc' := 1) rfl rfl rfl rfl ?_
  refine ev_get (v := .inr (.inr (some 32))) (pc' := 4) rfl rfl rfl rfl ?_
  refine ev_lo (lo' := [(0, .inr (.inr (some 30)))]) (st' := [.inr (.inr (some 30)), .inr (.inr (some 32))]) (pc' := 5) rfl rfl rfl rfl ?_
  refine ev_get (v := .inl (sM_rule M)) (pc' := 8) rfl rfl rfl rfl ?_
  obtain ⟨hs0, h⟩ := h
  refine ev_ald (t := 0) (n := 14) (f := aM_sizes M) (w := fun x => .inl x) (pc' := 9) rfl rfl (fun _ _ => rfl) rfl hs0 rfl ?_
  refine ev_ifT (pc' := 23) (pc2 := 12) rfl (by decide) rfl rfl (fun hc => ?_) (fun hc => ?_)
  · replace h := h.1 (of_decide_eq_true hc)
    exact ev_pick [0] rfl rfl h
  · replace h := h.2 (of_decide_eq_false hc)
    refine ev_lo (lo' := [(0, .inr (.inr (some 30)))]) (st' := [.inr (.inr (some 30))]) (pc' := 13) rfl rfl rfl rfl ?_
    refine ev_get (v := .inl (sM_from M)) (pc' := 16) rfl rfl rfl rfl ?_
    refine ev_lo (lo' := [(0, .inr (.inr (some 30)))]) (st' := [.inr (.inr (some 30)), .inl (sM_from M)]) (pc' := 17) rfl rfl rfl rfl ?_
    refine ev_get (v := .inl (sM_to M)) (pc' := 20) rfl rfl rfl rfl ?_
    refine ev_icmp (pc' := 27) (pc2 := 23) rfl (by decide) rfl rfl (fun hc => ?_) (fun hc => ?_)
    · replace h := h.1 (of_decide_eq_true hc)
      refine ev_pu (st' := [.inl 0]) (pc' := 28) rfl rfl rfl rfl ?_
      exact ev_pick [0] rfl rfl h
    · replace h := h.2 (of_decide_eq_false hc)
      exact ev_pick [0] rfl rfl h
set_option maxRecDepth 10000 in
theorem b110_23 {M : ev_M} {Q : Int → ev_M → Prop}
    (h : c110_28 1 M Q) : c110_23 M Q := by
  unfold c110_23
  refine ev_pu (st' := [.inl 1]) (pc' := 24) rfl rfl rfl rfl ?_
  refine ev_br (pc' := 28) (st' := [.inl 1]) rfl rfl rfl ?_
  exact ev_pick [0] rfl rfl h
set_option maxRecDepth 10000 in
theorem b110_28 {t0 : Int} {M : ev_M} {Q : Int → ev_M → Prop}
    (h : c110_31 t0 0 M Q) : c110_28 t0 M Q := by
  unfold c110_28
  refine ev_lo (lo' := [(1, .inl t0), (0, .inr (.inr (some 30)))]) (st' := []) (pc' := 29) rfl rfl rfl rfl ?_
  refine ev_pu (st' := [.inl 0]) (pc' := 30) rfl rfl rfl rfl ?_
  refine ev_lo (lo' := [(2, .inl 0), (1, .inl t0), (0, .inr (.inr (some 30)))]) (st' := []) (pc' := 31) rfl rfl rfl rfl ?_
  exact ev_pick [0, 1, 2] rfl rfl h
set_option maxRecDepth 10000 in
theorem b110_31 {x1 x2 : Int} {M : ev_M} {Q : Int → ev_M → Prop}
    (h : (0 ≤ (sM_rule M) ∧ (sM_rule M) < 14) ∧ (((aM_sizes M (sM_rule M).toNat) ≤ x2 → ((x1 = 0 ∨ x1 = 1) ∧ Q x1 M)) ∧ (¬ ((aM_sizes M (sM_rule M).toNat) ≤ x2) → ((x1 = 0 → (c110_82 x2 M Q)) ∧ (¬ (x1 = 0) → (tm_iI (4 * (sM_rule M)) ∧ (tm_iI ((4 * (sM_rule M)) + x2) ∧ ((0 ≤ ((4 * (sM_rule M)) + x2) ∧ ((4 * (sM_rule M)) + x2) < 56) ∧ (m108 x2 M (fun w1 M1 => m109 x2 M1 (fun w2 M2 => m101 (aM_right M ((4 * (sM_rule M)) + x2).toNat) w1 w2 M2 (fun w3 M3 => (w3 = 0 → (c110_82 x2 M3 Q)) ∧ (¬ (w3 = 0) → (c110_83 x2 1 M3 Q)))))))))))))) : c110_31 x1 x2 M Q := by
  unfold c110_31
  refine ev_lo (lo' := [(0, .inr (.inr (some 30))), (1, .inl x1), (2, .inl x2)]) (st' := [.inl x2]) (pc' := 32) rfl rfl rfl rfl ?_
  refine ev_lo (lo' := [(0, .inr (.inr (some 30))), (1, .inl x1), (2, .inl x2)]) (st' := [.inr (.inr (some 30)), .inl x2]) (pc' := 33) rfl rfl rfl rfl ?_
  refine ev_get (v := .inr (.inr (some 32))) (pc' := 36) rfl rfl rfl rfl ?_
  refine ev_lo (lo' := [(0, .inr (.inr (some 30))), (1, .inl x1), (2, .inl x2)]) (st' := [.inr (.inr (some 30)), .inr (.inr (some 32)), .inl x2]) (pc' := 37) rfl rfl rfl rfl ?_
  refine ev_get (v := .inl (sM_rule M)) (pc' := 40) rfl rfl rfl rfl ?_
  obtain ⟨hs0, h⟩ := h
  refine ev_ald (t := 0) (n := 14) (f := aM_sizes M) (w := fun x => .inl x) (pc' := 41) rfl rfl (fun _ _ => rfl) rfl hs0 rfl ?_
  refine ev_icmp (pc' := 90) (pc2 := 44) rfl (by decide) rfl rfl (fun hc => ?_) (fun hc => ?_)
  · replace h := h.1 (of_decide_eq_true hc)
    refine ev_lo (lo' := [(0, .inr (.inr (some 30))), (1, .inl x1), (2, .inl x2)]) (st' := [.inl x1]) (pc' := 91) rfl rfl rfl rfl ?_
    obtain ⟨hs, h⟩ := h
    exact ev_rtZ rfl rfl hs ⟨_, rfl, h⟩
  · replace h := h.2 (of_decide_eq_false hc)
    refine ev_lo (lo' := [(0, .inr (.inr (some 30))), (1, .inl x1), (2, .inl x2)]) (st' := [.inl x1]) (pc' := 45) rfl rfl rfl rfl ?_
    refine ev_ifT (pc' := 82) (pc2 := 48) rfl (by decide) rfl rfl (fun hc => ?_) (fun hc => ?_)
    · replace h := h.1 (of_decide_eq_true hc)
      exact ev_pick [0, 2] rfl rfl h
    · replace h := h.2 (of_decide_eq_false hc)
      refine ev_lo (lo' := [(0, .inr (.inr (some 30))), (1, .inl x1), (2, .inl x2)]) (st' := [.inr (.inr (some 30))]) (pc' := 49) rfl rfl rfl rfl ?_
      refine ev_lo (lo' := [(0, .inr (.inr (some 30))), (1, .inl x1), (2, .inl x2)]) (st' := [.inr (.inr (some 30)), .inr (.inr (some 30))]) (pc' := 50) rfl rfl rfl rfl ?_
      refine ev_get (v := .inr (.inr (some 33))) (pc' := 53) rfl rfl rfl rfl ?_
      refine ev_pu (st' := [.inl 4, .inr (.inr (some 33)), .inr (.inr (some 30))]) (pc' := 54) rfl rfl rfl rfl ?_
      refine ev_lo (lo' := [(0, .inr (.inr (some 30))), (1, .inl x1), (2, .inl x2)]) (st' := [.inr (.inr (some 30)), .inl 4, .inr (.inr (some 33)), .inr (.inr (some 30))]) (pc' := 55) rfl rfl rfl rfl ?_
      refine ev_get (v := .inl (sM_rule M)) (pc' := 58) rfl rfl rfl rfl ?_
      obtain ⟨hs, h⟩ := h
      refine ev_ii (f := fun a b => a * b) (pc' := 59) rfl rfl (fun _ => rfl) (tm_mul hs) rfl ?_
      refine ev_lo (lo' := [(0, .inr (.inr (some 30))), (1, .inl x1), (2, .inl x2)]) (st' := [.inl x2, .inl (4 * (sM_rule M)), .inr (.inr (some 33)), .inr (.inr (some 30))]) (pc' := 60) rfl rfl rfl rfl ?_
      obtain ⟨hs, h⟩ := h
      refine ev_ii (f := fun a b => a + b) (pc' := 61) rfl rfl (fun _ => rfl) (tm_add hs) rfl ?_
      obtain ⟨hs0, h⟩ := h
      refine ev_ald (t := 0) (n := 56) (f := aM_right M) (w := fun x => .inl x) (pc' := 62) rfl rfl (fun _ _ => rfl) rfl hs0 rfl ?_
      refine ev_lo (lo' := [(0, .inr (.inr (some 30))), (1, .inl x1), (2, .inl x2)]) (st' := [.inr (.inr (some 30)), .inl (aM_right M ((4 * (sM_rule M)) + x2).toNat), .inr (.inr (some 30))]) (pc' := 63) rfl rfl rfl rfl ?_
      refine ev_lo (lo' := [(0, .inr (.inr (some 30))), (1, .inl x1), (2, .inl x2)]) (st' := [.inl x2, .inr (.inr (some 30)), .inl (aM_right M ((4 * (sM_rule M)) + x2).toNat), .inr (.inr (some 30))]) (pc' := 64) rfl rfl rfl rfl ?_
      refine ev_call (as := [.inr (.inr (some 30)), .inl x2]) (r := [.inl (aM_right M ((4 * (sM_rule M)) + x2).toNat), .inr (.inr (some 30))]) (pc' := 67) rfl rfl (Nat.le_of_ble_eq_true rfl) (Nat.le_of_ble_eq_true rfl) ⟨rfl, rfl⟩ (Nat.le_of_ble_eq_true rfl) rfl rfl rfl rfl ?_
      refine ev.post h (fun v M1 h => ?_)
      obtain ⟨w1, rfl, h⟩ := h
      show ev 110 67 [(0, .inr (.inr (some 30))), (1, .inl x1), (2, .inl x2)] [.inl w1, .inl (aM_right M ((4 * (sM_rule M)) + x2).toNat), .inr (.inr (some 30))] M1 _
      refine ev_lo (lo' := [(0, .inr (.inr (some 30))), (1, .inl x1), (2, .inl x2)]) (st' := [.inr (.inr (some 30)), .inl w1, .inl (aM_right M ((4 * (sM_rule M)) + x2).toNat), .inr (.inr (some 30))]) (pc' := 68) rfl rfl rfl rfl ?_
      refine ev_lo (lo' := [(0, .inr (.inr (some 30))), (1, .inl x1), (2, .inl x2)]) (st' := [.inl x2, .inr (.inr (some 30)), .inl w1, .inl (aM_right M ((4 * (sM_rule M)) + x2).toNat), .inr (.inr (some 30))]) (pc' := 69) rfl rfl rfl rfl ?_
      refine ev_call (as := [.inr (.inr (some 30)), .inl x2]) (r := [.inl w1, .inl (aM_right M ((4 * (sM_rule M)) + x2).toNat), .inr (.inr (some 30))]) (pc' := 72) rfl rfl (Nat.le_of_ble_eq_true rfl) (Nat.le_of_ble_eq_true rfl) ⟨rfl, rfl⟩ (Nat.le_of_ble_eq_true rfl) rfl rfl rfl rfl ?_
      refine ev.post h (fun v M2 h => ?_)
      obtain ⟨w2, rfl, h⟩ := h
      show ev 110 72 [(0, .inr (.inr (some 30))), (1, .inl x1), (2, .inl x2)] [.inl w2, .inl w1, .inl (aM_right M ((4 * (sM_rule M)) + x2).toNat), .inr (.inr (some 30))] M2 _
      refine ev_call (as := [.inr (.inr (some 30)), .inl (aM_right M ((4 * (sM_rule M)) + x2).toNat), .inl w1, .inl w2]) (r := []) (pc' := 75) rfl rfl (Nat.le_of_ble_eq_true rfl) (Nat.le_of_ble_eq_true rfl) ⟨rfl, rfl⟩ (Nat.le_of_ble_eq_true rfl) rfl rfl rfl rfl ?_
      refine ev.post h (fun v M3 h => ?_)
      obtain ⟨w3, rfl, h⟩ := h
      show ev 110 75 [(0, .inr (.inr (some 30))), (1, .inl x1), (2, .inl x2)] [.inl w3] M3 _
      refine ev_ifT (pc' := 82) (pc2 := 78) rfl (by decide) rfl rfl (fun hc => ?_) (fun hc => ?_)
      · replace h := h.1 (of_decide_eq_true hc)
        exact ev_pick [0, 2] rfl rfl h
      · replace h := h.2 (of_decide_eq_false hc)
        refine ev_pu (st' := [.inl 1]) (pc' := 79) rfl rfl rfl rfl ?_
        refine ev_br (pc' := 83) (st' := [.inl 1]) rfl rfl rfl ?_
        exact ev_pick [0, 2] rfl rfl h
set_option maxRecDepth 10000 in
theorem b110_82 {x2 : Int} {M : ev_M} {Q : Int → ev_M → Prop}
    (h : c110_83 x2 0 M Q) : c110_82 x2 M Q := by
  unfold c110_82
  refine ev_pu (st' := [.inl 0]) (pc' := 83) rfl rfl rfl rfl ?_
  exact ev_pick [0, 2] rfl rfl h
set_option maxRecDepth 10000 in
theorem b110_83 {x2 t0 : Int} {M : ev_M} {Q : Int → ev_M → Prop}
    (h : tm_iI (x2 + 1) ∧ (c110_31 t0 (x2 + 1) M Q)) : c110_83 x2 t0 M Q := by
  unfold c110_83
  refine ev_lo (lo' := [(1, .inl t0), (0, .inr (.inr (some 30))), (2, .inl x2)]) (st' := []) (pc' := 84) rfl rfl rfl rfl ?_
  obtain ⟨hs, h⟩ := h
  refine ev_iinc (lo' := [(2, .inl (x2 + 1)), (1, .inl t0), (0, .inr (.inr (some 30)))]) (pc' := 87) rfl rfl (by decide) (tm_add hs) rfl rfl ?_
  refine ev_br (pc' := 31) (st' := []) rfl rfl rfl ?_
  exact ev_pick [0, 1, 2] rfl rfl h
/-! NulledForestModel.nextFamily()Z -/
def m111 (M : ev_M) (Q : Int → ev_M → Prop) : Prop := ev 111 0 [(0, .inr (.inr (some 30)))] [] M (fun v M1 => ∃ w : Int, v = some (.inl w) ∧ Q w M1)
def c111_5 (x1 : Int) (M : ev_M) (Q : Int → ev_M → Prop) : Prop := ev 111 5 [(0, .inr (.inr (some 30))), (1, .inl x1)] [] M (fun v M1 => ∃ w : Int, v = some (.inl w) ∧ Q w M1)
def c111_24 (x1 : Int) (M : ev_M) (Q : Int → ev_M → Prop) : Prop := ev 111 24 [(1, .inl x1)] [] M (fun v M1 => ∃ w : Int, v = some (.inl w) ∧ Q w M1)
set_option maxRecDepth 10000 in
theorem b111 {M : ev_M} {Q : Int → ev_M → Prop}
    (h : m107 M (fun w1 M1 => c111_5 w1 M1 Q)) : m111 M Q := by
  unfold m111
  refine ev_lo (lo' := [(0, .inr (.inr (some 30)))]) (st' := [.inr (.inr (some 30))]) (pc' := 1) rfl rfl rfl rfl ?_
  refine ev_call (as := [.inr (.inr (some 30))]) (r := []) (pc' := 4) rfl rfl (Nat.le_of_ble_eq_true rfl) (Nat.le_of_ble_eq_true rfl) ⟨rfl, rfl⟩ (Nat.le_of_ble_eq_true rfl) rfl rfl rfl rfl ?_
  refine ev.post h (fun v M1 h => ?_)
  obtain ⟨w1, rfl, h⟩ := h
  show ev 111 4 [(0, .inr (.inr (some 30)))] [.inl w1] M1 _
  refine ev_lo (lo' := [(1, .inl w1), (0, .inr (.inr (some 30)))]) (st' := []) (pc' := 5) rfl rfl rfl rfl ?_
  exact ev_pick [0, 1] rfl rfl h
set_option maxRecDepth 10000 in
theorem b111_5 {x1 : Int} {M : ev_M} {Q : Int → ev_M → Prop}
    (h : (x1 = 0 → (c111_24 x1 M Q)) ∧ (¬ (x1 = 0) → (m110 M (fun w1 M1 => (¬ w1 = 0 → (c111_24 x1 M1 Q)) ∧ (¬ (¬ w1 = 0) → (m107 M1 (fun w2 M2 => c111_5 w2 M2 Q))))))) : c111_5 x1 M Q := by
  unfold c111_5
  refine ev_lo (lo' := [(0, .inr (.inr (some 30))), (1, .inl x1)]) (st' := [.inl x1]) (pc' := 6) rfl rfl rfl rfl ?_
  refine ev_ifT (pc' := 24) (pc2 := 9) rfl (by decide) rfl rfl (fun hc => ?_) (fun hc => ?_)
  · replace h := h.1 (of_decide_eq_true hc)
    exact ev_pick [1] rfl rfl h
  · replace h := h.2 (of_decide_eq_false hc)
    refine ev_lo (lo' := [(0, .inr (.inr (some 30))), (1, .inl x1)]) (st' := [.inr (.inr (some 30))]) (pc' := 10) rfl rfl rfl rfl ?_
    refine ev_call (as := [.inr (.inr (some 30))]) (r := []) (pc' := 13) rfl rfl (Nat.le_of_ble_eq_true rfl) (Nat.le_of_ble_eq_true rfl) ⟨rfl, rfl⟩ (Nat.le_of_ble_eq_true rfl) rfl rfl rfl rfl ?_
    refine ev.post h (fun v M1 h => ?_)
    obtain ⟨w1, rfl, h⟩ := h
    show ev 111 13 [(0, .inr (.inr (some 30))), (1, .inl x1)] [.inl w1] M1 _
    refine ev_ifT (pc' := 24) (pc2 := 16) rfl (by decide) rfl rfl (fun hc => ?_) (fun hc => ?_)
    · replace h := h.1 (of_decide_eq_true hc)
      exact ev_pick [1] rfl rfl h
    · replace h := h.2 (of_decide_eq_false hc)
      refine ev_lo (lo' := [(0, .inr (.inr (some 30))), (1, .inl x1)]) (st' := [.inr (.inr (some 30))]) (pc' := 17) rfl rfl rfl rfl ?_
      refine ev_call (as := [.inr (.inr (some 30))]) (r := []) (pc' := 20) rfl rfl (Nat.le_of_ble_eq_true rfl) (Nat.le_of_ble_eq_true rfl) ⟨rfl, rfl⟩ (Nat.le_of_ble_eq_true rfl) rfl rfl rfl rfl ?_
      refine ev.post h (fun v M2 h => ?_)
      obtain ⟨w2, rfl, h⟩ := h
      show ev 111 20 [(0, .inr (.inr (some 30))), (1, .inl x1)] [.inl w2] M2 _
      refine ev_lo (lo' := [(1, .inl w2), (0, .inr (.inr (some 30)))]) (st' := []) (pc' := 21) rfl rfl rfl rfl ?_
      refine ev_br (pc' := 5) (st' := []) rfl rfl rfl ?_
      exact ev_pick [0, 1] rfl rfl h
set_option maxRecDepth 10000 in
theorem b111_24 {x1 : Int} {M : ev_M} {Q : Int → ev_M → Prop}
    (h : (x1 = 0 ∨ x1 = 1) ∧ Q x1 M) : c111_24 x1 M Q := by
  unfold c111_24
  refine ev_lo (lo' := [(1, .inl x1)]) (st' := [.inl x1]) (pc' := 25) rfl rfl rfl rfl ?_
  obtain ⟨hs, h⟩ := h
  exact ev_rtZ rfl rfl hs ⟨_, rfl, h⟩
/-! NulledForestModel.firstFamily(I)Z -/
def m112 (x1 : Int) (M : ev_M) (Q : Int → ev_M → Prop) : Prop := ev 112 0 [(0, .inr (.inr (some 30))), (1, .inl x1)] [] M (fun v M1 => ∃ w : Int, v = some (.inl w) ∧ Q w M1)
set_option maxRecDepth 10000 in
theorem b112 {x1 : Int} {M : ev_M} {Q : Int → ev_M → Prop}
    (h : (0 ≤ x1 ∧ x1 < 2147483648) ∧ ((0 ≤ x1 ∧ x1 < 2147483648) ∧ ((0 ≤ (x1 / 11) ∧ (x1 / 11) < 2147483648) ∧ ((0 ≤ x1 ∧ x1 < 2147483648) ∧ (m111 (ev_sS (ev_sS (ev_sS (ev_sS M 18 (x1 / 121)) 19 ((x1 / 11) % 11)) 20 (x1 % 11)) 21 (-1)) (fun w1 M1 => (w1 = 0 ∨ w1 = 1) ∧ Q w1 M1)))))) : m112 x1 M Q := by
  unfold m112
  refine ev_lo (lo' := [(0, .inr (.inr (some 30))), (1, .inl x1)]) (st' := [.inr (.inr (some 30))]) (pc' := 1) rfl rfl rfl rfl ?_
  refine ev_lo (lo' := [(0, .inr (.inr (some 30))), (1, .inl x1)]) (st' := [.inl x1, .inr (.inr (some 30))]) (pc' := 2) rfl rfl rfl rfl ?_
  refine ev_pu (st' := [.inl 121, .inl x1, .inr (.inr (some 30))]) (pc' := 4) rfl rfl rfl rfl ?_
  obtain ⟨hs0, h⟩ := h
  refine ev_idiv (pc' := 5) rfl (by decide) (tm_div_eq hs0 (by decide)) rfl ?_
  refine ev_put (M' := ev_sS M 18 (x1 / 121)) (pc' := 8) rfl rfl (Nat.le_of_ble_eq_true rfl) rfl (hp_s18 _ _) rfl ?_
  refine ev_lo (lo' := [(0, .inr (.inr (some 30))), (1, .inl x1)]) (st' := [.inr (.inr (some 30))]) (pc' := 9) rfl rfl rfl rfl ?_
  refine ev_lo (lo' := [(0, .inr (.inr (some 30))), (1, .inl x1)]) (st' := [.inl x1, .inr (.inr (some 30))]) (pc' := 10) rfl rfl rfl rfl ?_
  refine ev_pu (st' := [.inl 11, .inl x1, .inr (.inr (some 30))]) (pc' := 12) rfl rfl rfl rfl ?_
  obtain ⟨hs0, h⟩ := h
  refine ev_idiv (pc' := 13) rfl (by decide) (tm_div_eq hs0 (by decide)) rfl ?_
  refine ev_pu (st' := [.inl 11, .inl (x1 / 11), .inr (.inr (some 30))]) (pc' := 15) rfl rfl rfl rfl ?_
  obtain ⟨hs0, h⟩ := h
  refine ev_irem (pc' := 16) rfl (by decide) (tm_rem_eq hs0 (by decide)) rfl ?_
  refine ev_put (M' := ev_sS (ev_sS M 18 (x1 / 121)) 19 ((x1 / 11) % 11)) (pc' := 19) rfl rfl (Nat.le_of_ble_eq_true rfl) rfl (hp_s19 _ _) rfl ?_
  refine ev_lo (lo' := [(0, .inr (.inr (some 30))), (1, .inl x1)]) (st' := [.inr (.inr (some 30))]) (pc' := 20) rfl rfl rfl rfl ?_
  refine ev_lo (lo' := [(0, .inr (.inr (some 30))), (1, .inl x1)]) (st' := [.inl x1, .inr (.inr (some 30))]) (pc' := 21) rfl rfl rfl rfl ?_
  refine ev_pu (st' := [.inl 11, .inl x1, .inr (.inr (some 30))]) (pc' := 23) rfl rfl rfl rfl ?_
  obtain ⟨hs0, h⟩ := h
  refine ev_irem (pc' := 24) rfl (by decide) (tm_rem_eq hs0 (by decide)) rfl ?_
  refine ev_put (M' := ev_sS (ev_sS (ev_sS M 18 (x1 / 121)) 19 ((x1 / 11) % 11)) 20 (x1 % 11)) (pc' := 27) rfl rfl (Nat.le_of_ble_eq_true rfl) rfl (hp_s20 _ _) rfl ?_
  refine ev_lo (lo' := [(0, .inr (.inr (some 30))), (1, .inl x1)]) (st' := [.inr (.inr (some 30))]) (pc' := 28) rfl rfl rfl rfl ?_
  refine ev_pu (st' := [.inl (-1), .inr (.inr (some 30))]) (pc' := 29) rfl rfl rfl rfl ?_
  refine ev_put (M' := ev_sS (ev_sS (ev_sS (ev_sS M 18 (x1 / 121)) 19 ((x1 / 11) % 11)) 20 (x1 % 11)) 21 (-1)) (pc' := 32) rfl rfl (Nat.le_of_ble_eq_true rfl) rfl (hp_s21 _ _) rfl ?_
  refine ev_lo (lo' := [(0, .inr (.inr (some 30))), (1, .inl x1)]) (st' := [.inr (.inr (some 30))]) (pc' := 33) rfl rfl rfl rfl ?_
  refine ev_call (as := [.inr (.inr (some 30))]) (r := []) (pc' := 36) rfl rfl (Nat.le_of_ble_eq_true rfl) (Nat.le_of_ble_eq_true rfl) ⟨rfl, rfl⟩ (Nat.le_of_ble_eq_true rfl) rfl rfl rfl rfl ?_
  refine ev.post h (fun v M1 h => ?_)
  obtain ⟨w1, rfl, h⟩ := h
  show ev 112 36 [(0, .inr (.inr (some 30))), (1, .inl x1)] [.inl w1] M1 _
  obtain ⟨hs, h⟩ := h
  exact ev_rtZ rfl rfl hs ⟨_, rfl, h⟩
/-! NulledForestModel.child(I)I -/
def m113 (x1 : Int) (M : ev_M) (Q : Int → ev_M → Prop) : Prop := ev 113 0 [(0, .inr (.inr (some 30))), (1, .inl x1)] [] M (fun v M1 => ∃ w : Int, v = some (.inl w) ∧ Q w M1)
def c113_42 (t0 : Int) (M : ev_M) (Q : Int → ev_M → Prop) : Prop := ev 113 42 [] [.inl t0] M (fun v M1 => ∃ w : Int, v = some (.inl w) ∧ Q w M1)
set_option maxRecDepth 10000 in
theorem b113 {x1 : Int} {M : ev_M} {Q : Int → ev_M → Prop}
    (h : tm_iI (4 * (sM_rule M)) ∧ (tm_iI ((4 * (sM_rule M)) + x1) ∧ ((0 ≤ ((4 * (sM_rule M)) + x1) ∧ ((4 * (sM_rule M)) + x1) < 56) ∧ (((aM_right M ((4 * (sM_rule M)) + x1).toNat) ≤ 5 → (tm_iI (121 * (aM_right M ((4 * (sM_rule M)) + x1).toNat)) ∧ (m108 x1 M (fun w1 M1 => tm_iI (11 * w1) ∧ (tm_iI ((121 * (aM_right M ((4 * (sM_rule M)) + x1).toNat)) + (11 * w1)) ∧ (m109 x1 M1 (fun w2 M2 => tm_iI (((121 * (aM_right M ((4 * (sM_rule M)) + x1).toNat)) + (11 * w1)) + w2) ∧ (c113_42 (((121 * (aM_right M ((4 * (sM_rule M)) + x1).toNat)) + (11 * w1)) + w2) M2 Q)))))))) ∧ (¬ ((aM_right M ((4 * (sM_rule M)) + x1).toNat) ≤ 5) → (c113_42 (-1) M Q)))))) : m113 x1 M Q := by
  unfold m113
  refine ev_lo (lo' := [(0, .inr (.inr (some 30))), (1, .inl x1)]) (st' := [.inr (.inr (some 30))]) (pc' := 1) rfl rfl rfl rfl ?_
  refine ev_get (v := .inr (.inr (some 33))) (pc' := 4) rfl rfl rfl rfl ?_
  refine ev_pu (st' := [.inl 4, .inr (.inr (some 33))]) (pc' := 5) rfl rfl rfl rfl ?_
  refine ev_lo (lo' := [(0, .inr (.inr (some 30))), (1, .inl x1)]) (st' := [.inr (.inr (some 30)), .inl 4, .inr (.inr (some 33))]) (pc' := 6) rfl rfl rfl rfl ?_
  refine ev_get (v := .inl (sM_rule M)) (pc' := 9) rfl rfl rfl rfl ?_
  obtain ⟨hs, h⟩ := h
  refine ev_ii (f := fun a b => a * b) (pc' := 10) rfl rfl (fun _ => rfl) (tm_mul hs) rfl ?_
  refine ev_lo (lo' := [(0, .inr (.inr (some 30))), (1, .inl x1)]) (st' := [.inl x1, .inl (4 * (sM_rule M)), .inr (.inr (some 33))]) (pc' := 11) rfl rfl rfl rfl ?_
  obtain ⟨hs, h⟩ := h
  refine ev_ii (f := fun a b => a + b) (pc' := 12) rfl rfl (fun _ => rfl) (tm_add hs) rfl ?_
  obtain ⟨hs0, h⟩ := h
  refine ev_ald (t := 0) (n := 56) (f := aM_right M) (w := fun x => .inl x) (pc' := 13) rfl rfl (fun _ _ => rfl) rfl hs0 rfl ?_
  refine ev_lo (lo' := [(2, .inl (aM_right M ((4 * (sM_rule M)) + x1).toNat)), (0, .inr (.inr (some 30))), (1, .inl x1)]) (st' := []) (pc' := 14) rfl rfl rfl rfl ?_
  refine ev_lo (lo' := [(2, .inl (aM_right M ((4 * (sM_rule M)) + x1).toNat)), (0, .inr (.inr (some 30))), (1, .inl x1)]) (st' := [.inl (aM_right M ((4 * (sM_rule M)) + x1).toNat)]) (pc' := 15) rfl rfl rfl rfl ?_
  refine ev_pu (st' := [.inl 5, .inl (aM_right M ((4 * (sM_rule M)) + x1).toNat)]) (pc' := 16) rfl rfl rfl rfl ?_
  refine ev_icmp (pc' := 23) (pc2 := 19) rfl (by decide) rfl rfl (fun hc => ?_) (fun hc => ?_)
  · replace h := h.1 (of_decide_eq_true hc)
    refine ev_pu (st' := [.inl 121]) (pc' := 25) rfl rfl rfl rfl ?_
    refine ev_lo (lo' := [(2, .inl (aM_right M ((4 * (sM_rule M)) + x1).toNat)), (0, .inr (.inr (some 30))), (1, .inl x1)]) (st' := [.inl (aM_right M ((4 * (sM_rule M)) + x1).toNat), .inl 121]) (pc' := 26) rfl rfl rfl rfl ?_
    obtain ⟨hs, h⟩ := h
    refine ev_ii (f := fun a b => a * b) (pc' := 27) rfl rfl (fun _ => rfl) (tm_mul hs) rfl ?_
    refine ev_pu (st' := [.inl 11, .inl (121 * (aM_right M ((4 * (sM_rule M)) + x1).toNat))]) (pc' := 29) rfl rfl rfl rfl ?_
    refine ev_lo (lo' := [(2, .inl (aM_right M ((4 * (sM_rule M)) + x1).toNat)), (0, .inr (.inr (some 30))), (1, .inl x1)]) (st' := [.inr (.inr (some 30)), .inl 11, .inl (121 * (aM_right M ((4 * (sM_rule M)) + x1).toNat))]) (pc' := 30) rfl rfl rfl rfl ?_
    refine ev_lo (lo' := [(2, .inl (aM_right M ((4 * (sM_rule M)) + x1).toNat)), (0, .inr (.inr (some 30))), (1, .inl x1)]) (st' := [.inl x1, .inr (.inr (some 30)), .inl 11, .inl (121 * (aM_right M ((4 * (sM_rule M)) + x1).toNat))]) (pc' := 31) rfl rfl rfl rfl ?_
    refine ev_call (as := [.inr (.inr (some 30)), .inl x1]) (r := [.inl 11, .inl (121 * (aM_right M ((4 * (sM_rule M)) + x1).toNat))]) (pc' := 34) rfl rfl (Nat.le_of_ble_eq_true rfl) (Nat.le_of_ble_eq_true rfl) ⟨rfl, rfl⟩ (Nat.le_of_ble_eq_true rfl) rfl rfl rfl rfl ?_
    refine ev.post h (fun v M1 h => ?_)
    obtain ⟨w1, rfl, h⟩ := h
    show ev 113 34 [(2, .inl (aM_right M ((4 * (sM_rule M)) + x1).toNat)), (0, .inr (.inr (some 30))), (1, .inl x1)] [.inl w1, .inl 11, .inl (121 * (aM_right M ((4 * (sM_rule M)) + x1).toNat))] M1 _
    obtain ⟨hs, h⟩ := h
    refine ev_ii (f := fun a b => a * b) (pc' := 35) rfl rfl (fun _ => rfl) (tm_mul hs) rfl ?_
    obtain ⟨hs, h⟩ := h
    refine ev_ii (f := fun a b => a + b) (pc' := 36) rfl rfl (fun _ => rfl) (tm_add hs) rfl ?_
    refine ev_lo (lo' := [(2, .inl (aM_right M ((4 * (sM_rule M)) + x1).toNat)), (0, .inr (.inr (some 30))), (1, .inl x1)]) (st' := [.inr (.inr (some 30)), .inl ((121 * (aM_right M ((4 * (sM_rule M)) + x1).toNat)) + (11 * w1))]) (pc' := 37) rfl rfl rfl rfl ?_
    refine ev_lo (lo' := [(2, .inl (aM_right M ((4 * (sM_rule M)) + x1).toNat)), (0, .inr (.inr (some 30))), (1, .inl x1)]) (st' := [.inl x1, .inr (.inr (some 30)), .inl ((121 * (aM_right M ((4 * (sM_rule M)) + x1).toNat)) + (11 * w1))]) (pc' := 38) rfl rfl rfl rfl ?_
    refine ev_call (as := [.inr (.inr (some 30)), .inl x1]) (r := [.inl ((121 * (aM_right M ((4 * (sM_rule M)) + x1).toNat)) + (11 * w1))]) (pc' := 41) rfl rfl (Nat.le_of_ble_eq_true rfl) (Nat.le_of_ble_eq_true rfl) ⟨rfl, rfl⟩ (Nat.le_of_ble_eq_true rfl) rfl rfl rfl rfl ?_
    refine ev.post h (fun v M2 h => ?_)
    obtain ⟨w2, rfl, h⟩ := h
    show ev 113 41 [(2, .inl (aM_right M ((4 * (sM_rule M)) + x1).toNat)), (0, .inr (.inr (some 30))), (1, .inl x1)] [.inl w2, .inl ((121 * (aM_right M ((4 * (sM_rule M)) + x1).toNat)) + (11 * w1))] M2 _
    obtain ⟨hs, h⟩ := h
    refine ev_ii (f := fun a b => a + b) (pc' := 42) rfl rfl (fun _ => rfl) (tm_add hs) rfl ?_
    exact ev_pick [] rfl rfl h
  · replace h := h.2 (of_decide_eq_false hc)
    refine ev_pu (st' := [.inl (-1)]) (pc' := 20) rfl rfl rfl rfl ?_
    refine ev_br (pc' := 42) (st' := [.inl (-1)]) rfl rfl rfl ?_
    exact ev_pick [] rfl rfl h
set_option maxRecDepth 10000 in
theorem b113_42 {t0 : Int} {M : ev_M} {Q : Int → ev_M → Prop}
    (h : Q t0 M) : c113_42 t0 M Q := by
  unfold c113_42
  exact ev_rt rfl rfl rfl ⟨_, rfl, h⟩
/-! NulledForestModel.markChildren(I)V -/
def m114 (x1 : Int) (M : ev_M) (Q : ev_M → Prop) : Prop := ev 114 0 [(0, .inr (.inr (some 30))), (1, .inl x1)] [] M (fun v M1 => v = none ∧ Q M1)
def c114_6 (x2 : Int) (M : ev_M) (Q : ev_M → Prop) : Prop := ev 114 6 [(0, .inr (.inr (some 30))), (2, .inl x2)] [] M (fun v M1 => v = none ∧ Q M1)
def c114_12 (x3 : Int) (M : ev_M) (Q : ev_M → Prop) : Prop := ev 114 12 [(0, .inr (.inr (some 30))), (3, .inl x3)] [] M (fun v M1 => v = none ∧ Q M1)
def c114_44 (x3 : Int) (M : ev_M) (Q : ev_M → Prop) : Prop := ev 114 44 [(0, .inr (.inr (some 30))), (3, .inl x3)] [] M (fun v M1 => v = none ∧ Q M1)
set_option maxRecDepth 10000 in
theorem b114 {x1 : Int} {M : ev_M} {Q : ev_M → Prop}
    (h : m112 x1 M (fun w1 M1 => c114_6 w1 M1 Q)) : m114 x1 M Q := by
  unfold m114
  refine ev_lo (lo' := [(0, .inr (.inr (some 30))), (1, .inl x1)]) (st' := [.inr (.inr (some 30))]) (pc' := 1) rfl rfl rfl rfl ?_
  refine ev_lo (lo' := [(0, .inr (.inr (some 30))), (1, .inl x1)]) (st' := [.inl x1, .inr (.inr (some 30))]) (pc' := 2) rfl rfl rfl rfl ?_
  refine ev_call (as := [.inr (.inr (some 30)), .inl x1]) (r := []) (pc' := 5) rfl rfl (Nat.le_of_ble_eq_true rfl) (Nat.le_of_ble_eq_true rfl) ⟨rfl, rfl⟩ (Nat.le_of_ble_eq_true rfl) rfl rfl rfl rfl ?_
  refine ev.post h (fun v M1 h => ?_)
  obtain ⟨w1, rfl, h⟩ := h
  show ev 114 5 [(0, .inr (.inr (some 30))), (1, .inl x1)] [.inl w1] M1 _
  refine ev_lo (lo' := [(2, .inl w1), (0, .inr (.inr (some 30))), (1, .inl x1)]) (st' := []) (pc' := 6) rfl rfl rfl rfl ?_
  exact ev_pick [0, 2] rfl rfl h
set_option maxRecDepth 10000 in
theorem b114_6 {x2 : Int} {M : ev_M} {Q : ev_M → Prop}
    (h : (x2 = 0 → (Q M)) ∧ (¬ (x2 = 0) → (c114_12 0 M Q))) : c114_6 x2 M Q := by
  unfold c114_6
  refine ev_lo (lo' := [(0, .inr (.inr (some 30))), (2, .inl x2)]) (st' := [.inl x2]) (pc' := 7) rfl rfl rfl rfl ?_
  refine ev_ifT (pc' := 58) (pc2 := 10) rfl (by decide) rfl rfl (fun hc => ?_) (fun hc => ?_)
  · replace h := h.1 (of_decide_eq_true hc)
    exact ev_rt rfl rfl rfl ⟨rfl, h⟩
  · replace h := h.2 (of_decide_eq_false hc)
    refine ev_pu (st' := [.inl 0]) (pc' := 11) rfl rfl rfl rfl ?_
    refine ev_lo (lo' := [(3, .inl 0), (0, .inr (.inr (some 30))), (2, .inl x2)]) (st' := []) (pc' := 12) rfl rfl rfl rfl ?_
    exact ev_pick [0, 3] rfl rfl h
set_option maxRecDepth 10000 in
theorem b114_12 {x3 : Int} {M : ev_M} {Q : ev_M → Prop}
    (h : (0 ≤ (sM_rule M) ∧ (sM_rule M) < 14) ∧ (((aM_sizes M (sM_rule M).toNat) ≤ x3 → (m111 M (fun w1 M1 => c114_6 w1 M1 Q))) ∧ (¬ ((aM_sizes M (sM_rule M).toNat) ≤ x3) → (m113 x3 M (fun w2 M2 => (w2 < 0 → (c114_44 x3 M2 Q)) ∧ (¬ (w2 < 0) → (m113 x3 M2 (fun w3 M3 => (0 ≤ w3 ∧ w3 < 726) ∧ (c114_44 x3 (ev_sA M3 40 (w3).toNat 1) Q))))))))) : c114_12 x3 M Q := by
  unfold c114_12
  refine ev_lo (lo' := [(0, .inr (.inr (some 30))), (3, .inl x3)]) (st' := [.inl x3]) (pc' := 13) rfl rfl rfl rfl ?_
  refine ev_lo (lo' := [(0, .inr (.inr (some 30))), (3, .inl x3)]) (st' := [.inr (.inr (some 30)), .inl x3]) (pc' := 14) rfl rfl rfl rfl ?_
  refine ev_get (v := .inr (.inr (some 32))) (pc' := 17) rfl rfl rfl rfl ?_
  refine ev_lo (lo' := [(0, .inr (.inr (some 30))), (3, .inl x3)]) (st' := [.inr (.inr (some 30)), .inr (.inr (some 32)), .inl x3]) (pc' := 18) rfl rfl rfl rfl ?_
  refine ev_get (v := .inl (sM_rule M)) (pc' := 21) rfl rfl rfl rfl ?_
  obtain ⟨hs0, h⟩ := h
  refine ev_ald (t := 0) (n := 14) (f := aM_sizes M) (w := fun x => .inl x) (pc' := 22) rfl rfl (fun _ _ => rfl) rfl hs0 rfl ?_
  refine ev_icmp (pc' := 50) (pc2 := 25) rfl (by decide) rfl rfl (fun hc => ?_) (fun hc => ?_)
  · replace h := h.1 (of_decide_eq_true hc)
    refine ev_lo (lo' := [(0, .inr (.inr (some 30))), (3, .inl x3)]) (st' := [.inr (.inr (some 30))]) (pc' := 51) rfl rfl rfl rfl ?_
    refine ev_call (as := [.inr (.inr (some 30))]) (r := []) (pc' := 54) rfl rfl (Nat.le_of_ble_eq_true rfl) (Nat.le_of_ble_eq_true rfl) ⟨rfl, rfl⟩ (Nat.le_of_ble_eq_true rfl) rfl rfl rfl rfl ?_
    refine ev.post h (fun v M1 h => ?_)
    obtain ⟨w1, rfl, h⟩ := h
    show ev 114 54 [(0, .inr (.inr (some 30))), (3, .inl x3)] [.inl w1] M1 _
    refine ev_lo (lo' := [(2, .inl w1), (0, .inr (.inr (some 30))), (3, .inl x3)]) (st' := []) (pc' := 55) rfl rfl rfl rfl ?_
    refine ev_br (pc' := 6) (st' := []) rfl rfl rfl ?_
    exact ev_pick [0, 2] rfl rfl h
  · replace h := h.2 (of_decide_eq_false hc)
    refine ev_lo (lo' := [(0, .inr (.inr (some 30))), (3, .inl x3)]) (st' := [.inr (.inr (some 30))]) (pc' := 26) rfl rfl rfl rfl ?_
    refine ev_lo (lo' := [(0, .inr (.inr (some 30))), (3, .inl x3)]) (st' := [.inl x3, .inr (.inr (some 30))]) (pc' := 27) rfl rfl rfl rfl ?_
    refine ev_call (as := [.inr (.inr (some 30)), .inl x3]) (r := []) (pc' := 30) rfl rfl (Nat.le_of_ble_eq_true rfl) (Nat.le_of_ble_eq_true rfl) ⟨rfl, rfl⟩ (Nat.le_of_ble_eq_true rfl) rfl rfl rfl rfl ?_
    refine ev.post h (fun v M2 h => ?_)
    obtain ⟨w2, rfl, h⟩ := h
    show ev 114 30 [(0, .inr (.inr (some 30))), (3, .inl x3)] [.inl w2] M2 _
    refine ev_ifT (pc' := 44) (pc2 := 33) rfl (by decide) rfl rfl (fun hc => ?_) (fun hc => ?_)
    · replace h := h.1 (of_decide_eq_true hc)
      exact ev_pick [0, 3] rfl rfl h
    · replace h := h.2 (of_decide_eq_false hc)
      refine ev_lo (lo' := [(0, .inr (.inr (some 30))), (3, .inl x3)]) (st' := [.inr (.inr (some 30))]) (pc' := 34) rfl rfl rfl rfl ?_
      refine ev_get (v := .inr (.inr (some 40))) (pc' := 37) rfl rfl rfl rfl ?_
      refine ev_lo (lo' := [(0, .inr (.inr (some 30))), (3, .inl x3)]) (st' := [.inr (.inr (some 30)), .inr (.inr (some 40))]) (pc' := 38) rfl rfl rfl rfl ?_
      refine ev_lo (lo' := [(0, .inr (.inr (some 30))), (3, .inl x3)]) (st' := [.inl x3, .inr (.inr (some 30)), .inr (.inr (some 40))]) (pc' := 39) rfl rfl rfl rfl ?_
      refine ev_call (as := [.inr (.inr (some 30)), .inl x3]) (r := [.inr (.inr (some 40))]) (pc' := 42) rfl rfl (Nat.le_of_ble_eq_true rfl) (Nat.le_of_ble_eq_true rfl) ⟨rfl, rfl⟩ (Nat.le_of_ble_eq_true rfl) rfl rfl rfl rfl ?_
      refine ev.post h (fun v M3 h => ?_)
      obtain ⟨w3, rfl, h⟩ := h
      show ev 114 42 [(0, .inr (.inr (some 30))), (3, .inl x3)] [.inl w3, .inr (.inr (some 40))] M3 _
      refine ev_pu (st' := [.inl 1, .inl w3, .inr (.inr (some 40))]) (pc' := 43) rfl rfl rfl rfl ?_
      obtain ⟨hs0, h⟩ := h
      refine ev_bast (n := 726) (f := aM_used M3) (M' := ev_sA M3 40 (w3).toNat 1) (pc' := 44) rfl rfl hs0 (by decide) (hp_a40 _ _ _) rfl ?_
      exact ev_pick [0, 3] rfl rfl h
set_option maxRecDepth 10000 in
theorem b114_44 {x3 : Int} {M : ev_M} {Q : ev_M → Prop}
    (h : tm_iI (x3 + 1) ∧ (c114_12 (x3 + 1) M Q)) : c114_44 x3 M Q := by
  unfold c114_44
  obtain ⟨hs, h⟩ := h
  refine ev_iinc (lo' := [(3, .inl (x3 + 1)), (0, .inr (.inr (some 30)))]) (pc' := 47) rfl rfl (by decide) (tm_add hs) rfl rfl ?_
  refine ev_br (pc' := 12) (st' := []) rfl rfl rfl ?_
  exact ev_pick [0, 3] rfl rfl h
/-! NulledForestModel.findUsed()V -/
def m115 (M : ev_M) (Q : ev_M → Prop) : Prop := ev 115 0 [(0, .inr (.inr (some 30)))] [] M (fun v M1 => v = none ∧ Q M1)
def c115_2 (x1 : Int) (M : ev_M) (Q : ev_M → Prop) : Prop := ev 115 2 [(0, .inr (.inr (some 30))), (1, .inl x1)] [] M (fun v M1 => v = none ∧ Q M1)
def c115_57 (x1 : Int) (M : ev_M) (Q : ev_M → Prop) : Prop := ev 115 57 [(0, .inr (.inr (some 30))), (1, .inl x1)] [] M (fun v M1 => v = none ∧ Q M1)
def c115_65 (x1 x2 : Int) (M : ev_M) (Q : ev_M → Prop) : Prop := ev 115 65 [(0, .inr (.inr (some 30))), (1, .inl x1), (2, .inl x2)] [] M (fun v M1 => v = none ∧ Q M1)
def c115_104 (x1 x2 : Int) (M : ev_M) (Q : ev_M → Prop) : Prop := ev 115 104 [(0, .inr (.inr (some 30))), (1, .inl x1), (2, .inl x2)] [] M (fun v M1 => v = none ∧ Q M1)
set_option maxRecDepth 10000 in
theorem b115 {M : ev_M} {Q : ev_M → Prop}
    (h : c115_2 0 M Q) : m115 M Q := by
  unfold m115
  refine ev_pu (st' := [.inl 0]) (pc' := 1) rfl rfl rfl rfl ?_
  refine ev_lo (lo' := [(1, .inl 0), (0, .inr (.inr (some 30)))]) (st' := []) (pc' := 2) rfl rfl rfl rfl ?_
  exact ev_pick [0, 1] rfl rfl h
set_option maxRecDepth 10000 in
theorem b115_2 {x1 : Int} {M : ev_M} {Q : ev_M → Prop}
    (h : (726 ≤ x1 → (m101 0 0 (sM_length M) M (fun w1 M1 => (0 ≤ (sM_length M) ∧ (sM_length M) < 726) ∧ (w1 = 0 ∨ w1 = 1) ∧ (c115_57 1 (ev_sA M1 40 (sM_length M).toNat w1) Q)))) ∧ (¬ (726 ≤ x1) → ((0 ≤ x1 ∧ x1 < 726) ∧ ((0 ≤ x1 ∧ x1 < 726) ∧ ((0 ≤ x1 ∧ x1 < 726) ∧ (tm_iI (x1 + 1) ∧ (c115_2 (x1 + 1) (ev_sA (ev_sA (ev_sA M 40 (x1).toNat 0) 41 (x1).toNat 0) 42 (x1).toNat 0) Q))))))) : c115_2 x1 M Q := by
  unfold c115_2
  refine ev_lo (lo' := [(0, .inr (.inr (some 30))), (1, .inl x1)]) (st' := [.inl x1]) (pc' := 3) rfl rfl rfl rfl ?_
  refine ev_pu (st' := [.inl 726, .inl x1]) (pc' := 6) rfl rfl rfl rfl ?_
  refine ev_icmp (pc' := 36) (pc2 := 9) rfl (by decide) rfl rfl (fun hc => ?_) (fun hc => ?_)
  · replace h := h.1 (of_decide_eq_true hc)
    refine ev_lo (lo' := [(0, .inr (.inr (some 30))), (1, .inl x1)]) (st' := [.inr (.inr (some 30))]) (pc' := 37) rfl rfl rfl rfl ?_
    refine ev_get (v := .inr (.inr (some 40))) (pc' := 40) rfl rfl rfl rfl ?_
    refine ev_lo (lo' := [(0, .inr (.inr (some 30))), (1, .inl x1)]) (st' := [.inr (.inr (some 30)), .inr (.inr (some 40))]) (pc' := 41) rfl rfl rfl rfl ?_
    refine ev_get (v := .inl (sM_length M)) (pc' := 44) rfl rfl rfl rfl ?_
    refine ev_lo (lo' := [(0, .inr (.inr (some 30))), (1, .inl x1)]) (st' := [.inr (.inr (some 30)), .inl (sM_length M), .inr (.inr (some 40))]) (pc' := 45) rfl rfl rfl rfl ?_
    refine ev_pu (st' := [.inl 0, .inr (.inr (some 30)), .inl (sM_length M), .inr (.inr (some 40))]) (pc' := 46) rfl rfl rfl rfl ?_
    refine ev_pu (st' := [.inl 0, .inl 0, .inr (.inr (some 30)), .inl (sM_length M), .inr (.inr (some 40))]) (pc' := 47) rfl rfl rfl rfl ?_
    refine ev_lo (lo' := [(0, .inr (.inr (some 30))), (1, .inl x1)]) (st' := [.inr (.inr (some 30)), .inl 0, .inl 0, .inr (.inr (some 30)), .inl (sM_length M), .inr (.inr (some 40))]) (pc' := 48) rfl rfl rfl rfl ?_
    refine ev_get (v := .inl (sM_length M)) (pc' := 51) rfl rfl rfl rfl ?_
    refine ev_call (as := [.inr (.inr (some 30)), .inl 0, .inl 0, .inl (sM_length M)]) (r := [.inl (sM_length M), .inr (.inr (some 40))]) (pc' := 54) rfl rfl (Nat.le_of_ble_eq_true rfl) (Nat.le_of_ble_eq_true rfl) ⟨rfl, rfl⟩ (Nat.le_of_ble_eq_true rfl) rfl rfl rfl rfl ?_
    refine ev.post h (fun v M1 h => ?_)
    obtain ⟨w1, rfl, h⟩ := h
    show ev 115 54 [(0, .inr (.inr (some 30))), (1, .inl x1)] [.inl w1, .inl (sM_length M), .inr (.inr (some 40))] M1 _
    obtain ⟨hs0, hs1, h⟩ := h
    refine ev_bast (n := 726) (f := aM_used M1) (M' := ev_sA M1 40 (sM_length M).toNat w1) (pc' := 55) rfl rfl hs0 hs1 (hp_a40 _ _ _) rfl ?_
    refine ev_pu (st' := [.inl 1]) (pc' := 56) rfl rfl rfl rfl ?_
    refine ev_lo (lo' := [(1, .inl 1), (0, .inr (.inr (some 30)))]) (st' := []) (pc' := 57) rfl rfl rfl rfl ?_
    exact ev_pick [0, 1] rfl rfl h
  · replace h := h.2 (of_decide_eq_false hc)
    refine ev_lo (lo' := [(0, .inr (.inr (some 30))), (1, .inl x1)]) (st' := [.inr (.inr (some 30))]) (pc' := 10) rfl rfl rfl rfl ?_
    refine ev_get (v := .inr (.inr (some 40))) (pc' := 13) rfl rfl rfl rfl ?_
    refine ev_lo (lo' := [(0, .inr (.inr (some 30))), (1, .inl x1)]) (st' := [.inl x1, .inr (.inr (some 40))]) (pc' := 14) rfl rfl rfl rfl ?_
    refine ev_pu (st' := [.inl 0, .inl x1, .inr (.inr (some 40))]) (pc' := 15) rfl rfl rfl rfl ?_
    obtain ⟨hs0, h⟩ := h
    refine ev_bast (n := 726) (f := aM_used M) (M' := ev_sA M 40 (x1).toNat 0) (pc' := 16) rfl rfl hs0 (by decide) (hp_a40 _ _ _) rfl ?_
    refine ev_lo (lo' := [(0, .inr (.inr (some 30))), (1, .inl x1)]) (st' := [.inr (.inr (some 30))]) (pc' := 17) rfl rfl rfl rfl ?_
    refine ev_get (v := .inr (.inr (some 41))) (pc' := 20) rfl rfl rfl rfl ?_
    refine ev_lo (lo' := [(0, .inr (.inr (some 30))), (1, .inl x1)]) (st' := [.inl x1, .inr (.inr (some 41))]) (pc' := 21) rfl rfl rfl rfl ?_
    refine ev_pu (st' := [.inl 0, .inl x1, .inr (.inr (some 41))]) (pc' := 22) rfl rfl rfl rfl ?_
    obtain ⟨hs0, h⟩ := h
    refine ev_bast (n := 726) (f := aM_done M) (M' := ev_sA (ev_sA M 40 (x1).toNat 0) 41 (x1).toNat 0) (pc' := 23) rfl rfl hs0 (by decide) (hp_a41 _ _ _) rfl ?_
    refine ev_lo (lo' := [(0, .inr (.inr (some 30))), (1, .inl x1)]) (st' := [.inr (.inr (some 30))]) (pc' := 24) rfl rfl rfl rfl ?_
    refine ev_get (v := .inr (.inr (some 42))) (pc' := 27) rfl rfl rfl rfl ?_
    refine ev_lo (lo' := [(0, .inr (.inr (some 30))), (1, .inl x1)]) (st' := [.inl x1, .inr (.inr (some 42))]) (pc' := 28) rfl rfl rfl rfl ?_
    refine ev_pu (st' := [.inr (.inl 0), .inl x1, .inr (.inr (some 42))]) (pc' := 29) rfl rfl rfl rfl ?_
    obtain ⟨hs0, h⟩ := h
    refine ev_last (n := 726) (f := aM_counts M) (M' := ev_sA (ev_sA (ev_sA M 40 (x1).toNat 0) 41 (x1).toNat 0) 42 (x1).toNat 0) (pc' := 30) rfl rfl hs0 (hp_a42 _ _ _) rfl ?_
    obtain ⟨hs, h⟩ := h
    refine ev_iinc (lo' := [(1, .inl (x1 + 1)), (0, .inr (.inr (some 30)))]) (pc' := 33) rfl rfl (by decide) (tm_add hs) rfl rfl ?_
    refine ev_br (pc' := 2) (st' := []) rfl rfl rfl ?_
    exact ev_pick [0, 1] rfl rfl h
set_option maxRecDepth 10000 in
theorem b115_57 {x1 : Int} {M : ev_M} {Q : ev_M → Prop}
    (h : (x1 = 0 → (Q M)) ∧ (¬ (x1 = 0) → (c115_65 0 0 M Q))) : c115_57 x1 M Q := by
  unfold c115_57
  refine ev_lo (lo' := [(0, .inr (.inr (some 30))), (1, .inl x1)]) (st' := [.inl x1]) (pc' := 58) rfl rfl rfl rfl ?_
  refine ev_ifT (pc' := 113) (pc2 := 61) rfl (by decide) rfl rfl (fun hc => ?_) (fun hc => ?_)
  · replace h := h.1 (of_decide_eq_true hc)
    exact ev_rt rfl rfl rfl ⟨rfl, h⟩
  · replace h := h.2 (of_decide_eq_false hc)
    refine ev_pu (st' := [.inl 0]) (pc' := 62) rfl rfl rfl rfl ?_
    refine ev_lo (lo' := [(1, .inl 0), (0, .inr (.inr (some 30)))]) (st' := []) (pc' := 63) rfl rfl rfl rfl ?_
    refine ev_pu (st' := [.inl 0]) (pc' := 64) rfl rfl rfl rfl ?_
    refine ev_lo (lo' := [(2, .inl 0), (1, .inl 0), (0, .inr (.inr (some 30)))]) (st' := []) (pc' := 65) rfl rfl rfl rfl ?_
    exact ev_pick [0, 1, 2] rfl rfl h
set_option maxRecDepth 10000 in
theorem b115_65 {x1 x2 : Int} {M : ev_M} {Q : ev_M → Prop}
    (h : (726 ≤ x2 → (c115_57 x1 M Q)) ∧ (¬ (726 ≤ x2) → ((0 ≤ x2 ∧ x2 < 726) ∧ (((aM_used M (x2).toNat) = 0 → (c115_104 x1 x2 M Q)) ∧ (¬ ((aM_used M (x2).toNat) = 0) → ((0 ≤ x2 ∧ x2 < 726) ∧ ((¬ (aM_done M (x2).toNat) = 0 → (c115_104 x1 x2 M Q)) ∧ (¬ (¬ (aM_done M (x2).toNat) = 0) → ((0 ≤ x2 ∧ x2 < 726) ∧ (m114 x2 (ev_sA M 41 (x2).toNat 1) (fun M1 => c115_104 1 x2 M1 Q))))))))))) : c115_65 x1 x2 M Q := by
  unfold c115_65
  refine ev_lo (lo' := [(0, .inr (.inr (some 30))), (1, .inl x1), (2, .inl x2)]) (st' := [.inl x2]) (pc' := 66) rfl rfl rfl rfl ?_
  refine ev_pu (st' := [.inl 726, .inl x2]) (pc' := 69) rfl rfl rfl rfl ?_
  refine ev_icmp (pc' := 110) (pc2 := 72) rfl (by decide) rfl rfl (fun hc => ?_) (fun hc => ?_)
  · replace h := h.1 (of_decide_eq_true hc)
    refine ev_br (pc' := 57) (st' := []) rfl rfl rfl ?_
    exact ev_pick [0, 1] rfl rfl h
  · replace h := h.2 (of_decide_eq_false hc)
    refine ev_lo (lo' := [(0, .inr (.inr (some 30))), (1, .inl x1), (2, .inl x2)]) (st' := [.inr (.inr (some 30))]) (pc' := 73) rfl rfl rfl rfl ?_
    refine ev_get (v := .inr (.inr (some 40))) (pc' := 76) rfl rfl rfl rfl ?_
    refine ev_lo (lo' := [(0, .inr (.inr (some 30))), (1, .inl x1), (2, .inl x2)]) (st' := [.inl x2, .inr (.inr (some 40))]) (pc' := 77) rfl rfl rfl rfl ?_
    obtain ⟨hs0, h⟩ := h
    refine ev_ald (t := 2) (n := 726) (f := aM_used M) (w := fun x => .inl x) (pc' := 78) rfl rfl (fun _ _ => rfl) rfl hs0 rfl ?_
    refine ev_ifT (pc' := 104) (pc2 := 81) rfl (by decide) rfl rfl (fun hc => ?_) (fun hc => ?_)
    · replace h := h.1 (of_decide_eq_true hc)
      exact ev_pick [0, 1, 2] rfl rfl h
    · replace h := h.2 (of_decide_eq_false hc)
      refine ev_lo (lo' := [(0, .inr (.inr (some 30))), (1, .inl x1), (2, .inl x2)]) (st' := [.inr (.inr (some 30))]) (pc' := 82) rfl rfl rfl rfl ?_
      refine ev_get (v := .inr (.inr (some 41))) (pc' := 85) rfl rfl rfl rfl ?_
      refine ev_lo (lo' := [(0, .inr (.inr (some 30))), (1, .inl x1), (2, .inl x2)]) (st' := [.inl x2, .inr (.inr (some 41))]) (pc' := 86) rfl rfl rfl rfl ?_
      obtain ⟨hs0, h⟩ := h
      refine ev_ald (t := 2) (n := 726) (f := aM_done M) (w := fun x => .inl x) (pc' := 87) rfl rfl (fun _ _ => rfl) rfl hs0 rfl ?_
      refine ev_ifT (pc' := 104) (pc2 := 90) rfl (by decide) rfl rfl (fun hc => ?_) (fun hc => ?_)
      · replace h := h.1 (of_decide_eq_true hc)
        exact ev_pick [0, 1, 2] rfl rfl h
      · replace h := h.2 (of_decide_eq_false hc)
        refine ev_lo (lo' := [(0, .inr (.inr (some 30))), (1, .inl x1), (2, .inl x2)]) (st' := [.inr (.inr (some 30))]) (pc' := 91) rfl rfl rfl rfl ?_
        refine ev_get (v := .inr (.inr (some 41))) (pc' := 94) rfl rfl rfl rfl ?_
        refine ev_lo (lo' := [(0, .inr (.inr (some 30))), (1, .inl x1), (2, .inl x2)]) (st' := [.inl x2, .inr (.inr (some 41))]) (pc' := 95) rfl rfl rfl rfl ?_
        refine ev_pu (st' := [.inl 1, .inl x2, .inr (.inr (some 41))]) (pc' := 96) rfl rfl rfl rfl ?_
        obtain ⟨hs0, h⟩ := h
        refine ev_bast (n := 726) (f := aM_done M) (M' := ev_sA M 41 (x2).toNat 1) (pc' := 97) rfl rfl hs0 (by decide) (hp_a41 _ _ _) rfl ?_
        refine ev_pu (st' := [.inl 1]) (pc' := 98) rfl rfl rfl rfl ?_
        refine ev_lo (lo' := [(1, .inl 1), (0, .inr (.inr (some 30))), (2, .inl x2)]) (st' := []) (pc' := 99) rfl rfl rfl rfl ?_
        refine ev_lo (lo' := [(1, .inl 1), (0, .inr (.inr (some 30))), (2, .inl x2)]) (st' := [.inr (.inr (some 30))]) (pc' := 100) rfl rfl rfl rfl ?_
        refine ev_lo (lo' := [(1, .inl 1), (0, .inr (.inr (some 30))), (2, .inl x2)]) (st' := [.inl x2, .inr (.inr (some 30))]) (pc' := 101) rfl rfl rfl rfl ?_
        refine ev_call (as := [.inr (.inr (some 30)), .inl x2]) (r := []) (pc' := 104) rfl rfl (Nat.le_of_ble_eq_true rfl) (Nat.le_of_ble_eq_true rfl) ⟨rfl, rfl⟩ (Nat.le_of_ble_eq_true rfl) rfl rfl rfl rfl ?_
        refine ev.post h (fun v M1 h => ?_)
        obtain ⟨rfl, h⟩ := h
        show ev 115 104 [(1, .inl 1), (0, .inr (.inr (some 30))), (2, .inl x2)] [] M1 _
        exact ev_pick [0, 1, 2] rfl rfl h
set_option maxRecDepth 10000 in
theorem b115_104 {x1 x2 : Int} {M : ev_M} {Q : ev_M → Prop}
    (h : tm_iI (x2 + 1) ∧ (c115_65 x1 (x2 + 1) M Q)) : c115_104 x1 x2 M Q := by
  unfold c115_104
  obtain ⟨hs, h⟩ := h
  refine ev_iinc (lo' := [(2, .inl (x2 + 1)), (0, .inr (.inr (some 30))), (1, .inl x1)]) (pc' := 107) rfl rfl (by decide) (tm_add hs) rfl rfl ?_
  refine ev_br (pc' := 65) (st' := []) rfl rfl rfl ?_
  exact ev_pick [0, 1, 2] rfl rfl h
