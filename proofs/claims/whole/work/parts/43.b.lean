/-! Block rules, written by wip/whole/gen3.py -/
/-! NulledForest$Uses.holds(III)Z -/
def m34 (x1 x2 x3 : Int) (M : ev_M) (Q : Int → ev_M → Prop) : Prop := ev 34 0 [(0, .inr (.inr (some 15))), (1, .inl x1), (2, .inl x2), (3, .inl x3)] [] M (fun v M1 => ∃ w : Int, v = some (.inl w) ∧ Q w M1)
def c34_23 (t0 : Int) (M : ev_M) (Q : Int → ev_M → Prop) : Prop := ev 34 23 [] [.inl t0] M (fun v M1 => ∃ w : Int, v = some (.inl w) ∧ Q w M1)
set_option maxRecDepth 10000 in
theorem b34 {x1 x2 x3 : Int} {M : ev_M} {Q : Int → ev_M → Prop}
    (h : tm_iI (x1 * 11) ∧ (tm_iI ((x1 * 11) + x2) ∧ ((0 ≤ ((x1 * 11) + x2) ∧ ((x1 * 11) + x2) < 66) ∧ ((0 ≤ (aU_ends M ((x1 * 11) + x2).toNat) ∧ (aU_ends M ((x1 * 11) + x2).toNat) < 2147483648) ∧ (0 ≤ x3 ∧ x3 < 32) ∧ ((0 ≤ (tm_sr (aU_ends M ((x1 * 11) + x2).toNat) x3) ∧ (tm_sr (aU_ends M ((x1 * 11) + x2).toNat) x3) < 2147483648) ∧ (((tm_an (tm_sr (aU_ends M ((x1 * 11) + x2).toNat) x3) 1) = 0 → (c34_23 0 M Q)) ∧ (¬ ((tm_an (tm_sr (aU_ends M ((x1 * 11) + x2).toNat) x3) 1) = 0) → (c34_23 1 M Q)))))))) : m34 x1 x2 x3 M Q := by
  unfold m34
  refine ev_lo (lo' := [(0, .inr (.inr (some 15))), (1, .inl x1), (2, .inl x2), (3, .inl x3)]) (st' := [.inr (.inr (some 15))]) (pc' := 1) rfl rfl rfl rfl ?_
  refine ev_get (v := .inr (.inr (some 16))) (pc' := 4) rfl rfl rfl rfl ?_
  refine ev_lo (lo' := [(0, .inr (.inr (some 15))), (1, .inl x1), (2, .inl x2), (3, .inl x3)]) (st' := [.inl x1, .inr (.inr (some 16))]) (pc' := 5) rfl rfl rfl rfl ?_
  refine ev_pu (st' := [.inl 11, .inl x1, .inr (.inr (some 16))]) (pc' := 7) rfl rfl rfl rfl ?_
  obtain ⟨hs, h⟩ := h
  refine ev_ii (f := fun a b => a * b) (pc' := 8) rfl rfl (fun _ => rfl) (tm_mul hs) rfl ?_
  refine ev_lo (lo' := [(0, .inr (.inr (some 15))), (1, .inl x1), (2, .inl x2), (3, .inl x3)]) (st' := [.inl x2, .inl (x1 * 11), .inr (.inr (some 16))]) (pc' := 9) rfl rfl rfl rfl ?_
  obtain ⟨hs, h⟩ := h
  refine ev_ii (f := fun a b => a + b) (pc' := 10) rfl rfl (fun _ => rfl) (tm_add hs) rfl ?_
  obtain ⟨hs0, h⟩ := h
  refine ev_ald (t := 0) (n := 66) (f := aU_ends M) (w := fun x => .inl x) (pc' := 11) rfl rfl (fun _ _ => rfl) rfl hs0 rfl ?_
  refine ev_lo (lo' := [(0, .inr (.inr (some 15))), (1, .inl x1), (2, .inl x2), (3, .inl x3)]) (st' := [.inl x3, .inl (aU_ends M ((x1 * 11) + x2).toNat)]) (pc' := 12) rfl rfl rfl rfl ?_
  obtain ⟨hs0, hs1, h⟩ := h
  refine ev_ii (f := fun a b => a >>> (b &&& 31)) (pc' := 13) rfl rfl (fun _ => rfl) (tm_sr_eq hs0 hs1) rfl ?_
  refine ev_pu (st' := [.inl 1, .inl (tm_sr (aU_ends M ((x1 * 11) + x2).toNat) x3)]) (pc' := 14) rfl rfl rfl rfl ?_
  obtain ⟨hs0, h⟩ := h
  refine ev_ii (f := fun a b => a &&& b) (pc' := 15) rfl rfl (fun _ => rfl) (tm_an_eq hs0 (by decide)) rfl ?_
  refine ev_ifT (pc' := 22) (pc2 := 18) rfl (by decide) rfl rfl (fun hc => ?_) (fun hc => ?_)
  · replace h := h.1 (of_decide_eq_true hc)
    refine ev_pu (st' := [.inl 0]) (pc' := 23) rfl rfl rfl rfl ?_
    exact ev_pick [] rfl rfl h
  · replace h := h.2 (of_decide_eq_false hc)
    refine ev_pu (st' := [.inl 1]) (pc' := 19) rfl rfl rfl rfl ?_
    refine ev_br (pc' := 23) (st' := [.inl 1]) rfl rfl rfl ?_
    exact ev_pick [] rfl rfl h
set_option maxRecDepth 10000 in
theorem b34_23 {t0 : Int} {M : ev_M} {Q : Int → ev_M → Prop}
    (h : (t0 = 0 ∨ t0 = 1) ∧ Q t0 M) : c34_23 t0 M Q := by
  unfold c34_23
  obtain ⟨hs, h⟩ := h
  exact ev_rtZ rfl rfl hs ⟨_, rfl, h⟩
/-! NulledForest$Uses.take(III)V -/
def m35 (x1 x2 x3 : Int) (M : ev_M) (Q : ev_M → Prop) : Prop := ev 35 0 [(0, .inr (.inr (some 15))), (1, .inl x1), (2, .inl x2), (3, .inl x3)] [] M (fun v M1 => v = none ∧ Q M1)
def c35_71 (M : ev_M) (Q : ev_M → Prop) : Prop := ev 35 71 [] [] M (fun v M1 => v = none ∧ Q M1)
set_option maxRecDepth 10000 in
theorem b35 {x1 x2 x3 : Int} {M : ev_M} {Q : ev_M → Prop}
    (h : tm_iI (x1 * 11) ∧ (tm_iI ((x1 * 11) + x2) ∧ ((0 ≤ ((x1 * 11) + x2) ∧ ((x1 * 11) + x2) < 66) ∧ ((0 ≤ (aU_ends M ((x1 * 11) + x2).toNat) ∧ (aU_ends M ((x1 * 11) + x2).toNat) < 2147483648) ∧ (0 ≤ x3 ∧ x3 < 32) ∧ ((0 ≤ (tm_sr (aU_ends M ((x1 * 11) + x2).toNat) x3) ∧ (tm_sr (aU_ends M ((x1 * 11) + x2).toNat) x3) < 2147483648) ∧ ((¬ (tm_an (tm_sr (aU_ends M ((x1 * 11) + x2).toNat) x3) 1) = 0 → (c35_71 M Q)) ∧ (¬ (¬ (tm_an (tm_sr (aU_ends M ((x1 * 11) + x2).toNat) x3) 1) = 0) → ((396 ≤ (sU_count M) → (c35_71 M Q)) ∧ (¬ (396 ≤ (sU_count M)) → ((0 ≤ ((x1 * 11) + x2) ∧ ((x1 * 11) + x2) < 66) ∧ ((0 ≤ x3 ∧ x3 < 32) ∧ (1 : Int) * 2 ^ (x3).toNat < 2147483648 ∧ ((0 ≤ (aU_ends M ((x1 * 11) + x2).toNat) ∧ (aU_ends M ((x1 * 11) + x2).toNat) < 2147483648) ∧ (0 ≤ (tm_sl 1 x3) ∧ (tm_sl 1 x3) < 2147483648) ∧ ((0 ≤ ((x1 * 11) + x2) ∧ ((x1 * 11) + x2) < 66) ∧ (tm_iI (((x1 * 11) + x2) * 11) ∧ (tm_iI ((((x1 * 11) + x2) * 11) + x3) ∧ ((0 ≤ (sU_count M) ∧ (sU_count M) < 396) ∧ (tm_iI ((sU_count M) + 1) ∧ (c35_71 (ev_sS (ev_sA (ev_sA M 16 ((x1 * 11) + x2).toNat (tm_or (aU_ends M ((x1 * 11) + x2).toNat) (tm_sl 1 x3))) 17 (sU_count M).toNat ((((x1 * 11) + x2) * 11) + x3)) 6 ((sU_count M) + 1)) Q)))))))))))))))))) : m35 x1 x2 x3 M Q := by
  unfold m35
  refine ev_lo (lo' := [(0, .inr (.inr (some 15))), (1, .inl x1), (2, .inl x2), (3, .inl x3)]) (st' := [.inl x1]) (pc' := 1) rfl rfl rfl rfl ?_
  refine ev_pu (st' := [.inl 11, .inl x1]) (pc' := 3) rfl rfl rfl rfl ?_
  obtain ⟨hs, h⟩ := h
  refine ev_ii (f := fun a b => a * b) (pc' := 4) rfl rfl (fun _ => rfl) (tm_mul hs) rfl ?_
  refine ev_lo (lo' := [(0, .inr (.inr (some 15))), (1, .inl x1), (2, .inl x2), (3, .inl x3)]) (st' := [.inl x2, .inl (x1 * 11)]) (pc' := 5) rfl rfl rfl rfl ?_
  obtain ⟨hs, h⟩ := h
  refine ev_ii (f := fun a b => a + b) (pc' := 6) rfl rfl (fun _ => rfl) (tm_add hs) rfl ?_
  refine ev_lo (lo' := [(4, .inl ((x1 * 11) + x2)), (0, .inr (.inr (some 15))), (1, .inl x1), (2, .inl x2), (3, .inl x3)]) (st' := []) (pc' := 8) rfl rfl rfl rfl ?_
  refine ev_lo (lo' := [(4, .inl ((x1 * 11) + x2)), (0, .inr (.inr (some 15))), (1, .inl x1), (2, .inl x2), (3, .inl x3)]) (st' := [.inr (.inr (some 15))]) (pc' := 9) rfl rfl rfl rfl ?_
  refine ev_get (v := .inr (.inr (some 16))) (pc' := 12) rfl rfl rfl rfl ?_
  refine ev_lo (lo' := [(4, .inl ((x1 * 11) + x2)), (0, .inr (.inr (some 15))), (1, .inl x1), (2, .inl x2), (3, .inl x3)]) (st' := [.inl ((x1 * 11) + x2), .inr (.inr (some 16))]) (pc' := 14) rfl rfl rfl rfl ?_
  obtain ⟨hs0, h⟩ := h
  refine ev_ald (t := 0) (n := 66) (f := aU_ends M) (w := fun x => .inl x) (pc' := 15) rfl rfl (fun _ _ => rfl) rfl hs0 rfl ?_
  refine ev_lo (lo' := [(4, .inl ((x1 * 11) + x2)), (0, .inr (.inr (some 15))), (1, .inl x1), (2, .inl x2), (3, .inl x3)]) (st' := [.inl x3, .inl (aU_ends M ((x1 * 11) + x2).toNat)]) (pc' := 16) rfl rfl rfl rfl ?_
  obtain ⟨hs0, hs1, h⟩ := h
  refine ev_ii (f := fun a b => a >>> (b &&& 31)) (pc' := 17) rfl rfl (fun _ => rfl) (tm_sr_eq hs0 hs1) rfl ?_
  refine ev_pu (st' := [.inl 1, .inl (tm_sr (aU_ends M ((x1 * 11) + x2).toNat) x3)]) (pc' := 18) rfl rfl rfl rfl ?_
  obtain ⟨hs0, h⟩ := h
  refine ev_ii (f := fun a b => a &&& b) (pc' := 19) rfl rfl (fun _ => rfl) (tm_an_eq hs0 (by decide)) rfl ?_
  refine ev_ifT (pc' := 71) (pc2 := 22) rfl (by decide) rfl rfl (fun hc => ?_) (fun hc => ?_)
  · replace h := h.1 (of_decide_eq_true hc)
    exact ev_pick [] rfl rfl h
  · replace h := h.2 (of_decide_eq_false hc)
    refine ev_lo (lo' := [(4, .inl ((x1 * 11) + x2)), (0, .inr (.inr (some 15))), (1, .inl x1), (2, .inl x2), (3, .inl x3)]) (st' := [.inr (.inr (some 15))]) (pc' := 23) rfl rfl rfl rfl ?_
    refine ev_get (v := .inl (sU_count M)) (pc' := 26) rfl rfl rfl rfl ?_
    refine ev_pu (st' := [.inl 396, .inl (sU_count M)]) (pc' := 29) rfl rfl rfl rfl ?_
    refine ev_icmp (pc' := 71) (pc2 := 32) rfl (by decide) rfl rfl (fun hc => ?_) (fun hc => ?_)
    · replace h := h.1 (of_decide_eq_true hc)
      exact ev_pick [] rfl rfl h
    · replace h := h.2 (of_decide_eq_false hc)
      refine ev_lo (lo' := [(4, .inl ((x1 * 11) + x2)), (0, .inr (.inr (some 15))), (1, .inl x1), (2, .inl x2), (3, .inl x3)]) (st' := [.inr (.inr (some 15))]) (pc' := 33) rfl rfl rfl rfl ?_
      refine ev_get (v := .inr (.inr (some 16))) (pc' := 36) rfl rfl rfl rfl ?_
      refine ev_lo (lo' := [(4, .inl ((x1 * 11) + x2)), (0, .inr (.inr (some 15))), (1, .inl x1), (2, .inl x2), (3, .inl x3)]) (st' := [.inl ((x1 * 11) + x2), .inr (.inr (some 16))]) (pc' := 38) rfl rfl rfl rfl ?_
      refine ev_pu (st' := [.inl ((x1 * 11) + x2), .inr (.inr (some 16)), .inl ((x1 * 11) + x2), .inr (.inr (some 16))]) (pc' := 39) rfl rfl rfl rfl ?_
      obtain ⟨hs0, h⟩ := h
      refine ev_ald (t := 0) (n := 66) (f := aU_ends M) (w := fun x => .inl x) (pc' := 40) rfl rfl (fun _ _ => rfl) rfl hs0 rfl ?_
      refine ev_pu (st' := [.inl 1, .inl (aU_ends M ((x1 * 11) + x2).toNat), .inl ((x1 * 11) + x2), .inr (.inr (some 16))]) (pc' := 41) rfl rfl rfl rfl ?_
      refine ev_lo (lo' := [(4, .inl ((x1 * 11) + x2)), (0, .inr (.inr (some 15))), (1, .inl x1), (2, .inl x2), (3, .inl x3)]) (st' := [.inl x3, .inl 1, .inl (aU_ends M ((x1 * 11) + x2).toNat), .inl ((x1 * 11) + x2), .inr (.inr (some 16))]) (pc' := 42) rfl rfl rfl rfl ?_
      obtain ⟨hs1, hs2, h⟩ := h
      refine ev_ii (f := fun a b => a <<< (b &&& 31)) (pc' := 43) rfl rfl (fun _ => rfl) (tm_sl_eq (by decide) hs1 hs2) rfl ?_
      obtain ⟨hs0, hs1, h⟩ := h
      refine ev_ii (f := fun a b => a ||| b) (pc' := 44) rfl rfl (fun _ => rfl) (tm_or_eq hs0 hs1) rfl ?_
      obtain ⟨hs0, h⟩ := h
      refine ev_iast (n := 66) (f := aU_ends M) (M' := ev_sA M 16 ((x1 * 11) + x2).toNat (tm_or (aU_ends M ((x1 * 11) + x2).toNat) (tm_sl 1 x3))) (pc' := 45) rfl rfl hs0 (hp_a16 _ _ _) rfl ?_
      refine ev_lo (lo' := [(4, .inl ((x1 * 11) + x2)), (0, .inr (.inr (some 15))), (1, .inl x1), (2, .inl x2), (3, .inl x3)]) (st' := [.inr (.inr (some 15))]) (pc' := 46) rfl rfl rfl rfl ?_
      refine ev_get (v := .inr (.inr (some 17))) (pc' := 49) rfl rfl rfl rfl ?_
      refine ev_lo (lo' := [(4, .inl ((x1 * 11) + x2)), (0, .inr (.inr (some 15))), (1, .inl x1), (2, .inl x2), (3, .inl x3)]) (st' := [.inr (.inr (some 15)), .inr (.inr (some 17))]) (pc' := 50) rfl rfl rfl rfl ?_
      refine ev_get (v := .inl (sU_count M)) (pc' := 53) rfl rfl rfl rfl ?_
      refine ev_lo (lo' := [(4, .inl ((x1 * 11) + x2)), (0, .inr (.inr (some 15))), (1, .inl x1), (2, .inl x2), (3, .inl x3)]) (st' := [.inl ((x1 * 11) + x2), .inl (sU_count M), .inr (.inr (some 17))]) (pc' := 55) rfl rfl rfl rfl ?_
      refine ev_pu (st' := [.inl 11, .inl ((x1 * 11) + x2), .inl (sU_count M), .inr (.inr (some 17))]) (pc' := 57) rfl rfl rfl rfl ?_
      obtain ⟨hs, h⟩ := h
      refine ev_ii (f := fun a b => a * b) (pc' := 58) rfl rfl (fun _ => rfl) (tm_mul hs) rfl ?_
      refine ev_lo (lo' := [(4, .inl ((x1 * 11) + x2)), (0, .inr (.inr (some 15))), (1, .inl x1), (2, .inl x2), (3, .inl x3)]) (st' := [.inl x3, .inl (((x1 * 11) + x2) * 11), .inl (sU_count M), .inr (.inr (some 17))]) (pc' := 59) rfl rfl rfl rfl ?_
      obtain ⟨hs, h⟩ := h
      refine ev_ii (f := fun a b => a + b) (pc' := 60) rfl rfl (fun _ => rfl) (tm_add hs) rfl ?_
      obtain ⟨hs0, h⟩ := h
      refine ev_iast (n := 396) (f := aU_queue M) (M' := ev_sA (ev_sA M 16 ((x1 * 11) + x2).toNat (tm_or (aU_ends M ((x1 * 11) + x2).toNat) (tm_sl 1 x3))) 17 (sU_count M).toNat ((((x1 * 11) + x2) * 11) + x3)) (pc' := 61) rfl rfl hs0 (hp_a17 _ _ _) rfl ?_
      refine ev_lo (lo' := [(4, .inl ((x1 * 11) + x2)), (0, .inr (.inr (some 15))), (1, .inl x1), (2, .inl x2), (3, .inl x3)]) (st' := [.inr (.inr (some 15))]) (pc' := 62) rfl rfl rfl rfl ?_
      refine ev_pu (st' := [.inr (.inr (some 15)), .inr (.inr (some 15))]) (pc' := 63) rfl rfl rfl rfl ?_
      refine ev_get (v := .inl (sU_count M)) (pc' := 66) rfl rfl rfl rfl ?_
      refine ev_pu (st' := [.inl 1, .inl (sU_count M), .inr (.inr (some 15))]) (pc' := 67) rfl rfl rfl rfl ?_
      obtain ⟨hs, h⟩ := h
      refine ev_ii (f := fun a b => a + b) (pc' := 68) rfl rfl (fun _ => rfl) (tm_add hs) rfl ?_
      refine ev_put (M' := ev_sS (ev_sA (ev_sA M 16 ((x1 * 11) + x2).toNat (tm_or (aU_ends M ((x1 * 11) + x2).toNat) (tm_sl 1 x3))) 17 (sU_count M).toNat ((((x1 * 11) + x2) * 11) + x3)) 6 ((sU_count M) + 1)) (pc' := 71) rfl rfl (Nat.le_of_ble_eq_true rfl) rfl (hp_s6 _ _) rfl ?_
      exact ev_pick [] rfl rfl h
set_option maxRecDepth 10000 in
theorem b35_71 {M : ev_M} {Q : ev_M → Prop}
    (h : Q M) : c35_71 M Q := by
  unfold c35_71
  exact ev_rt rfl rfl rfl ⟨rfl, h⟩
/-! NulledForest.makerOf(I)I -/
def m36 (x0 : Int) (M : ev_M) (Q : Int → ev_M → Prop) : Prop := ev 36 0 [(0, .inl x0)] [] M (fun v M1 => ∃ w : Int, v = some (.inl w) ∧ Q w M1)
set_option maxRecDepth 10000 in
theorem b36 {x0 : Int} {M : ev_M} {Q : Int → ev_M → Prop}
    (h : (0 ≤ x0 ∧ x0 < 2147483648) ∧ (Q (x0 / 121) M)) : m36 x0 M Q := by
  unfold m36
  refine ev_lo (lo' := [(0, .inl x0)]) (st' := [.inl x0]) (pc' := 1) rfl rfl rfl rfl ?_
  refine ev_pu (st' := [.inl 121, .inl x0]) (pc' := 3) rfl rfl rfl rfl ?_
  obtain ⟨hs0, h⟩ := h
  refine ev_idiv (pc' := 4) rfl (by decide) (tm_div_eq hs0 (by decide)) rfl ?_
  exact ev_rt rfl rfl rfl ⟨_, rfl, h⟩
/-! NulledForest.beginOf(I)I -/
def m37 (x0 : Int) (M : ev_M) (Q : Int → ev_M → Prop) : Prop := ev 37 0 [(0, .inl x0)] [] M (fun v M1 => ∃ w : Int, v = some (.inl w) ∧ Q w M1)
set_option maxRecDepth 10000 in
theorem b37 {x0 : Int} {M : ev_M} {Q : Int → ev_M → Prop}
    (h : (0 ≤ x0 ∧ x0 < 2147483648) ∧ ((0 ≤ (x0 / 11) ∧ (x0 / 11) < 2147483648) ∧ (Q ((x0 / 11) % 11) M))) : m37 x0 M Q := by
  unfold m37
  refine ev_lo (lo' := [(0, .inl x0)]) (st' := [.inl x0]) (pc' := 1) rfl rfl rfl rfl ?_
  refine ev_pu (st' := [.inl 11, .inl x0]) (pc' := 3) rfl rfl rfl rfl ?_
  obtain ⟨hs0, h⟩ := h
  refine ev_idiv (pc' := 4) rfl (by decide) (tm_div_eq hs0 (by decide)) rfl ?_
  refine ev_pu (st' := [.inl 11, .inl (x0 / 11)]) (pc' := 6) rfl rfl rfl rfl ?_
  obtain ⟨hs0, h⟩ := h
  refine ev_irem (pc' := 7) rfl (by decide) (tm_rem_eq hs0 (by decide)) rfl ?_
  exact ev_rt rfl rfl rfl ⟨_, rfl, h⟩
/-! NulledForest.endOf(I)I -/
def m38 (x0 : Int) (M : ev_M) (Q : Int → ev_M → Prop) : Prop := ev 38 0 [(0, .inl x0)] [] M (fun v M1 => ∃ w : Int, v = some (.inl w) ∧ Q w M1)
set_option maxRecDepth 10000 in
theorem b38 {x0 : Int} {M : ev_M} {Q : Int → ev_M → Prop}
    (h : (0 ≤ x0 ∧ x0 < 2147483648) ∧ (Q (x0 % 11) M)) : m38 x0 M Q := by
  unfold m38
  refine ev_lo (lo' := [(0, .inl x0)]) (st' := [.inl x0]) (pc' := 1) rfl rfl rfl rfl ?_
  refine ev_pu (st' := [.inl 11, .inl x0]) (pc' := 3) rfl rfl rfl rfl ?_
  obtain ⟨hs0, h⟩ := h
  refine ev_irem (pc' := 4) rfl (by decide) (tm_rem_eq hs0 (by decide)) rfl ?_
  exact ev_rt rfl rfl rfl ⟨_, rfl, h⟩
/-! NulledForest$Uses.takeSymbol(III)I -/
def m39 (x1 x2 x3 : Int) (M : ev_M) (Q : Int → ev_M → Prop) : Prop := ev 39 0 [(0, .inr (.inr (some 15))), (1, .inl x1), (2, .inl x2), (3, .inl x3)] [] M (fun v M1 => ∃ w : Int, v = some (.inl w) ∧ Q w M1)
def c39_6 (x1 x2 x3 x4 x5 : Int) (M : ev_M) (Q : Int → ev_M → Prop) : Prop := ev 39 6 [(0, .inr (.inr (some 15))), (1, .inl x1), (2, .inl x2), (3, .inl x3), (4, .inl x4), (5, .inl x5)] [] M (fun v M1 => ∃ w : Int, v = some (.inl w) ∧ Q w M1)
def c39_43 (x1 x2 x3 x4 x5 t0 : Int) (M : ev_M) (Q : Int → ev_M → Prop) : Prop := ev 39 43 [(0, .inr (.inr (some 15))), (1, .inl x1), (2, .inl x2), (3, .inl x3), (4, .inl x4), (5, .inl x5)] [.inl t0] M (fun v M1 => ∃ w : Int, v = some (.inl w) ∧ Q w M1)
def c39_60 (x1 x2 x3 x5 x6 t0 t1 : Int) (M : ev_M) (Q : Int → ev_M → Prop) : Prop := ev 39 60 [(0, .inr (.inr (some 15))), (1, .inl x1), (2, .inl x2), (3, .inl x3), (5, .inl x5), (6, .inl x6)] [.inl t1, .inl t0] M (fun v M1 => ∃ w : Int, v = some (.inl w) ∧ Q w M1)
def c39_67 (x1 x2 x3 x4 x5 x6 x7 : Int) (M : ev_M) (Q : Int → ev_M → Prop) : Prop := ev 39 67 [(0, .inr (.inr (some 15))), (1, .inl x1), (2, .inl x2), (3, .inl x3), (4, .inl x4), (5, .inl x5), (6, .inl x6), (7, .inl x7)] [] M (fun v M1 => ∃ w : Int, v = some (.inl w) ∧ Q w M1)
def c39_109 (x1 x2 x3 x4 x5 x6 x7 : Int) (M : ev_M) (Q : Int → ev_M → Prop) : Prop := ev 39 109 [(0, .inr (.inr (some 15))), (1, .inl x1), (2, .inl x2), (3, .inl x3), (4, .inl x4), (5, .inl x5), (6, .inl x6), (7, .inl x7)] [] M (fun v M1 => ∃ w : Int, v = some (.inl w) ∧ Q w M1)
def c39_115 (x1 x2 x3 x4 x5 : Int) (M : ev_M) (Q : Int → ev_M → Prop) : Prop := ev 39 115 [(0, .inr (.inr (some 15))), (1, .inl x1), (2, .inl x2), (3, .inl x3), (4, .inl x4), (5, .inl x5)] [] M (fun v M1 => ∃ w : Int, v = some (.inl w) ∧ Q w M1)
set_option maxRecDepth 10000 in
theorem b39 {x1 x2 x3 : Int} {M : ev_M} {Q : Int → ev_M → Prop}
    (h : c39_6 x1 x2 x3 0 0 M Q) : m39 x1 x2 x3 M Q := by
  unfold m39
  refine ev_pu (st' := [.inl 0]) (pc' := 1) rfl rfl rfl rfl ?_
  refine ev_lo (lo' := [(4, .inl 0), (0, .inr (.inr (some 15))), (1, .inl x1), (2, .inl x2), (3, .inl x3)]) (st' := []) (pc' := 3) rfl rfl rfl rfl ?_
  refine ev_pu (st' := [.inl 0]) (pc' := 4) rfl rfl rfl rfl ?_
  refine ev_lo (lo' := [(5, .inl 0), (4, .inl 0), (0, .inr (.inr (some 15))), (1, .inl x1), (2, .inl x2), (3, .inl x3)]) (st' := []) (pc' := 6) rfl rfl rfl rfl ?_
  exact ev_pick [0, 1, 2, 3, 4, 5] rfl rfl h
set_option maxRecDepth 10000 in
theorem b39_6 {x1 x2 x3 x4 x5 : Int} {M : ev_M} {Q : Int → ev_M → Prop}
    (h : ((sC_size M) < x5 → (Q x4 M)) ∧ (¬ ((sC_size M) < x5) → ((0 ≤ x2 ∧ x2 < 2147483648) ∧ (0 ≤ x5 ∧ x5 < 32) ∧ ((0 ≤ (tm_sr x2 x5) ∧ (tm_sr x2 x5) < 2147483648) ∧ ((¬ (tm_an (tm_sr x2 x5) 1) = 0 → (m23 x1 x5 M (fun w1 M1 => (0 ≤ w1 ∧ w1 < 2147483648) ∧ (0 ≤ x3 ∧ x3 < 2147483648) ∧ (c39_43 x1 x2 x3 x4 x5 (tm_an w1 x3) M1 Q)))) ∧ (¬ (¬ (tm_an (tm_sr x2 x5) 1) = 0) → (c39_43 x1 x2 x3 x4 x5 0 M Q))))))) : c39_6 x1 x2 x3 x4 x5 M Q := by
  unfold c39_6
  refine ev_lo (lo' := [(0, .inr (.inr (some 15))), (1, .inl x1), (2, .inl x2), (3, .inl x3), (4, .inl x4), (5, .inl x5)]) (st' := [.inl x5]) (pc' := 8) rfl rfl rfl rfl ?_
  refine ev_lo (lo' := [(0, .inr (.inr (some 15))), (1, .inl x1), (2, .inl x2), (3, .inl x3), (4, .inl x4), (5, .inl x5)]) (st' := [.inr (.inr (some 15)), .inl x5]) (pc' := 9) rfl rfl rfl rfl ?_
  refine ev_get (v := .inr (.inr (some 10))) (pc' := 12) rfl rfl rfl rfl ?_
  refine ev_get (v := .inl (sC_size M)) (pc' := 15) rfl rfl rfl rfl ?_
  refine ev_icmp (pc' := 121) (pc2 := 18) rfl (by decide) rfl rfl (fun hc => ?_) (fun hc => ?_)
  · replace h := h.1 (of_decide_eq_true hc)
    refine ev_lo (lo' := [(0, .inr (.inr (some 15))), (1, .inl x1), (2, .inl x2), (3, .inl x3), (4, .inl x4), (5, .inl x5)]) (st' := [.inl x4]) (pc' := 123) rfl rfl rfl rfl ?_
    exact ev_rt rfl rfl rfl ⟨_, rfl, h⟩
  · replace h := h.2 (of_decide_eq_false hc)
    refine ev_lo (lo' := [(0, .inr (.inr (some 15))), (1, .inl x1), (2, .inl x2), (3, .inl x3), (4, .inl x4), (5, .inl x5)]) (st' := [.inl x2]) (pc' := 19) rfl rfl rfl rfl ?_
    refine ev_lo (lo' := [(0, .inr (.inr (some 15))), (1, .inl x1), (2, .inl x2), (3, .inl x3), (4, .inl x4), (5, .inl x5)]) (st' := [.inl x5, .inl x2]) (pc' := 21) rfl rfl rfl rfl ?_
    obtain ⟨hs0, hs1, h⟩ := h
    refine ev_ii (f := fun a b => a >>> (b &&& 31)) (pc' := 22) rfl rfl (fun _ => rfl) (tm_sr_eq hs0 hs1) rfl ?_
    refine ev_pu (st' := [.inl 1, .inl (tm_sr x2 x5)]) (pc' := 23) rfl rfl rfl rfl ?_
    obtain ⟨hs0, h⟩ := h
    refine ev_ii (f := fun a b => a &&& b) (pc' := 24) rfl rfl (fun _ => rfl) (tm_an_eq hs0 (by decide)) rfl ?_
    refine ev_ifT (pc' := 31) (pc2 := 27) rfl (by decide) rfl rfl (fun hc => ?_) (fun hc => ?_)
    · replace h := h.1 (of_decide_eq_true hc)
      refine ev_lo (lo' := [(0, .inr (.inr (some 15))), (1, .inl x1), (2, .inl x2), (3, .inl x3), (4, .inl x4), (5, .inl x5)]) (st' := [.inr (.inr (some 15))]) (pc' := 32) rfl rfl rfl rfl ?_
      refine ev_get (v := .inr (.inr (some 10))) (pc' := 35) rfl rfl rfl rfl ?_
      refine ev_lo (lo' := [(0, .inr (.inr (some 15))), (1, .inl x1), (2, .inl x2), (3, .inl x3), (4, .inl x4), (5, .inl x5)]) (st' := [.inl x1, .inr (.inr (some 10))]) (pc' := 36) rfl rfl rfl rfl ?_
      refine ev_lo (lo' := [(0, .inr (.inr (some 15))), (1, .inl x1), (2, .inl x2), (3, .inl x3), (4, .inl x4), (5, .inl x5)]) (st' := [.inl x5, .inl x1, .inr (.inr (some 10))]) (pc' := 38) rfl rfl rfl rfl ?_
      refine ev_call (as := [.inr (.inr (some 10)), .inl x1, .inl x5]) (r := []) (pc' := 41) rfl rfl (Nat.le_of_ble_eq_true rfl) (Nat.le_of_ble_eq_true rfl) ⟨rfl, rfl⟩ (Nat.le_of_ble_eq_true rfl) rfl rfl rfl rfl ?_
      refine ev.post h (fun v M1 h => ?_)
      obtain ⟨w1, rfl, h⟩ := h
      show ev 39 41 [(0, .inr (.inr (some 15))), (1, .inl x1), (2, .inl x2), (3, .inl x3), (4, .inl x4), (5, .inl x5)] [.inl w1] M1 _
      refine ev_lo (lo' := [(0, .inr (.inr (some 15))), (1, .inl x1), (2, .inl x2), (3, .inl x3), (4, .inl x4), (5, .inl x5)]) (st' := [.inl x3, .inl w1]) (pc' := 42) rfl rfl rfl rfl ?_
      obtain ⟨hs0, hs1, h⟩ := h
      refine ev_ii (f := fun a b => a &&& b) (pc' := 43) rfl rfl (fun _ => rfl) (tm_an_eq hs0 hs1) rfl ?_
      exact ev_pick [0, 1, 2, 3, 4, 5] rfl rfl h
    · replace h := h.2 (of_decide_eq_false hc)
      refine ev_pu (st' := [.inl 0]) (pc' := 28) rfl rfl rfl rfl ?_
      refine ev_br (pc' := 43) (st' := [.inl 0]) rfl rfl rfl ?_
      exact ev_pick [0, 1, 2, 3, 4, 5] rfl rfl h
set_option maxRecDepth 10000 in
theorem b39_43 {x1 x2 x3 x4 x5 t0 : Int} {M : ev_M} {Q : Int → ev_M → Prop}
    (h : (¬ t0 = 0 → ((0 ≤ x5 ∧ x5 < 32) ∧ (1 : Int) * 2 ^ (x5).toNat < 2147483648 ∧ (c39_60 x1 x2 x3 x5 t0 x4 (tm_sl 1 x5) M Q))) ∧ (¬ (¬ t0 = 0) → (c39_60 x1 x2 x3 x5 t0 x4 0 M Q))) : c39_43 x1 x2 x3 x4 x5 t0 M Q := by
  unfold c39_43
  refine ev_lo (lo' := [(6, .inl t0), (0, .inr (.inr (some 15))), (1, .inl x1), (2, .inl x2), (3, .inl x3), (4, .inl x4), (5, .inl x5)]) (st' := []) (pc' := 45) rfl rfl rfl rfl ?_
  refine ev_lo (lo' := [(6, .inl t0), (0, .inr (.inr (some 15))), (1, .inl x1), (2, .inl x2), (3, .inl x3), (4, .inl x4), (5, .inl x5)]) (st' := [.inl x4]) (pc' := 47) rfl rfl rfl rfl ?_
  refine ev_lo (lo' := [(6, .inl t0), (0, .inr (.inr (some 15))), (1, .inl x1), (2, .inl x2), (3, .inl x3), (4, .inl x4), (5, .inl x5)]) (st' := [.inl t0, .inl x4]) (pc' := 49) rfl rfl rfl rfl ?_
  refine ev_ifT (pc' := 56) (pc2 := 52) rfl (by decide) rfl rfl (fun hc => ?_) (fun hc => ?_)
  · replace h := h.1 (of_decide_eq_true hc)
    refine ev_pu (st' := [.inl 1, .inl x4]) (pc' := 57) rfl rfl rfl rfl ?_
    refine ev_lo (lo' := [(6, .inl t0), (0, .inr (.inr (some 15))), (1, .inl x1), (2, .inl x2), (3, .inl x3), (4, .inl x4), (5, .inl x5)]) (st' := [.inl x5, .inl 1, .inl x4]) (pc' := 59) rfl rfl rfl rfl ?_
    obtain ⟨hs1, hs2, h⟩ := h
    refine ev_ii (f := fun a b => a <<< (b &&& 31)) (pc' := 60) rfl rfl (fun _ => rfl) (tm_sl_eq (by decide) hs1 hs2) rfl ?_
    exact ev_pick [0, 1, 2, 3, 5, 6] rfl rfl h
  · replace h := h.2 (of_decide_eq_false hc)
    refine ev_pu (st' := [.inl 0, .inl x4]) (pc' := 53) rfl rfl rfl rfl ?_
    refine ev_br (pc' := 60) (st' := [.inl 0, .inl x4]) rfl rfl rfl ?_
    exact ev_pick [0, 1, 2, 3, 5, 6] rfl rfl h
set_option maxRecDepth 10000 in
theorem b39_60 {x1 x2 x3 x5 x6 t0 t1 : Int} {M : ev_M} {Q : Int → ev_M → Prop}
    (h : (0 ≤ t0 ∧ t0 < 2147483648) ∧ (0 ≤ t1 ∧ t1 < 2147483648) ∧ (c39_67 x1 x2 x3 (tm_or t0 t1) x5 x6 x5 M Q)) : c39_60 x1 x2 x3 x5 x6 t0 t1 M Q := by
  unfold c39_60
  obtain ⟨hs0, hs1, h⟩ := h
  refine ev_ii (f := fun a b => a ||| b) (pc' := 61) rfl rfl (fun _ => rfl) (tm_or_eq hs0 hs1) rfl ?_
  refine ev_lo (lo' := [(4, .inl (tm_or t0 t1)), (0, .inr (.inr (some 15))), (1, .inl x1), (2, .inl x2), (3, .inl x3), (5, .inl x5), (6, .inl x6)]) (st' := []) (pc' := 63) rfl rfl rfl rfl ?_
  refine ev_lo (lo' := [(4, .inl (tm_or t0 t1)), (0, .inr (.inr (some 15))), (1, .inl x1), (2, .inl x2), (3, .inl x3), (5, .inl x5), (6, .inl x6)]) (st' := [.inl x5]) (pc' := 65) rfl rfl rfl rfl ?_
  refine ev_lo (lo' := [(7, .inl x5), (4, .inl (tm_or t0 t1)), (0, .inr (.inr (some 15))), (1, .inl x1), (2, .inl x2), (3, .inl x3), (5, .inl x5), (6, .inl x6)]) (st' := []) (pc' := 67) rfl rfl rfl rfl ?_
  exact ev_pick [0, 1, 2, 3, 4, 5, 6, 7] rfl rfl h
set_option maxRecDepth 10000 in
theorem b39_67 {x1 x2 x3 x4 x5 x6 x7 : Int} {M : ev_M} {Q : Int → ev_M → Prop}
    (h : ((sC_size M) < x7 → (c39_115 x1 x2 x3 x4 x5 M Q)) ∧ (¬ ((sC_size M) < x7) → ((x6 = 0 → (c39_115 x1 x2 x3 x4 x5 M Q)) ∧ (¬ (x6 = 0) → ((6 ≤ x1 → (c39_115 x1 x2 x3 x4 x5 M Q)) ∧ (¬ (6 ≤ x1) → ((0 ≤ x6 ∧ x6 < 2147483648) ∧ (0 ≤ x7 ∧ x7 < 32) ∧ ((0 ≤ (tm_sr x6 x7) ∧ (tm_sr x6 x7) < 2147483648) ∧ (((tm_an (tm_sr x6 x7) 1) = 0 → (c39_109 x1 x2 x3 x4 x5 x6 x7 M Q)) ∧ (¬ ((tm_an (tm_sr x6 x7) 1) = 0) → (m35 x1 x5 x7 M (fun M1 => c39_109 x1 x2 x3 x4 x5 x6 x7 M1 Q)))))))))))) : c39_67 x1 x2 x3 x4 x5 x6 x7 M Q := by
  unfold c39_67
  refine ev_lo (lo' := [(0, .inr (.inr (some 15))), (1, .inl x1), (2, .inl x2), (3, .inl x3), (4, .inl x4), (5, .inl x5), (6, .inl x6), (7, .inl x7)]) (st' := [.inl x7]) (pc' := 69) rfl rfl rfl rfl ?_
  refine ev_lo (lo' := [(0, .inr (.inr (some 15))), (1, .inl x1), (2, .inl x2), (3, .inl x3), (4, .inl x4), (5, .inl x5), (6, .inl x6), (7, .inl x7)]) (st' := [.inr (.inr (some 15)), .inl x7]) (pc' := 70) rfl rfl rfl rfl ?_
  refine ev_get (v := .inr (.inr (some 10))) (pc' := 73) rfl rfl rfl rfl ?_
  refine ev_get (v := .inl (sC_size M)) (pc' := 76) rfl rfl rfl rfl ?_
  refine ev_icmp (pc' := 115) (pc2 := 79) rfl (by decide) rfl rfl (fun hc => ?_) (fun hc => ?_)
  · replace h := h.1 (of_decide_eq_true hc)
    exact ev_pick [0, 1, 2, 3, 4, 5] rfl rfl h
  · replace h := h.2 (of_decide_eq_false hc)
    refine ev_lo (lo' := [(0, .inr (.inr (some 15))), (1, .inl x1), (2, .inl x2), (3, .inl x3), (4, .inl x4), (5, .inl x5), (6, .inl x6), (7, .inl x7)]) (st' := [.inl x6]) (pc' := 81) rfl rfl rfl rfl ?_
    refine ev_ifT (pc' := 115) (pc2 := 84) rfl (by decide) rfl rfl (fun hc => ?_) (fun hc => ?_)
    · replace h := h.1 (of_decide_eq_true hc)
      exact ev_pick [0, 1, 2, 3, 4, 5] rfl rfl h
    · replace h := h.2 (of_decide_eq_false hc)
      refine ev_lo (lo' := [(0, .inr (.inr (some 15))), (1, .inl x1), (2, .inl x2), (3, .inl x3), (4, .inl x4), (5, .inl x5), (6, .inl x6), (7, .inl x7)]) (st' := [.inl x1]) (pc' := 85) rfl rfl rfl rfl ?_
      refine ev_pu (st' := [.inl 6, .inl x1]) (pc' := 87) rfl rfl rfl rfl ?_
      refine ev_icmp (pc' := 115) (pc2 := 90) rfl (by decide) rfl rfl (fun hc => ?_) (fun hc => ?_)
      · replace h := h.1 (of_decide_eq_true hc)
        exact ev_pick [0, 1, 2, 3, 4, 5] rfl rfl h
      · replace h := h.2 (of_decide_eq_false hc)
        refine ev_lo (lo' := [(0, .inr (.inr (some 15))), (1, .inl x1), (2, .inl x2), (3, .inl x3), (4, .inl x4), (5, .inl x5), (6, .inl x6), (7, .inl x7)]) (st' := [.inl x6]) (pc' := 92) rfl rfl rfl rfl ?_
        refine ev_lo (lo' := [(0, .inr (.inr (some 15))), (1, .inl x1), (2, .inl x2), (3, .inl x3), (4, .inl x4), (5, .inl x5), (6, .inl x6), (7, .inl x7)]) (st' := [.inl x7, .inl x6]) (pc' := 94) rfl rfl rfl rfl ?_
        obtain ⟨hs0, hs1, h⟩ := h
        refine ev_ii (f := fun a b => a >>> (b &&& 31)) (pc' := 95) rfl rfl (fun _ => rfl) (tm_sr_eq hs0 hs1) rfl ?_
        refine ev_pu (st' := [.inl 1, .inl (tm_sr x6 x7)]) (pc' := 96) rfl rfl rfl rfl ?_
        obtain ⟨hs0, h⟩ := h
        refine ev_ii (f := fun a b => a &&& b) (pc' := 97) rfl rfl (fun _ => rfl) (tm_an_eq hs0 (by decide)) rfl ?_
        refine ev_ifT (pc' := 109) (pc2 := 100) rfl (by decide) rfl rfl (fun hc => ?_) (fun hc => ?_)
        · replace h := h.1 (of_decide_eq_true hc)
          exact ev_pick [0, 1, 2, 3, 4, 5, 6, 7] rfl rfl h
        · replace h := h.2 (of_decide_eq_false hc)
          refine ev_lo (lo' := [(0, .inr (.inr (some 15))), (1, .inl x1), (2, .inl x2), (3, .inl x3), (4, .inl x4), (5, .inl x5), (6, .inl x6), (7, .inl x7)]) (st' := [.inr (.inr (some 15))]) (pc' := 101) rfl rfl rfl rfl ?_
          refine ev_lo (lo' := [(0, .inr (.inr (some 15))), (1, .inl x1), (2, .inl x2), (3, .inl x3), (4, .inl x4), (5, .inl x5), (6, .inl x6), (7, .inl x7)]) (st' := [.inl x1, .inr (.inr (some 15))]) (pc' := 102) rfl rfl rfl rfl ?_
          refine ev_lo (lo' := [(0, .inr (.inr (some 15))), (1, .inl x1), (2, .inl x2), (3, .inl x3), (4, .inl x4), (5, .inl x5), (6, .inl x6), (7, .inl x7)]) (st' := [.inl x5, .inl x1, .inr (.inr (some 15))]) (pc' := 104) rfl rfl rfl rfl ?_
          refine ev_lo (lo' := [(0, .inr (.inr (some 15))), (1, .inl x1), (2, .inl x2), (3, .inl x3), (4, .inl x4), (5, .inl x5), (6, .inl x6), (7, .inl x7)]) (st' := [.inl x7, .inl x5, .inl x1, .inr (.inr (some 15))]) (pc' := 106) rfl rfl rfl rfl ?_
          refine ev_call (as := [.inr (.inr (some 15)), .inl x1, .inl x5, .inl x7]) (r := []) (pc' := 109) rfl rfl (Nat.le_of_ble_eq_true rfl) (Nat.le_of_ble_eq_true rfl) ⟨rfl, rfl⟩ (Nat.le_of_ble_eq_true rfl) rfl rfl rfl rfl ?_
          refine ev.post h (fun v M1 h => ?_)
          obtain ⟨rfl, h⟩ := h
          show ev 39 109 [(0, .inr (.inr (some 15))), (1, .inl x1), (2, .inl x2), (3, .inl x3), (4, .inl x4), (5, .inl x5), (6, .inl x6), (7, .inl x7)] [] M1 _
          exact ev_pick [0, 1, 2, 3, 4, 5, 6, 7] rfl rfl h
set_option maxRecDepth 10000 in
theorem b39_109 {x1 x2 x3 x4 x5 x6 x7 : Int} {M : ev_M} {Q : Int → ev_M → Prop}
    (h : tm_iI (x7 + 1) ∧ (c39_67 x1 x2 x3 x4 x5 x6 (x7 + 1) M Q)) : c39_109 x1 x2 x3 x4 x5 x6 x7 M Q := by
  unfold c39_109
  obtain ⟨hs, h⟩ := h
  refine ev_iinc (lo' := [(7, .inl (x7 + 1)), (0, .inr (.inr (some 15))), (1, .inl x1), (2, .inl x2), (3, .inl x3), (4, .inl x4), (5, .inl x5), (6, .inl x6)]) (pc' := 112) rfl rfl (by decide) (tm_add hs) rfl rfl ?_
  refine ev_br (pc' := 67) (st' := []) rfl rfl rfl ?_
  exact ev_pick [0, 1, 2, 3, 4, 5, 6, 7] rfl rfl h
set_option maxRecDepth 10000 in
theorem b39_115 {x1 x2 x3 x4 x5 : Int} {M : ev_M} {Q : Int → ev_M → Prop}
    (h : tm_iI (x5 + 1) ∧ (c39_6 x1 x2 x3 x4 (x5 + 1) M Q)) : c39_115 x1 x2 x3 x4 x5 M Q := by
  unfold c39_115
  obtain ⟨hs, h⟩ := h
  refine ev_iinc (lo' := [(5, .inl (x5 + 1)), (0, .inr (.inr (some 15))), (1, .inl x1), (2, .inl x2), (3, .inl x3), (4, .inl x4)]) (pc' := 118) rfl rfl (by decide) (tm_add hs) rfl rfl ?_
  refine ev_br (pc' := 6) (st' := []) rfl rfl rfl ?_
  exact ev_pick [0, 1, 2, 3, 4, 5] rfl rfl h
/-! NulledForest$Uses.takeParts(III)V -/
def m40 (x1 x2 x3 : Int) (M : ev_M) (Q : ev_M → Prop) : Prop := ev 40 0 [(0, .inr (.inr (some 15))), (1, .inl x1), (2, .inl x2), (3, .inl x3)] [] M (fun v M1 => v = none ∧ Q M1)
def c40_12 (x1 x3 x4 : Int) (M : ev_M) (Q : ev_M → Prop) : Prop := ev 40 12 [(0, .inr (.inr (some 15))), (1, .inl x1), (3, .inl x3), (4, .inl x4)] [] M (fun v M1 => v = none ∧ Q M1)
def c40_85 (x1 x4 x5 : Int) (M : ev_M) (Q : ev_M → Prop) : Prop := ev 40 85 [(0, .inr (.inr (some 15))), (1, .inl x1), (4, .inl x4), (5, .inl x5)] [] M (fun v M1 => v = none ∧ Q M1)
set_option maxRecDepth 10000 in
theorem b40 {x1 x2 x3 : Int} {M : ev_M} {Q : ev_M → Prop}
    (h : (0 ≤ x2 ∧ x2 < 32) ∧ (1 : Int) * 2 ^ (x2).toNat < 2147483648 ∧ (c40_12 x1 x3 0 (ev_sA M 18 0 (tm_sl 1 x2)) Q)) : m40 x1 x2 x3 M Q := by
  unfold m40
  refine ev_lo (lo' := [(0, .inr (.inr (some 15))), (1, .inl x1), (2, .inl x2), (3, .inl x3)]) (st' := [.inr (.inr (some 15))]) (pc' := 1) rfl rfl rfl rfl ?_
  refine ev_get (v := .inr (.inr (some 18))) (pc' := 4) rfl rfl rfl rfl ?_
  refine ev_pu (st' := [.inl 0, .inr (.inr (some 18))]) (pc' := 5) rfl rfl rfl rfl ?_
  refine ev_pu (st' := [.inl 1, .inl 0, .inr (.inr (some 18))]) (pc' := 6) rfl rfl rfl rfl ?_
  refine ev_lo (lo' := [(0, .inr (.inr (some 15))), (1, .inl x1), (2, .inl x2), (3, .inl x3)]) (st' := [.inl x2, .inl 1, .inl 0, .inr (.inr (some 18))]) (pc' := 7) rfl rfl rfl rfl ?_
  obtain ⟨hs1, hs2, h⟩ := h
  refine ev_ii (f := fun a b => a <<< (b &&& 31)) (pc' := 8) rfl rfl (fun _ => rfl) (tm_sl_eq (by decide) hs1 hs2) rfl ?_
  refine ev_iast (n := 4) (f := aU_reached M) (M' := ev_sA M 18 0 (tm_sl 1 x2)) (pc' := 9) rfl rfl (by decide) (hp_a18 _ _ _) rfl ?_
  refine ev_pu (st' := [.inl 0]) (pc' := 10) rfl rfl rfl rfl ?_
  refine ev_lo (lo' := [(4, .inl 0), (0, .inr (.inr (some 15))), (1, .inl x1), (2, .inl x2), (3, .inl x3)]) (st' := []) (pc' := 12) rfl rfl rfl rfl ?_
  exact ev_pick [0, 1, 3, 4] rfl rfl h
set_option maxRecDepth 10000 in
theorem b40_12 {x1 x3 x4 : Int} {M : ev_M} {Q : ev_M → Prop}
    (h : (0 ≤ x1 ∧ x1 < 14) ∧ (tm_iI ((aG_size M (x1).toNat) - 1) ∧ ((((aG_size M (x1).toNat) - 1) ≤ x4 → ((0 ≤ x3 ∧ x3 < 32) ∧ (1 : Int) * 2 ^ (x3).toNat < 2147483648 ∧ ((0 ≤ x1 ∧ x1 < 14) ∧ (tm_iI ((aG_size M (x1).toNat) - 1) ∧ (c40_85 x1 (tm_sl 1 x3) ((aG_size M (x1).toNat) - 1) M Q))))) ∧ (¬ (((aG_size M (x1).toNat) - 1) ≤ x4) → (tm_iI (x4 + 1) ∧ (m4 x1 x4 M (fun w1 M1 => (0 ≤ x4 ∧ x4 < 4) ∧ (m25 w1 (aU_reached M1 (x4).toNat) M1 (fun w2 M2 => (0 ≤ (x4 + 1) ∧ (x4 + 1) < 4) ∧ (tm_iI (x4 + 1) ∧ (c40_12 x1 x3 (x4 + 1) (ev_sA M2 18 (x4 + 1).toNat w2) Q))))))))))) : c40_12 x1 x3 x4 M Q := by
  unfold c40_12
  refine ev_lo (lo' := [(0, .inr (.inr (some 15))), (1, .inl x1), (3, .inl x3), (4, .inl x4)]) (st' := [.inl x4]) (pc' := 14) rfl rfl rfl rfl ?_
  refine ev_lo (lo' := [(0, .inr (.inr (some 15))), (1, .inl x1), (3, .inl x3), (4, .inl x4)]) (st' := [.inr (.inr (some 15)), .inl x4]) (pc' := 15) rfl rfl rfl rfl ?_
  refine ev_get (v := .inr (.inr (some 1))) (pc' := 18) rfl rfl rfl rfl ?_
  refine ev_get (v := .inr (.inr (some 3))) (pc' := 21) rfl rfl rfl rfl ?_
  refine ev_lo (lo' := [(0, .inr (.inr (some 15))), (1, .inl x1), (3, .inl x3), (4, .inl x4)]) (st' := [.inl x1, .inr (.inr (some 3)), .inl x4]) (pc' := 22) rfl rfl rfl rfl ?_
  obtain ⟨hs0, h⟩ := h
  refine ev_ald (t := 0) (n := 14) (f := aG_size M) (w := fun x => .inl x) (pc' := 23) rfl rfl (fun _ _ => rfl) rfl hs0 rfl ?_
  refine ev_pu (st' := [.inl 1, .inl (aG_size M (x1).toNat), .inl x4]) (pc' := 24) rfl rfl rfl rfl ?_
  obtain ⟨hs, h⟩ := h
  refine ev_ii (f := fun a b => a - b) (pc' := 25) rfl rfl (fun _ => rfl) (tm_sub' hs) rfl ?_
  refine ev_icmp (pc' := 67) (pc2 := 28) rfl (by decide) rfl rfl (fun hc => ?_) (fun hc => ?_)
  · replace h := h.1 (of_decide_eq_true hc)
    refine ev_pu (st' := [.inl 1]) (pc' := 68) rfl rfl rfl rfl ?_
    refine ev_lo (lo' := [(0, .inr (.inr (some 15))), (1, .inl x1), (3, .inl x3), (4, .inl x4)]) (st' := [.inl x3, .inl 1]) (pc' := 69) rfl rfl rfl rfl ?_
    obtain ⟨hs1, hs2, h⟩ := h
    refine ev_ii (f := fun a b => a <<< (b &&& 31)) (pc' := 70) rfl rfl (fun _ => rfl) (tm_sl_eq (by decide) hs1 hs2) rfl ?_
    refine ev_lo (lo' := [(4, .inl (tm_sl 1 x3)), (0, .inr (.inr (some 15))), (1, .inl x1), (3, .inl x3)]) (st' := []) (pc' := 72) rfl rfl rfl rfl ?_
    refine ev_lo (lo' := [(4, .inl (tm_sl 1 x3)), (0, .inr (.inr (some 15))), (1, .inl x1), (3, .inl x3)]) (st' := [.inr (.inr (some 15))]) (pc' := 73) rfl rfl rfl rfl ?_
    refine ev_get (v := .inr (.inr (some 1))) (pc' := 76) rfl rfl rfl rfl ?_
    refine ev_get (v := .inr (.inr (some 3))) (pc' := 79) rfl rfl rfl rfl ?_
    refine ev_lo (lo' := [(4, .inl (tm_sl 1 x3)), (0, .inr (.inr (some 15))), (1, .inl x1), (3, .inl x3)]) (st' := [.inl x1, .inr (.inr (some 3))]) (pc' := 80) rfl rfl rfl rfl ?_
    obtain ⟨hs0, h⟩ := h
    refine ev_ald (t := 0) (n := 14) (f := aG_size M) (w := fun x => .inl x) (pc' := 81) rfl rfl (fun _ _ => rfl) rfl hs0 rfl ?_
    refine ev_pu (st' := [.inl 1, .inl (aG_size M (x1).toNat)]) (pc' := 82) rfl rfl rfl rfl ?_
    obtain ⟨hs, h⟩ := h
    refine ev_ii (f := fun a b => a - b) (pc' := 83) rfl rfl (fun _ => rfl) (tm_sub' hs) rfl ?_
    refine ev_lo (lo' := [(5, .inl ((aG_size M (x1).toNat) - 1)), (4, .inl (tm_sl 1 x3)), (0, .inr (.inr (some 15))), (1, .inl x1), (3, .inl x3)]) (st' := []) (pc' := 85) rfl rfl rfl rfl ?_
    exact ev_pick [0, 1, 4, 5] rfl rfl h
  · replace h := h.2 (of_decide_eq_false hc)
    refine ev_lo (lo' := [(0, .inr (.inr (some 15))), (1, .inl x1), (3, .inl x3), (4, .inl x4)]) (st' := [.inr (.inr (some 15))]) (pc' := 29) rfl rfl rfl rfl ?_
    refine ev_get (v := .inr (.inr (some 18))) (pc' := 32) rfl rfl rfl rfl ?_
    refine ev_lo (lo' := [(0, .inr (.inr (some 15))), (1, .inl x1), (3, .inl x3), (4, .inl x4)]) (st' := [.inl x4, .inr (.inr (some 18))]) (pc' := 34) rfl rfl rfl rfl ?_
    refine ev_pu (st' := [.inl 1, .inl x4, .inr (.inr (some 18))]) (pc' := 35) rfl rfl rfl rfl ?_
    obtain ⟨hs, h⟩ := h
    refine ev_ii (f := fun a b => a + b) (pc' := 36) rfl rfl (fun _ => rfl) (tm_add hs) rfl ?_
    refine ev_lo (lo' := [(0, .inr (.inr (some 15))), (1, .inl x1), (3, .inl x3), (4, .inl x4)]) (st' := [.inr (.inr (some 15)), .inl (x4 + 1), .inr (.inr (some 18))]) (pc' := 37) rfl rfl rfl rfl ?_
    refine ev_get (v := .inr (.inr (some 10))) (pc' := 40) rfl rfl rfl rfl ?_
    refine ev_lo (lo' := [(0, .inr (.inr (some 15))), (1, .inl x1), (3, .inl x3), (4, .inl x4)]) (st' := [.inr (.inr (some 15)), .inr (.inr (some 10)), .inl (x4 + 1), .inr (.inr (some 18))]) (pc' := 41) rfl rfl rfl rfl ?_
    refine ev_get (v := .inr (.inr (some 1))) (pc' := 44) rfl rfl rfl rfl ?_
    refine ev_lo (lo' := [(0, .inr (.inr (some 15))), (1, .inl x1), (3, .inl x3), (4, .inl x4)]) (st' := [.inl x1, .inr (.inr (some 1)), .inr (.inr (some 10)), .inl (x4 + 1), .inr (.inr (some 18))]) (pc' := 45) rfl rfl rfl rfl ?_
    refine ev_lo (lo' := [(0, .inr (.inr (some 15))), (1, .inl x1), (3, .inl x3), (4, .inl x4)]) (st' := [.inl x4, .inl x1, .inr (.inr (some 1)), .inr (.inr (some 10)), .inl (x4 + 1), .inr (.inr (some 18))]) (pc' := 47) rfl rfl rfl rfl ?_
    refine ev_call (as := [.inr (.inr (some 1)), .inl x1, .inl x4]) (r := [.inr (.inr (some 10)), .inl (x4 + 1), .inr (.inr (some 18))]) (pc' := 50) rfl rfl (Nat.le_of_ble_eq_true rfl) (Nat.le_of_ble_eq_true rfl) ⟨rfl, rfl⟩ (Nat.le_of_ble_eq_true rfl) rfl rfl rfl rfl ?_
    refine ev.post h (fun v M1 h => ?_)
    obtain ⟨w1, rfl, h⟩ := h
    show ev 40 50 [(0, .inr (.inr (some 15))), (1, .inl x1), (3, .inl x3), (4, .inl x4)] [.inl w1, .inr (.inr (some 10)), .inl (x4 + 1), .inr (.inr (some 18))] M1 _
    refine ev_lo (lo' := [(0, .inr (.inr (some 15))), (1, .inl x1), (3, .inl x3), (4, .inl x4)]) (st' := [.inr (.inr (some 15)), .inl w1, .inr (.inr (some 10)), .inl (x4 + 1), .inr (.inr (some 18))]) (pc' := 51) rfl rfl rfl rfl ?_
    refine ev_get (v := .inr (.inr (some 18))) (pc' := 54) rfl rfl rfl rfl ?_
    refine ev_lo (lo' := [(0, .inr (.inr (some 15))), (1, .inl x1), (3, .inl x3), (4, .inl x4)]) (st' := [.inl x4, .inr (.inr (some 18)), .inl w1, .inr (.inr (some 10)), .inl (x4 + 1), .inr (.inr (some 18))]) (pc' := 56) rfl rfl rfl rfl ?_
    obtain ⟨hs0, h⟩ := h
    refine ev_ald (t := 0) (n := 4) (f := aU_reached M1) (w := fun x => .inl x) (pc' := 57) rfl rfl (fun _ _ => rfl) rfl hs0 rfl ?_
    refine ev_call (as := [.inr (.inr (some 10)), .inl w1, .inl (aU_reached M1 (x4).toNat)]) (r := [.inl (x4 + 1), .inr (.inr (some 18))]) (pc' := 60) rfl rfl (Nat.le_of_ble_eq_true rfl) (Nat.le_of_ble_eq_true rfl) ⟨rfl, rfl⟩ (Nat.le_of_ble_eq_true rfl) rfl rfl rfl rfl ?_
    refine ev.post h (fun v M2 h => ?_)
    obtain ⟨w2, rfl, h⟩ := h
    show ev 40 60 [(0, .inr (.inr (some 15))), (1, .inl x1), (3, .inl x3), (4, .inl x4)] [.inl w2, .inl (x4 + 1), .inr (.inr (some 18))] M2 _
    obtain ⟨hs0, h⟩ := h
    refine ev_iast (n := 4) (f := aU_reached M2) (M' := ev_sA M2 18 (x4 + 1).toNat w2) (pc' := 61) rfl rfl hs0 (hp_a18 _ _ _) rfl ?_
    obtain ⟨hs, h⟩ := h
    refine ev_iinc (lo' := [(4, .inl (x4 + 1)), (0, .inr (.inr (some 15))), (1, .inl x1), (3, .inl x3)]) (pc' := 64) rfl rfl (by decide) (tm_add hs) rfl rfl ?_
    refine ev_br (pc' := 12) (st' := []) rfl rfl rfl ?_
    exact ev_pick [0, 1, 3, 4] rfl rfl h
set_option maxRecDepth 10000 in
theorem b40_85 {x1 x4 x5 : Int} {M : ev_M} {Q : ev_M → Prop}
    (h : (x5 < 0 → (Q M)) ∧ (¬ (x5 < 0) → (m4 x1 x5 M (fun w1 M1 => (0 ≤ x5 ∧ x5 < 4) ∧ (m39 w1 (aU_reached M1 (x5).toNat) x4 M1 (fun w2 M2 => tm_iI (x5 + (-1)) ∧ (c40_85 x1 w2 (x5 + (-1)) M2 Q))))))) : c40_85 x1 x4 x5 M Q := by
  unfold c40_85
  refine ev_lo (lo' := [(0, .inr (.inr (some 15))), (1, .inl x1), (4, .inl x4), (5, .inl x5)]) (st' := [.inl x5]) (pc' := 87) rfl rfl rfl rfl ?_
  refine ev_ifT (pc' := 121) (pc2 := 90) rfl (by decide) rfl rfl (fun hc => ?_) (fun hc => ?_)
  · replace h := h.1 (of_decide_eq_true hc)
    exact ev_rt rfl rfl rfl ⟨rfl, h⟩
  · replace h := h.2 (of_decide_eq_false hc)
    refine ev_lo (lo' := [(0, .inr (.inr (some 15))), (1, .inl x1), (4, .inl x4), (5, .inl x5)]) (st' := [.inr (.inr (some 15))]) (pc' := 91) rfl rfl rfl rfl ?_
    refine ev_lo (lo' := [(0, .inr (.inr (some 15))), (1, .inl x1), (4, .inl x4), (5, .inl x5)]) (st' := [.inr (.inr (some 15)), .inr (.inr (some 15))]) (pc' := 92) rfl rfl rfl rfl ?_
    refine ev_get (v := .inr (.inr (some 1))) (pc' := 95) rfl rfl rfl rfl ?_
    refine ev_lo (lo' := [(0, .inr (.inr (some 15))), (1, .inl x1), (4, .inl x4), (5, .inl x5)]) (st' := [.inl x1, .inr (.inr (some 1)), .inr (.inr (some 15))]) (pc' := 96) rfl rfl rfl rfl ?_
    refine ev_lo (lo' := [(0, .inr (.inr (some 15))), (1, .inl x1), (4, .inl x4), (5, .inl x5)]) (st' := [.inl x5, .inl x1, .inr (.inr (some 1)), .inr (.inr (some 15))]) (pc' := 98) rfl rfl rfl rfl ?_
    refine ev_call (as := [.inr (.inr (some 1)), .inl x1, .inl x5]) (r := [.inr (.inr (some 15))]) (pc' := 101) rfl rfl (Nat.le_of_ble_eq_true rfl) (Nat.le_of_ble_eq_true rfl) ⟨rfl, rfl⟩ (Nat.le_of_ble_eq_true rfl) rfl rfl rfl rfl ?_
    refine ev.post h (fun v M1 h => ?_)
    obtain ⟨w1, rfl, h⟩ := h
    show ev 40 101 [(0, .inr (.inr (some 15))), (1, .inl x1), (4, .inl x4), (5, .inl x5)] [.inl w1, .inr (.inr (some 15))] M1 _
    refine ev_lo (lo' := [(0, .inr (.inr (some 15))), (1, .inl x1), (4, .inl x4), (5, .inl x5)]) (st' := [.inr (.inr (some 15)), .inl w1, .inr (.inr (some 15))]) (pc' := 102) rfl rfl rfl rfl ?_
    refine ev_get (v := .inr (.inr (some 18))) (pc' := 105) rfl rfl rfl rfl ?_
    refine ev_lo (lo' := [(0, .inr (.inr (some 15))), (1, .inl x1), (4, .inl x4), (5, .inl x5)]) (st' := [.inl x5, .inr (.inr (some 18)), .inl w1, .inr (.inr (some 15))]) (pc' := 107) rfl rfl rfl rfl ?_
    obtain ⟨hs0, h⟩ := h
    refine ev_ald (t := 0) (n := 4) (f := aU_reached M1) (w := fun x => .inl x) (pc' := 108) rfl rfl (fun _ _ => rfl) rfl hs0 rfl ?_
    refine ev_lo (lo' := [(0, .inr (.inr (some 15))), (1, .inl x1), (4, .inl x4), (5, .inl x5)]) (st' := [.inl x4, .inl (aU_reached M1 (x5).toNat), .inl w1, .inr (.inr (some 15))]) (pc' := 110) rfl rfl rfl rfl ?_
    refine ev_call (as := [.inr (.inr (some 15)), .inl w1, .inl (aU_reached M1 (x5).toNat), .inl x4]) (r := []) (pc' := 113) rfl rfl (Nat.le_of_ble_eq_true rfl) (Nat.le_of_ble_eq_true rfl) ⟨rfl, rfl⟩ (Nat.le_of_ble_eq_true rfl) rfl rfl rfl rfl ?_
    refine ev.post h (fun v M2 h => ?_)
    obtain ⟨w2, rfl, h⟩ := h
    show ev 40 113 [(0, .inr (.inr (some 15))), (1, .inl x1), (4, .inl x4), (5, .inl x5)] [.inl w2] M2 _
    refine ev_lo (lo' := [(4, .inl w2), (0, .inr (.inr (some 15))), (1, .inl x1), (5, .inl x5)]) (st' := []) (pc' := 115) rfl rfl rfl rfl ?_
    obtain ⟨hs, h⟩ := h
    refine ev_iinc (lo' := [(5, .inl (x5 + (-1))), (4, .inl w2), (0, .inr (.inr (some 15))), (1, .inl x1)]) (pc' := 118) rfl rfl (by decide) (tm_add hs) rfl rfl ?_
    refine ev_br (pc' := 85) (st' := []) rfl rfl rfl ?_
    exact ev_pick [0, 1, 4, 5] rfl rfl h
/-! NulledForest$Uses.mark()V -/
def m41 (M : ev_M) (Q : ev_M → Prop) : Prop := ev 41 0 [(0, .inr (.inr (some 15)))] [] M (fun v M1 => v = none ∧ Q M1)
def c41_45 (M : ev_M) (Q : ev_M → Prop) : Prop := ev 41 45 [(0, .inr (.inr (some 15)))] [] M (fun v M1 => v = none ∧ Q M1)
def c41_47 (x1 : Int) (M : ev_M) (Q : ev_M → Prop) : Prop := ev 41 47 [(0, .inr (.inr (some 15))), (1, .inl x1)] [] M (fun v M1 => v = none ∧ Q M1)
def c41_71 (x1 x2 x3 : Int) (M : ev_M) (Q : ev_M → Prop) : Prop := ev 41 71 [(0, .inr (.inr (some 15))), (1, .inl x1), (2, .inl x2), (3, .inl x3)] [] M (fun v M1 => v = none ∧ Q M1)
def c41_111 (x1 x2 x3 : Int) (M : ev_M) (Q : ev_M → Prop) : Prop := ev 41 111 [(0, .inr (.inr (some 15))), (1, .inl x1), (2, .inl x2), (3, .inl x3)] [] M (fun v M1 => v = none ∧ Q M1)
def c41_123 (M : ev_M) (Q : ev_M → Prop) : Prop := ev 41 123 [] [] M (fun v M1 => v = none ∧ Q M1)
set_option maxRecDepth 10000 in
theorem b41 {M : ev_M} {Q : ev_M → Prop}
    (h : m1 16 0 M (fun M1 => m24 0 0 (sC_size M1) (ev_sS M1 6 0) (fun w2 M2 => (w2 = 0 → (c41_45 M2 Q)) ∧ (¬ (w2 = 0) → (m35 0 0 (sC_size M2) M2 (fun M3 => c41_45 M3 Q)))))) : m41 M Q := by
  unfold m41
  refine ev_lo (lo' := [(0, .inr (.inr (some 15)))]) (st' := [.inr (.inr (some 15))]) (pc' := 1) rfl rfl rfl rfl ?_
  refine ev_get (v := .inr (.inr (some 16))) (pc' := 4) rfl rfl rfl rfl ?_
  refine ev_pu (st' := [.inl 0, .inr (.inr (some 16))]) (pc' := 5) rfl rfl rfl rfl ?_
  refine ev_call (as := [.inr (.inr (some 16)), .inl 0]) (r := []) (pc' := 8) rfl rfl (Nat.le_of_ble_eq_true rfl) (Nat.le_of_ble_eq_true rfl) ⟨rfl, rfl⟩ (Nat.le_of_ble_eq_true rfl) rfl rfl rfl rfl ?_
  refine ev.post h (fun v M1 h => ?_)
  obtain ⟨rfl, h⟩ := h
  show ev 41 8 [(0, .inr (.inr (some 15)))] [] M1 _
  refine ev_lo (lo' := [(0, .inr (.inr (some 15)))]) (st' := [.inr (.inr (some 15))]) (pc' := 9) rfl rfl rfl rfl ?_
  refine ev_pu (st' := [.inl 0, .inr (.inr (some 15))]) (pc' := 10) rfl rfl rfl rfl ?_
  refine ev_put (M' := ev_sS M1 6 0) (pc' := 13) rfl rfl (Nat.le_of_ble_eq_true rfl) rfl (hp_s6 _ _) rfl ?_
  refine ev_lo (lo' := [(0, .inr (.inr (some 15)))]) (st' := [.inr (.inr (some 15))]) (pc' := 14) rfl rfl rfl rfl ?_
  refine ev_get (v := .inr (.inr (some 10))) (pc' := 17) rfl rfl rfl rfl ?_
  refine ev_pu (st' := [.inl 0, .inr (.inr (some 10))]) (pc' := 18) rfl rfl rfl rfl ?_
  refine ev_pu (st' := [.inl 0, .inl 0, .inr (.inr (some 10))]) (pc' := 19) rfl rfl rfl rfl ?_
  refine ev_lo (lo' := [(0, .inr (.inr (some 15)))]) (st' := [.inr (.inr (some 15)), .inl 0, .inl 0, .inr (.inr (some 10))]) (pc' := 20) rfl rfl rfl rfl ?_
  refine ev_get (v := .inr (.inr (some 10))) (pc' := 23) rfl rfl rfl rfl ?_
  refine ev_get (v := .inl (sC_size M1)) (pc' := 26) rfl rfl rfl rfl ?_
  refine ev_call (as := [.inr (.inr (some 10)), .inl 0, .inl 0, .inl (sC_size M1)]) (r := []) (pc' := 29) rfl rfl (Nat.le_of_ble_eq_true rfl) (Nat.le_of_ble_eq_true rfl) ⟨rfl, rfl⟩ (Nat.le_of_ble_eq_true rfl) rfl rfl rfl rfl ?_
  refine ev.post h (fun v M2 h => ?_)
  obtain ⟨w2, rfl, h⟩ := h
  show ev 41 29 [(0, .inr (.inr (some 15)))] [.inl w2] M2 _
  refine ev_ifT (pc' := 45) (pc2 := 32) rfl (by decide) rfl rfl (fun hc => ?_) (fun hc => ?_)
  · replace h := h.1 (of_decide_eq_true hc)
    exact ev_pick [0] rfl rfl h
  · replace h := h.2 (of_decide_eq_false hc)
    refine ev_lo (lo' := [(0, .inr (.inr (some 15)))]) (st' := [.inr (.inr (some 15))]) (pc' := 33) rfl rfl rfl rfl ?_
    refine ev_pu (st' := [.inl 0, .inr (.inr (some 15))]) (pc' := 34) rfl rfl rfl rfl ?_
    refine ev_pu (st' := [.inl 0, .inl 0, .inr (.inr (some 15))]) (pc' := 35) rfl rfl rfl rfl ?_
    refine ev_lo (lo' := [(0, .inr (.inr (some 15)))]) (st' := [.inr (.inr (some 15)), .inl 0, .inl 0, .inr (.inr (some 15))]) (pc' := 36) rfl rfl rfl rfl ?_
    refine ev_get (v := .inr (.inr (some 10))) (pc' := 39) rfl rfl rfl rfl ?_
    refine ev_get (v := .inl (sC_size M2)) (pc' := 42) rfl rfl rfl rfl ?_
    refine ev_call (as := [.inr (.inr (some 15)), .inl 0, .inl 0, .inl (sC_size M2)]) (r := []) (pc' := 45) rfl rfl (Nat.le_of_ble_eq_true rfl) (Nat.le_of_ble_eq_true rfl) ⟨rfl, rfl⟩ (Nat.le_of_ble_eq_true rfl) rfl rfl rfl rfl ?_
    refine ev.post h (fun v M3 h => ?_)
    obtain ⟨rfl, h⟩ := h
    show ev 41 45 [(0, .inr (.inr (some 15)))] [] M3 _
    exact ev_pick [0] rfl rfl h
set_option maxRecDepth 10000 in
theorem b41_45 {M : ev_M} {Q : ev_M → Prop}
    (h : c41_47 0 M Q) : c41_45 M Q := by
  unfold c41_45
  refine ev_pu (st' := [.inl 0]) (pc' := 46) rfl rfl rfl rfl ?_
  refine ev_lo (lo' := [(1, .inl 0), (0, .inr (.inr (some 15)))]) (st' := []) (pc' := 47) rfl rfl rfl rfl ?_
  exact ev_pick [0, 1] rfl rfl h
set_option maxRecDepth 10000 in
theorem b41_47 {x1 : Int} {M : ev_M} {Q : ev_M → Prop}
    (h : ((sU_count M) ≤ x1 → (c41_123 M Q)) ∧ (¬ ((sU_count M) ≤ x1) → ((396 ≤ x1 → (c41_123 M Q)) ∧ (¬ (396 ≤ x1) → ((0 ≤ x1 ∧ x1 < 396) ∧ (c41_71 x1 (aU_queue M (x1).toNat) 0 M Q)))))) : c41_47 x1 M Q := by
  unfold c41_47
  refine ev_lo (lo' := [(0, .inr (.inr (some 15))), (1, .inl x1)]) (st' := [.inl x1]) (pc' := 48) rfl rfl rfl rfl ?_
  refine ev_lo (lo' := [(0, .inr (.inr (some 15))), (1, .inl x1)]) (st' := [.inr (.inr (some 15)), .inl x1]) (pc' := 49) rfl rfl rfl rfl ?_
  refine ev_get (v := .inl (sU_count M)) (pc' := 52) rfl rfl rfl rfl ?_
  refine ev_icmp (pc' := 123) (pc2 := 55) rfl (by decide) rfl rfl (fun hc => ?_) (fun hc => ?_)
  · replace h := h.1 (of_decide_eq_true hc)
    exact ev_pick [] rfl rfl h
  · replace h := h.2 (of_decide_eq_false hc)
    refine ev_lo (lo' := [(0, .inr (.inr (some 15))), (1, .inl x1)]) (st' := [.inl x1]) (pc' := 56) rfl rfl rfl rfl ?_
    refine ev_pu (st' := [.inl 396, .inl x1]) (pc' := 59) rfl rfl rfl rfl ?_
    refine ev_icmp (pc' := 123) (pc2 := 62) rfl (by decide) rfl rfl (fun hc => ?_) (fun hc => ?_)
    · replace h := h.1 (of_decide_eq_true hc)
      exact ev_pick [] rfl rfl h
    · replace h := h.2 (of_decide_eq_false hc)
      refine ev_lo (lo' := [(0, .inr (.inr (some 15))), (1, .inl x1)]) (st' := [.inr (.inr (some 15))]) (pc' := 63) rfl rfl rfl rfl ?_
      refine ev_get (v := .inr (.inr (some 17))) (pc' := 66) rfl rfl rfl rfl ?_
      refine ev_lo (lo' := [(0, .inr (.inr (some 15))), (1, .inl x1)]) (st' := [.inl x1, .inr (.inr (some 17))]) (pc' := 67) rfl rfl rfl rfl ?_
      obtain ⟨hs0, h⟩ := h
      refine ev_ald (t := 0) (n := 396) (f := aU_queue M) (w := fun x => .inl x) (pc' := 68) rfl rfl (fun _ _ => rfl) rfl hs0 rfl ?_
      refine ev_lo (lo' := [(2, .inl (aU_queue M (x1).toNat)), (0, .inr (.inr (some 15))), (1, .inl x1)]) (st' := []) (pc' := 69) rfl rfl rfl rfl ?_
      refine ev_pu (st' := [.inl 0]) (pc' := 70) rfl rfl rfl rfl ?_
      refine ev_lo (lo' := [(3, .inl 0), (2, .inl (aU_queue M (x1).toNat)), (0, .inr (.inr (some 15))), (1, .inl x1)]) (st' := []) (pc' := 71) rfl rfl rfl rfl ?_
      exact ev_pick [0, 1, 2, 3] rfl rfl h
set_option maxRecDepth 10000 in
theorem b41_71 {x1 x2 x3 : Int} {M : ev_M} {Q : ev_M → Prop}
    (h : ((sG_count M) ≤ x3 → (tm_iI (x1 + 1) ∧ (c41_47 (x1 + 1) M Q))) ∧ (¬ ((sG_count M) ≤ x3) → ((0 ≤ x3 ∧ x3 < 14) ∧ (m36 x2 M (fun w1 M1 => (¬ (aG_left M (x3).toNat) = w1 → (c41_111 x1 x2 x3 M1 Q)) ∧ (¬ (¬ (aG_left M (x3).toNat) = w1) → (m37 x2 M1 (fun w2 M2 => m38 x2 M2 (fun w3 M3 => m40 x3 w2 w3 M3 (fun M4 => c41_111 x1 x2 x3 M4 Q)))))))))) : c41_71 x1 x2 x3 M Q := by
  unfold c41_71
  refine ev_lo (lo' := [(0, .inr (.inr (some 15))), (1, .inl x1), (2, .inl x2), (3, .inl x3)]) (st' := [.inl x3]) (pc' := 72) rfl rfl rfl rfl ?_
  refine ev_lo (lo' := [(0, .inr (.inr (some 15))), (1, .inl x1), (2, .inl x2), (3, .inl x3)]) (st' := [.inr (.inr (some 15)), .inl x3]) (pc' := 73) rfl rfl rfl rfl ?_
  refine ev_get (v := .inr (.inr (some 1))) (pc' := 76) rfl rfl rfl rfl ?_
  refine ev_get (v := .inl (sG_count M)) (pc' := 79) rfl rfl rfl rfl ?_
  refine ev_icmp (pc' := 117) (pc2 := 82) rfl (by decide) rfl rfl (fun hc => ?_) (fun hc => ?_)
  · replace h := h.1 (of_decide_eq_true hc)
    obtain ⟨hs, h⟩ := h
    refine ev_iinc (lo' := [(1, .inl (x1 + 1)), (0, .inr (.inr (some 15))), (2, .inl x2), (3, .inl x3)]) (pc' := 120) rfl rfl (by decide) (tm_add hs) rfl rfl ?_
    refine ev_br (pc' := 47) (st' := []) rfl rfl rfl ?_
    exact ev_pick [0, 1] rfl rfl h
  · replace h := h.2 (of_decide_eq_false hc)
    refine ev_lo (lo' := [(0, .inr (.inr (some 15))), (1, .inl x1), (2, .inl x2), (3, .inl x3)]) (st' := [.inr (.inr (some 15))]) (pc' := 83) rfl rfl rfl rfl ?_
    refine ev_get (v := .inr (.inr (some 1))) (pc' := 86) rfl rfl rfl rfl ?_
    refine ev_get (v := .inr (.inr (some 2))) (pc' := 89) rfl rfl rfl rfl ?_
    refine ev_lo (lo' := [(0, .inr (.inr (some 15))), (1, .inl x1), (2, .inl x2), (3, .inl x3)]) (st' := [.inl x3, .inr (.inr (some 2))]) (pc' := 90) rfl rfl rfl rfl ?_
    obtain ⟨hs0, h⟩ := h
    refine ev_ald (t := 0) (n := 14) (f := aG_left M) (w := fun x => .inl x) (pc' := 91) rfl rfl (fun _ _ => rfl) rfl hs0 rfl ?_
    refine ev_lo (lo' := [(0, .inr (.inr (some 15))), (1, .inl x1), (2, .inl x2), (3, .inl x3)]) (st' := [.inl x2, .inl (aG_left M (x3).toNat)]) (pc' := 92) rfl rfl rfl rfl ?_
    refine ev_call (as := [.inl x2]) (r := [.inl (aG_left M (x3).toNat)]) (pc' := 95) rfl rfl (Nat.le_of_ble_eq_true rfl) (Nat.le_of_ble_eq_true rfl) ⟨rfl, rfl⟩ (Nat.le_of_ble_eq_true rfl) rfl rfl rfl rfl ?_
    refine ev.post h (fun v M1 h => ?_)
    obtain ⟨w1, rfl, h⟩ := h
    show ev 41 95 [(0, .inr (.inr (some 15))), (1, .inl x1), (2, .inl x2), (3, .inl x3)] [.inl w1, .inl (aG_left M (x3).toNat)] M1 _
    refine ev_icmp (pc' := 111) (pc2 := 98) rfl (by decide) rfl rfl (fun hc => ?_) (fun hc => ?_)
    · replace h := h.1 (of_decide_eq_true hc)
      exact ev_pick [0, 1, 2, 3] rfl rfl h
    · replace h := h.2 (of_decide_eq_false hc)
      refine ev_lo (lo' := [(0, .inr (.inr (some 15))), (1, .inl x1), (2, .inl x2), (3, .inl x3)]) (st' := [.inr (.inr (some 15))]) (pc' := 99) rfl rfl rfl rfl ?_
      refine ev_lo (lo' := [(0, .inr (.inr (some 15))), (1, .inl x1), (2, .inl x2), (3, .inl x3)]) (st' := [.inl x3, .inr (.inr (some 15))]) (pc' := 100) rfl rfl rfl rfl ?_
      refine ev_lo (lo' := [(0, .inr (.inr (some 15))), (1, .inl x1), (2, .inl x2), (3, .inl x3)]) (st' := [.inl x2, .inl x3, .inr (.inr (some 15))]) (pc' := 101) rfl rfl rfl rfl ?_
      refine ev_call (as := [.inl x2]) (r := [.inl x3, .inr (.inr (some 15))]) (pc' := 104) rfl rfl (Nat.le_of_ble_eq_true rfl) (Nat.le_of_ble_eq_true rfl) ⟨rfl, rfl⟩ (Nat.le_of_ble_eq_true rfl) rfl rfl rfl rfl ?_
      refine ev.post h (fun v M2 h => ?_)
      obtain ⟨w2, rfl, h⟩ := h
      show ev 41 104 [(0, .inr (.inr (some 15))), (1, .inl x1), (2, .inl x2), (3, .inl x3)] [.inl w2, .inl x3, .inr (.inr (some 15))] M2 _
      refine ev_lo (lo' := [(0, .inr (.inr (some 15))), (1, .inl x1), (2, .inl x2), (3, .inl x3)]) (st' := [.inl x2, .inl w2, .inl x3, .inr (.inr (some 15))]) (pc' := 105) rfl rfl rfl rfl ?_
      refine ev_call (as := [.inl x2]) (r := [.inl w2, .inl x3, .inr (.inr (some 15))]) (pc' := 108) rfl rfl (Nat.le_of_ble_eq_true rfl) (Nat.le_of_ble_eq_true rfl) ⟨rfl, rfl⟩ (Nat.le_of_ble_eq_true rfl) rfl rfl rfl rfl ?_
      refine ev.post h (fun v M3 h => ?_)
      obtain ⟨w3, rfl, h⟩ := h
      show ev 41 108 [(0, .inr (.inr (some 15))), (1, .inl x1), (2, .inl x2), (3, .inl x3)] [.inl w3, .inl w2, .inl x3, .inr (.inr (some 15))] M3 _
      refine ev_call (as := [.inr (.inr (some 15)), .inl x3, .inl w2, .inl w3]) (r := []) (pc' := 111) rfl rfl (Nat.le_of_ble_eq_true rfl) (Nat.le_of_ble_eq_true rfl) ⟨rfl, rfl⟩ (Nat.le_of_ble_eq_true rfl) rfl rfl rfl rfl ?_
      refine ev.post h (fun v M4 h => ?_)
      obtain ⟨rfl, h⟩ := h
      show ev 41 111 [(0, .inr (.inr (some 15))), (1, .inl x1), (2, .inl x2), (3, .inl x3)] [] M4 _
      exact ev_pick [0, 1, 2, 3] rfl rfl h
set_option maxRecDepth 10000 in
theorem b41_111 {x1 x2 x3 : Int} {M : ev_M} {Q : ev_M → Prop}
    (h : tm_iI (x3 + 1) ∧ (c41_71 x1 x2 (x3 + 1) M Q)) : c41_111 x1 x2 x3 M Q := by
  unfold c41_111
  obtain ⟨hs, h⟩ := h
  refine ev_iinc (lo' := [(3, .inl (x3 + 1)), (0, .inr (.inr (some 15))), (1, .inl x1), (2, .inl x2)]) (pc' := 114) rfl rfl (by decide) (tm_add hs) rfl rfl ?_
  refine ev_br (pc' := 71) (st' := []) rfl rfl rfl ?_
  exact ev_pick [0, 1, 2, 3] rfl rfl h
set_option maxRecDepth 10000 in
theorem b41_123 {M : ev_M} {Q : ev_M → Prop}
    (h : Q M) : c41_123 M Q := by
  unfold c41_123
  exact ev_rt rfl rfl rfl ⟨rfl, h⟩
/-! NulledForest$Uses.countCuts(III)I -/
def m42 (x1 x2 x3 : Int) (M : ev_M) (Q : Int → ev_M → Prop) : Prop := ev 42 0 [(0, .inr (.inr (some 15))), (1, .inl x1), (2, .inl x2), (3, .inl x3)] [] M (fun v M1 => ∃ w : Int, v = some (.inl w) ∧ Q w M1)
def c42_18 (x1 x2 x3 x4 : Int) (M : ev_M) (Q : Int → ev_M → Prop) : Prop := ev 42 18 [(0, .inr (.inr (some 15))), (1, .inl x1), (2, .inl x2), (3, .inl x3), (4, .inl x4)] [] M (fun v M1 => ∃ w : Int, v = some (.inl w) ∧ Q w M1)
def c42_35 (x1 x2 x3 x4 x5 : Int) (M : ev_M) (Q : Int → ev_M → Prop) : Prop := ev 42 35 [(0, .inr (.inr (some 15))), (1, .inl x1), (2, .inl x2), (3, .inl x3), (4, .inl x4), (5, .inl x5)] [] M (fun v M1 => ∃ w : Int, v = some (.inl w) ∧ Q w M1)
def c42_47 (x1 x2 x3 x4 x5 x6 x7 : Int) (M : ev_M) (Q : Int → ev_M → Prop) : Prop := ev 42 47 [(0, .inr (.inr (some 15))), (1, .inl x1), (2, .inl x2), (3, .inl x3), (4, .inl x4), (5, .inl x5), (6, .inl x6), (7, .inl x7)] [] M (fun v M1 => ∃ w : Int, v = some (.inl w) ∧ Q w M1)
def c42_91 (x1 x2 x3 x4 x5 x7 t0 t1 : Int) (M : ev_M) (Q : Int → ev_M → Prop) : Prop := ev 42 91 [(0, .inr (.inr (some 15))), (1, .inl x1), (2, .inl x2), (3, .inl x3), (4, .inl x4), (5, .inl x5), (7, .inl x7)] [.inl t1, .inl t0] M (fun v M1 => ∃ w : Int, v = some (.inl w) ∧ Q w M1)
set_option maxRecDepth 10000 in
theorem b42 {x1 x2 x3 : Int} {M : ev_M} {Q : Int → ev_M → Prop}
    (h : m1 19 0 M (fun M1 => (0 ≤ x2 ∧ x2 < 11) ∧ (c42_18 x1 x2 x3 0 (ev_sA M1 19 (x2).toNat 1) Q))) : m42 x1 x2 x3 M Q := by
  unfold m42
  refine ev_lo (lo' := [(0, .inr (.inr (some 15))), (1, .inl x1), (2, .inl x2), (3, .inl x3)]) (st' := [.inr (.inr (some 15))]) (pc' := 1) rfl rfl rfl rfl ?_
  refine ev_get (v := .inr (.inr (some 19))) (pc' := 4) rfl rfl rfl rfl ?_
  refine ev_pu (st' := [.inl 0, .inr (.inr (some 19))]) (pc' := 5) rfl rfl rfl rfl ?_
  refine ev_call (as := [.inr (.inr (some 19)), .inl 0]) (r := []) (pc' := 8) rfl rfl (Nat.le_of_ble_eq_true rfl) (Nat.le_of_ble_eq_true rfl) ⟨rfl, rfl⟩ (Nat.le_of_ble_eq_true rfl) rfl rfl rfl rfl ?_
  refine ev.post h (fun v M1 h => ?_)
  obtain ⟨rfl, h⟩ := h
  show ev 42 8 [(0, .inr (.inr (some 15))), (1, .inl x1), (2, .inl x2), (3, .inl x3)] [] M1 _
  refine ev_lo (lo' := [(0, .inr (.inr (some 15))), (1, .inl x1), (2, .inl x2), (3, .inl x3)]) (st' := [.inr (.inr (some 15))]) (pc' := 9) rfl rfl rfl rfl ?_
  refine ev_get (v := .inr (.inr (some 19))) (pc' := 12) rfl rfl rfl rfl ?_
  refine ev_lo (lo' := [(0, .inr (.inr (some 15))), (1, .inl x1), (2, .inl x2), (3, .inl x3)]) (st' := [.inl x2, .inr (.inr (some 19))]) (pc' := 13) rfl rfl rfl rfl ?_
  refine ev_pu (st' := [.inl 1, .inl x2, .inr (.inr (some 19))]) (pc' := 14) rfl rfl rfl rfl ?_
  obtain ⟨hs0, h⟩ := h
  refine ev_iast (n := 11) (f := aU_ways M1) (M' := ev_sA M1 19 (x2).toNat 1) (pc' := 15) rfl rfl hs0 (hp_a19 _ _ _) rfl ?_
  refine ev_pu (st' := [.inl 0]) (pc' := 16) rfl rfl rfl rfl ?_
  refine ev_lo (lo' := [(4, .inl 0), (0, .inr (.inr (some 15))), (1, .inl x1), (2, .inl x2), (3, .inl x3)]) (st' := []) (pc' := 18) rfl rfl rfl rfl ?_
  exact ev_pick [0, 1, 2, 3, 4] rfl rfl h
set_option maxRecDepth 10000 in
theorem b42_18 {x1 x2 x3 x4 : Int} {M : ev_M} {Q : Int → ev_M → Prop}
    (h : (0 ≤ x1 ∧ x1 < 14) ∧ (((aG_size M (x1).toNat) ≤ x4 → ((0 ≤ x3 ∧ x3 < 11) ∧ (Q (aU_ways M (x3).toNat) M))) ∧ (¬ ((aG_size M (x1).toNat) ≤ x4) → (c42_35 x1 x2 x3 x4 x3 M Q)))) : c42_18 x1 x2 x3 x4 M Q := by
  unfold c42_18
  refine ev_lo (lo' := [(0, .inr (.inr (some 15))), (1, .inl x1), (2, .inl x2), (3, .inl x3), (4, .inl x4)]) (st' := [.inl x4]) (pc' := 20) rfl rfl rfl rfl ?_
  refine ev_lo (lo' := [(0, .inr (.inr (some 15))), (1, .inl x1), (2, .inl x2), (3, .inl x3), (4, .inl x4)]) (st' := [.inr (.inr (some 15)), .inl x4]) (pc' := 21) rfl rfl rfl rfl ?_
  refine ev_get (v := .inr (.inr (some 1))) (pc' := 24) rfl rfl rfl rfl ?_
  refine ev_get (v := .inr (.inr (some 3))) (pc' := 27) rfl rfl rfl rfl ?_
  refine ev_lo (lo' := [(0, .inr (.inr (some 15))), (1, .inl x1), (2, .inl x2), (3, .inl x3), (4, .inl x4)]) (st' := [.inl x1, .inr (.inr (some 3)), .inl x4]) (pc' := 28) rfl rfl rfl rfl ?_
  obtain ⟨hs0, h⟩ := h
  refine ev_ald (t := 0) (n := 14) (f := aG_size M) (w := fun x => .inl x) (pc' := 29) rfl rfl (fun _ _ => rfl) rfl hs0 rfl ?_
  refine ev_icmp (pc' := 121) (pc2 := 32) rfl (by decide) rfl rfl (fun hc => ?_) (fun hc => ?_)
  · replace h := h.1 (of_decide_eq_true hc)
    refine ev_lo (lo' := [(0, .inr (.inr (some 15))), (1, .inl x1), (2, .inl x2), (3, .inl x3), (4, .inl x4)]) (st' := [.inr (.inr (some 15))]) (pc' := 122) rfl rfl rfl rfl ?_
    refine ev_get (v := .inr (.inr (some 19))) (pc' := 125) rfl rfl rfl rfl ?_
    refine ev_lo (lo' := [(0, .inr (.inr (some 15))), (1, .inl x1), (2, .inl x2), (3, .inl x3), (4, .inl x4)]) (st' := [.inl x3, .inr (.inr (some 19))]) (pc' := 126) rfl rfl rfl rfl ?_
    obtain ⟨hs0, h⟩ := h
    refine ev_ald (t := 0) (n := 11) (f := aU_ways M) (w := fun x => .inl x) (pc' := 127) rfl rfl (fun _ _ => rfl) rfl hs0 rfl ?_
    exact ev_rt rfl rfl rfl ⟨_, rfl, h⟩
  · replace h := h.2 (of_decide_eq_false hc)
    refine ev_lo (lo' := [(0, .inr (.inr (some 15))), (1, .inl x1), (2, .inl x2), (3, .inl x3), (4, .inl x4)]) (st' := [.inl x3]) (pc' := 33) rfl rfl rfl rfl ?_
    refine ev_lo (lo' := [(5, .inl x3), (0, .inr (.inr (some 15))), (1, .inl x1), (2, .inl x2), (3, .inl x3), (4, .inl x4)]) (st' := []) (pc' := 35) rfl rfl rfl rfl ?_
    exact ev_pick [0, 1, 2, 3, 4, 5] rfl rfl h
set_option maxRecDepth 10000 in
theorem b42_35 {x1 x2 x3 x4 x5 : Int} {M : ev_M} {Q : Int → ev_M → Prop}
    (h : (x5 < x2 → (tm_iI (x4 + 1) ∧ (c42_18 x1 x2 x3 (x4 + 1) M Q))) ∧ (¬ (x5 < x2) → (c42_47 x1 x2 x3 x4 x5 0 x2 M Q))) : c42_35 x1 x2 x3 x4 x5 M Q := by
  unfold c42_35
  refine ev_lo (lo' := [(0, .inr (.inr (some 15))), (1, .inl x1), (2, .inl x2), (3, .inl x3), (4, .inl x4), (5, .inl x5)]) (st' := [.inl x5]) (pc' := 37) rfl rfl rfl rfl ?_
  refine ev_lo (lo' := [(0, .inr (.inr (some 15))), (1, .inl x1), (2, .inl x2), (3, .inl x3), (4, .inl x4), (5, .inl x5)]) (st' := [.inl x2, .inl x5]) (pc' := 38) rfl rfl rfl rfl ?_
  refine ev_icmp (pc' := 115) (pc2 := 41) rfl (by decide) rfl rfl (fun hc => ?_) (fun hc => ?_)
  · replace h := h.1 (of_decide_eq_true hc)
    obtain ⟨hs, h⟩ := h
    refine ev_iinc (lo' := [(4, .inl (x4 + 1)), (0, .inr (.inr (some 15))), (1, .inl x1), (2, .inl x2), (3, .inl x3), (5, .inl x5)]) (pc' := 118) rfl rfl (by decide) (tm_add hs) rfl rfl ?_
    refine ev_br (pc' := 18) (st' := []) rfl rfl rfl ?_
    exact ev_pick [0, 1, 2, 3, 4] rfl rfl h
  · replace h := h.2 (of_decide_eq_false hc)
    refine ev_pu (st' := [.inl 0]) (pc' := 42) rfl rfl rfl rfl ?_
    refine ev_lo (lo' := [(6, .inl 0), (0, .inr (.inr (some 15))), (1, .inl x1), (2, .inl x2), (3, .inl x3), (4, .inl x4), (5, .inl x5)]) (st' := []) (pc' := 44) rfl rfl rfl rfl ?_
    refine ev_lo (lo' := [(6, .inl 0), (0, .inr (.inr (some 15))), (1, .inl x1), (2, .inl x2), (3, .inl x3), (4, .inl x4), (5, .inl x5)]) (st' := [.inl x2]) (pc' := 45) rfl rfl rfl rfl ?_
    refine ev_lo (lo' := [(7, .inl x2), (6, .inl 0), (0, .inr (.inr (some 15))), (1, .inl x1), (2, .inl x2), (3, .inl x3), (4, .inl x4), (5, .inl x5)]) (st' := []) (pc' := 47) rfl rfl rfl rfl ?_
    exact ev_pick [0, 1, 2, 3, 4, 5, 6, 7] rfl rfl h
set_option maxRecDepth 10000 in
theorem b42_47 {x1 x2 x3 x4 x5 x6 x7 : Int} {M : ev_M} {Q : Int → ev_M → Prop}
    (h : (x5 < x7 → ((0 ≤ x5 ∧ x5 < 11) ∧ (tm_iI (x5 + (-1)) ∧ (c42_35 x1 x2 x3 x4 (x5 + (-1)) (ev_sA M 19 (x5).toNat x6) Q)))) ∧ (¬ (x5 < x7) → (m4 x1 x4 M (fun w1 M1 => m24 w1 x7 x5 M1 (fun w2 M2 => (w2 = 0 → (c42_91 x1 x2 x3 x4 x5 x7 x6 0 M2 Q)) ∧ (¬ (w2 = 0) → ((0 ≤ x7 ∧ x7 < 11) ∧ (c42_91 x1 x2 x3 x4 x5 x7 x6 (aU_ways M2 (x7).toNat) M2 Q)))))))) : c42_47 x1 x2 x3 x4 x5 x6 x7 M Q := by
  unfold c42_47
  refine ev_lo (lo' := [(0, .inr (.inr (some 15))), (1, .inl x1), (2, .inl x2), (3, .inl x3), (4, .inl x4), (5, .inl x5), (6, .inl x6), (7, .inl x7)]) (st' := [.inl x7]) (pc' := 49) rfl rfl rfl rfl ?_
  refine ev_lo (lo' := [(0, .inr (.inr (some 15))), (1, .inl x1), (2, .inl x2), (3, .inl x3), (4, .inl x4), (5, .inl x5), (6, .inl x6), (7, .inl x7)]) (st' := [.inl x5, .inl x7]) (pc' := 51) rfl rfl rfl rfl ?_
  refine ev_icmp (pc' := 100) (pc2 := 54) rfl (by decide) rfl rfl (fun hc => ?_) (fun hc => ?_)
  · replace h := h.1 (of_decide_eq_true hc)
    refine ev_lo (lo' := [(0, .inr (.inr (some 15))), (1, .inl x1), (2, .inl x2), (3, .inl x3), (4, .inl x4), (5, .inl x5), (6, .inl x6), (7, .inl x7)]) (st' := [.inr (.inr (some 15))]) (pc' := 101) rfl rfl rfl rfl ?_
    refine ev_get (v := .inr (.inr (some 19))) (pc' := 104) rfl rfl rfl rfl ?_
    refine ev_lo (lo' := [(0, .inr (.inr (some 15))), (1, .inl x1), (2, .inl x2), (3, .inl x3), (4, .inl x4), (5, .inl x5), (6, .inl x6), (7, .inl x7)]) (st' := [.inl x5, .inr (.inr (some 19))]) (pc' := 106) rfl rfl rfl rfl ?_
    refine ev_lo (lo' := [(0, .inr (.inr (some 15))), (1, .inl x1), (2, .inl x2), (3, .inl x3), (4, .inl x4), (5, .inl x5), (6, .inl x6), (7, .inl x7)]) (st' := [.inl x6, .inl x5, .inr (.inr (some 19))]) (pc' := 108) rfl rfl rfl rfl ?_
    obtain ⟨hs0, h⟩ := h
    refine ev_iast (n := 11) (f := aU_ways M) (M' := ev_sA M 19 (x5).toNat x6) (pc' := 109) rfl rfl hs0 (hp_a19 _ _ _) rfl ?_
    obtain ⟨hs, h⟩ := h
    refine ev_iinc (lo' := [(5, .inl (x5 + (-1))), (0, .inr (.inr (some 15))), (1, .inl x1), (2, .inl x2), (3, .inl x3), (4, .inl x4), (6, .inl x6), (7, .inl x7)]) (pc' := 112) rfl rfl (by decide) (tm_add hs) rfl rfl ?_
    refine ev_br (pc' := 35) (st' := []) rfl rfl rfl ?_
    exact ev_pick [0, 1, 2, 3, 4, 5] rfl rfl h
  · replace h := h.2 (of_decide_eq_false hc)
    refine ev_lo (lo' := [(0, .inr (.inr (some 15))), (1, .inl x1), (2, .inl x2), (3, .inl x3), (4, .inl x4), (5, .inl x5), (6, .inl x6), (7, .inl x7)]) (st' := [.inl x6]) (pc' := 56) rfl rfl rfl rfl ?_
    refine ev_lo (lo' := [(0, .inr (.inr (some 15))), (1, .inl x1), (2, .inl x2), (3, .inl x3), (4, .inl x4), (5, .inl x5), (6, .inl x6), (7, .inl x7)]) (st' := [.inr (.inr (some 15)), .inl x6]) (pc' := 57) rfl rfl rfl rfl ?_
    refine ev_get (v := .inr (.inr (some 10))) (pc' := 60) rfl rfl rfl rfl ?_
    refine ev_lo (lo' := [(0, .inr (.inr (some 15))), (1, .inl x1), (2, .inl x2), (3, .inl x3), (4, .inl x4), (5, .inl x5), (6, .inl x6), (7, .inl x7)]) (st' := [.inr (.inr (some 15)), .inr (.inr (some 10)), .inl x6]) (pc' := 61) rfl rfl rfl rfl ?_
    refine ev_get (v := .inr (.inr (some 1))) (pc' := 64) rfl rfl rfl rfl ?_
    refine ev_lo (lo' := [(0, .inr (.inr (some 15))), (1, .inl x1), (2, .inl x2), (3, .inl x3), (4, .inl x4), (5, .inl x5), (6, .inl x6), (7, .inl x7)]) (st' := [.inl x1, .inr (.inr (some 1)), .inr (.inr (some 10)), .inl x6]) (pc' := 65) rfl rfl rfl rfl ?_
    refine ev_lo (lo' := [(0, .inr (.inr (some 15))), (1, .inl x1), (2, .inl x2), (3, .inl x3), (4, .inl x4), (5, .inl x5), (6, .inl x6), (7, .inl x7)]) (st' := [.inl x4, .inl x1, .inr (.inr (some 1)), .inr (.inr (some 10)), .inl x6]) (pc' := 67) rfl rfl rfl rfl ?_
    refine ev_call (as := [.inr (.inr (some 1)), .inl x1, .inl x4]) (r := [.inr (.inr (some 10)), .inl x6]) (pc' := 70) rfl rfl (Nat.le_of_ble_eq_true rfl) (Nat.le_of_ble_eq_true rfl) ⟨rfl, rfl⟩ (Nat.le_of_ble_eq_true rfl) rfl rfl rfl rfl ?_
    refine ev.post h (fun v M1 h => ?_)
    obtain ⟨w1, rfl, h⟩ := h
    show ev 42 70 [(0, .inr (.inr (some 15))), (1, .inl x1), (2, .inl x2), (3, .inl x3), (4, .inl x4), (5, .inl x5), (6, .inl x6), (7, .inl x7)] [.inl w1, .inr (.inr (some 10)), .inl x6] M1 _
    refine ev_lo (lo' := [(0, .inr (.inr (some 15))), (1, .inl x1), (2, .inl x2), (3, .inl x3), (4, .inl x4), (5, .inl x5), (6, .inl x6), (7, .inl x7)]) (st' := [.inl x7, .inl w1, .inr (.inr (some 10)), .inl x6]) (pc' := 72) rfl rfl rfl rfl ?_
    refine ev_lo (lo' := [(0, .inr (.inr (some 15))), (1, .inl x1), (2, .inl x2), (3, .inl x3), (4, .inl x4), (5, .inl x5), (6, .inl x6), (7, .inl x7)]) (st' := [.inl x5, .inl x7, .inl w1, .inr (.inr (some 10)), .inl x6]) (pc' := 74) rfl rfl rfl rfl ?_
    refine ev_call (as := [.inr (.inr (some 10)), .inl w1, .inl x7, .inl x5]) (r := [.inl x6]) (pc' := 77) rfl rfl (Nat.le_of_ble_eq_true rfl) (Nat.le_of_ble_eq_true rfl) ⟨rfl, rfl⟩ (Nat.le_of_ble_eq_true rfl) rfl rfl rfl rfl ?_
    refine ev.post h (fun v M2 h => ?_)
    obtain ⟨w2, rfl, h⟩ := h
    show ev 42 77 [(0, .inr (.inr (some 15))), (1, .inl x1), (2, .inl x2), (3, .inl x3), (4, .inl x4), (5, .inl x5), (6, .inl x6), (7, .inl x7)] [.inl w2, .inl x6] M2 _
    refine ev_ifT (pc' := 90) (pc2 := 80) rfl (by decide) rfl rfl (fun hc => ?_) (fun hc => ?_)
    · replace h := h.1 (of_decide_eq_true hc)
      refine ev_pu (st' := [.inl 0, .inl x6]) (pc' := 91) rfl rfl rfl rfl ?_
      exact ev_pick [0, 1, 2, 3, 4, 5, 7] rfl rfl h
    · replace h := h.2 (of_decide_eq_false hc)
      refine ev_lo (lo' := [(0, .inr (.inr (some 15))), (1, .inl x1), (2, .inl x2), (3, .inl x3), (4, .inl x4), (5, .inl x5), (6, .inl x6), (7, .inl x7)]) (st' := [.inr (.inr (some 15)), .inl x6]) (pc' := 81) rfl rfl rfl rfl ?_
      refine ev_get (v := .inr (.inr (some 19))) (pc' := 84) rfl rfl rfl rfl ?_
      refine ev_lo (lo' := [(0, .inr (.inr (some 15))), (1, .inl x1), (2, .inl x2), (3, .inl x3), (4, .inl x4), (5, .inl x5), (6, .inl x6), (7, .inl x7)]) (st' := [.inl x7, .inr (.inr (some 19)), .inl x6]) (pc' := 86) rfl rfl rfl rfl ?_
      obtain ⟨hs0, h⟩ := h
      refine ev_ald (t := 0) (n := 11) (f := aU_ways M2) (w := fun x => .inl x) (pc' := 87) rfl rfl (fun _ _ => rfl) rfl hs0 rfl ?_
      refine ev_br (pc' := 91) (st' := [.inl (aU_ways M2 (x7).toNat), .inl x6]) rfl rfl rfl ?_
      exact ev_pick [0, 1, 2, 3, 4, 5, 7] rfl rfl h
set_option maxRecDepth 10000 in
theorem b42_91 {x1 x2 x3 x4 x5 x7 t0 t1 : Int} {M : ev_M} {Q : Int → ev_M → Prop}
    (h : tm_iI (t0 + t1) ∧ (tm_iI (x7 + 1) ∧ (c42_47 x1 x2 x3 x4 x5 (t0 + t1) (x7 + 1) M Q))) : c42_91 x1 x2 x3 x4 x5 x7 t0 t1 M Q := by
  unfold c42_91
  obtain ⟨hs, h⟩ := h
  refine ev_ii (f := fun a b => a + b) (pc' := 92) rfl rfl (fun _ => rfl) (tm_add hs) rfl ?_
  refine ev_lo (lo' := [(6, .inl (t0 + t1)), (0, .inr (.inr (some 15))), (1, .inl x1), (2, .inl x2), (3, .inl x3), (4, .inl x4), (5, .inl x5), (7, .inl x7)]) (st' := []) (pc' := 94) rfl rfl rfl rfl ?_
  obtain ⟨hs, h⟩ := h
  refine ev_iinc (lo' := [(7, .inl (x7 + 1)), (6, .inl (t0 + t1)), (0, .inr (.inr (some 15))), (1, .inl x1), (2, .inl x2), (3, .inl x3), (4, .inl x4), (5, .inl x5)]) (pc' := 97) rfl rfl (by decide) (tm_add hs) rfl rfl ?_
  refine ev_br (pc' := 47) (st' := []) rfl rfl rfl ?_
  exact ev_pick [0, 1, 2, 3, 4, 5, 6, 7] rfl rfl h
/-! NulledForest$Uses.countFamilies(III)I -/
def m43 (x1 x2 x3 : Int) (M : ev_M) (Q : Int → ev_M → Prop) : Prop := ev 43 0 [(0, .inr (.inr (some 15))), (1, .inl x1), (2, .inl x2), (3, .inl x3)] [] M (fun v M1 => ∃ w : Int, v = some (.inl w) ∧ Q w M1)
def c43_6 (x1 x2 x3 x4 x5 : Int) (M : ev_M) (Q : Int → ev_M → Prop) : Prop := ev 43 6 [(0, .inr (.inr (some 15))), (1, .inl x1), (2, .inl x2), (3, .inl x3), (4, .inl x4), (5, .inl x5)] [] M (fun v M1 => ∃ w : Int, v = some (.inl w) ∧ Q w M1)
def c43_46 (x1 x2 x3 x5 t0 t1 : Int) (M : ev_M) (Q : Int → ev_M → Prop) : Prop := ev 43 46 [(0, .inr (.inr (some 15))), (1, .inl x1), (2, .inl x2), (3, .inl x3), (5, .inl x5)] [.inl t1, .inl t0] M (fun v M1 => ∃ w : Int, v = some (.inl w) ∧ Q w M1)
set_option maxRecDepth 10000 in
theorem b43 {x1 x2 x3 : Int} {M : ev_M} {Q : Int → ev_M → Prop}
    (h : c43_6 x1 x2 x3 0 0 M Q) : m43 x1 x2 x3 M Q := by
  unfold m43
  refine ev_pu (st' := [.inl 0]) (pc' := 1) rfl rfl rfl rfl ?_
  refine ev_lo (lo' := [(4, .inl 0), (0, .inr (.inr (some 15))), (1, .inl x1), (2, .inl x2), (3, .inl x3)]) (st' := []) (pc' := 3) rfl rfl rfl rfl ?_
  refine ev_pu (st' := [.inl 0]) (pc' := 4) rfl rfl rfl rfl ?_
  refine ev_lo (lo' := [(5, .inl 0), (4, .inl 0), (0, .inr (.inr (some 15))), (1, .inl x1), (2, .inl x2), (3, .inl x3)]) (st' := []) (pc' := 6) rfl rfl rfl rfl ?_
  exact ev_pick [0, 1, 2, 3, 4, 5] rfl rfl h
set_option maxRecDepth 10000 in
theorem b43_6 {x1 x2 x3 x4 x5 : Int} {M : ev_M} {Q : Int → ev_M → Prop}
    (h : ((sG_count M) ≤ x5 → (Q x4 M)) ∧ (¬ ((sG_count M) ≤ x5) → ((0 ≤ x5 ∧ x5 < 14) ∧ ((¬ (aG_left M (x5).toNat) = x1 → (c43_46 x1 x2 x3 x5 x4 0 M Q)) ∧ (¬ (¬ (aG_left M (x5).toNat) = x1) → (m42 x5 x2 x3 M (fun w1 M1 => c43_46 x1 x2 x3 x5 x4 w1 M1 Q))))))) : c43_6 x1 x2 x3 x4 x5 M Q := by
  unfold c43_6
  refine ev_lo (lo' := [(0, .inr (.inr (some 15))), (1, .inl x1), (2, .inl x2), (3, .inl x3), (4, .inl x4), (5, .inl x5)]) (st' := [.inl x5]) (pc' := 8) rfl rfl rfl rfl ?_
  refine ev_lo (lo' := [(0, .inr (.inr (some 15))), (1, .inl x1), (2, .inl x2), (3, .inl x3), (4, .inl x4), (5, .inl x5)]) (st' := [.inr (.inr (some 15)), .inl x5]) (pc' := 9) rfl rfl rfl rfl ?_
  refine ev_get (v := .inr (.inr (some 1))) (pc' := 12) rfl rfl rfl rfl ?_
  refine ev_get (v := .inl (sG_count M)) (pc' := 15) rfl rfl rfl rfl ?_
  refine ev_icmp (pc' := 55) (pc2 := 18) rfl (by decide) rfl rfl (fun hc => ?_) (fun hc => ?_)
  · replace h := h.1 (of_decide_eq_true hc)
    refine ev_lo (lo' := [(0, .inr (.inr (some 15))), (1, .inl x1), (2, .inl x2), (3, .inl x3), (4, .inl x4), (5, .inl x5)]) (st' := [.inl x4]) (pc' := 57) rfl rfl rfl rfl ?_
    exact ev_rt rfl rfl rfl ⟨_, rfl, h⟩
  · replace h := h.2 (of_decide_eq_false hc)
    refine ev_lo (lo' := [(0, .inr (.inr (some 15))), (1, .inl x1), (2, .inl x2), (3, .inl x3), (4, .inl x4), (5, .inl x5)]) (st' := [.inl x4]) (pc' := 20) rfl rfl rfl rfl ?_
    refine ev_lo (lo' := [(0, .inr (.inr (some 15))), (1, .inl x1), (2, .inl x2), (3, .inl x3), (4, .inl x4), (5, .inl x5)]) (st' := [.inr (.inr (some 15)), .inl x4]) (pc' := 21) rfl rfl rfl rfl ?_
    refine ev_get (v := .inr (.inr (some 1))) (pc' := 24) rfl rfl rfl rfl ?_
    refine ev_get (v := .inr (.inr (some 2))) (pc' := 27) rfl rfl rfl rfl ?_
    refine ev_lo (lo' := [(0, .inr (.inr (some 15))), (1, .inl x1), (2, .inl x2), (3, .inl x3), (4, .inl x4), (5, .inl x5)]) (st' := [.inl x5, .inr (.inr (some 2)), .inl x4]) (pc' := 29) rfl rfl rfl rfl ?_
    obtain ⟨hs0, h⟩ := h
    refine ev_ald (t := 0) (n := 14) (f := aG_left M) (w := fun x => .inl x) (pc' := 30) rfl rfl (fun _ _ => rfl) rfl hs0 rfl ?_
    refine ev_lo (lo' := [(0, .inr (.inr (some 15))), (1, .inl x1), (2, .inl x2), (3, .inl x3), (4, .inl x4), (5, .inl x5)]) (st' := [.inl x1, .inl (aG_left M (x5).toNat), .inl x4]) (pc' := 31) rfl rfl rfl rfl ?_
    refine ev_icmp (pc' := 45) (pc2 := 34) rfl (by decide) rfl rfl (fun hc => ?_) (fun hc => ?_)
    · replace h := h.1 (of_decide_eq_true hc)
      refine ev_pu (st' := [.inl 0, .inl x4]) (pc' := 46) rfl rfl rfl rfl ?_
      exact ev_pick [0, 1, 2, 3, 5] rfl rfl h
    · replace h := h.2 (of_decide_eq_false hc)
      refine ev_lo (lo' := [(0, .inr (.inr (some 15))), (1, .inl x1), (2, .inl x2), (3, .inl x3), (4, .inl x4), (5, .inl x5)]) (st' := [.inr (.inr (some 15)), .inl x4]) (pc' := 35) rfl rfl rfl rfl ?_
      refine ev_lo (lo' := [(0, .inr (.inr (some 15))), (1, .inl x1), (2, .inl x2), (3, .inl x3), (4, .inl x4), (5, .inl x5)]) (st' := [.inl x5, .inr (.inr (some 15)), .inl x4]) (pc' := 37) rfl rfl rfl rfl ?_
      refine ev_lo (lo' := [(0, .inr (.inr (some 15))), (1, .inl x1), (2, .inl x2), (3, .inl x3), (4, .inl x4), (5, .inl x5)]) (st' := [.inl x2, .inl x5, .inr (.inr (some 15)), .inl x4]) (pc' := 38) rfl rfl rfl rfl ?_
      refine ev_lo (lo' := [(0, .inr (.inr (some 15))), (1, .inl x1), (2, .inl x2), (3, .inl x3), (4, .inl x4), (5, .inl x5)]) (st' := [.inl x3, .inl x2, .inl x5, .inr (.inr (some 15)), .inl x4]) (pc' := 39) rfl rfl rfl rfl ?_
      refine ev_call (as := [.inr (.inr (some 15)), .inl x5, .inl x2, .inl x3]) (r := [.inl x4]) (pc' := 42) rfl rfl (Nat.le_of_ble_eq_true rfl) (Nat.le_of_ble_eq_true rfl) ⟨rfl, rfl⟩ (Nat.le_of_ble_eq_true rfl) rfl rfl rfl rfl ?_
      refine ev.post h (fun v M1 h => ?_)
      obtain ⟨w1, rfl, h⟩ := h
      show ev 43 42 [(0, .inr (.inr (some 15))), (1, .inl x1), (2, .inl x2), (3, .inl x3), (4, .inl x4), (5, .inl x5)] [.inl w1, .inl x4] M1 _
      refine ev_br (pc' := 46) (st' := [.inl w1, .inl x4]) rfl rfl rfl ?_
      exact ev_pick [0, 1, 2, 3, 5] rfl rfl h
set_option maxRecDepth 10000 in
theorem b43_46 {x1 x2 x3 x5 t0 t1 : Int} {M : ev_M} {Q : Int → ev_M → Prop}
    (h : tm_iI (t0 + t1) ∧ (tm_iI (x5 + 1) ∧ (c43_6 x1 x2 x3 (t0 + t1) (x5 + 1) M Q))) : c43_46 x1 x2 x3 x5 t0 t1 M Q := by
  unfold c43_46
  obtain ⟨hs, h⟩ := h
  refine ev_ii (f := fun a b => a + b) (pc' := 47) rfl rfl (fun _ => rfl) (tm_add hs) rfl ?_
  refine ev_lo (lo' := [(4, .inl (t0 + t1)), (0, .inr (.inr (some 15))), (1, .inl x1), (2, .inl x2), (3, .inl x3), (5, .inl x5)]) (st' := []) (pc' := 49) rfl rfl rfl rfl ?_
  obtain ⟨hs, h⟩ := h
  refine ev_iinc (lo' := [(5, .inl (x5 + 1)), (4, .inl (t0 + t1)), (0, .inr (.inr (some 15))), (1, .inl x1), (2, .inl x2), (3, .inl x3)]) (pc' := 52) rfl rfl (by decide) (tm_add hs) rfl rfl ?_
  refine ev_br (pc' := 6) (st' := []) rfl rfl rfl ?_
  exact ev_pick [0, 1, 2, 3, 4, 5] rfl rfl h
