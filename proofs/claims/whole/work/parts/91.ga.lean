/-! The class's grammar: add -/
/-- the rule written behind the last -/
def WG (M : ev_M) (x1 x2 x3 x4 x5 : Int) : ev_M := ev_sA (ev_sA (ev_sA (ev_sA (ev_sA (ev_sA M 4 ((sG_count M) * 4).toNat x2) 4 (((sG_count M) * 4) + 1).toNat x3) 4 (((sG_count M) * 4) + 2).toNat x4) 4 (((sG_count M) * 4) + 3).toNat x5) 2 (sG_count M).toNat x1) 3 (sG_count M).toNat (rs4 x2 x3 x4 x5)
def WG0 (M : ev_M) (x1 x2 x3 x4 x5 : Int) : ev_M := ev_sA (ev_sA (ev_sA (ev_sA (ev_sA M 4 ((sG_count M) * 4).toNat x2) 4 (((sG_count M) * 4) + 1).toNat x3) 4 (((sG_count M) * 4) + 2).toNat x4) 4 (((sG_count M) * 4) + 3).toNat x5) 2 (sG_count M).toNat x1
theorem rs4_le (a b c d : Int) : 0 ≤ rs4 a b c d ∧ rs4 a b c d ≤ 4 := by
  unfold rs4
  split
  · exact ⟨by omega, by omega⟩
  · split
    · exact ⟨by omega, by omega⟩
    · split
      · exact ⟨by omega, by omega⟩
      · split
        · exact ⟨by omega, by omega⟩
        · exact ⟨by omega, by omega⟩
section GA
variable {M : ev_M} {x1 x2 x3 x4 x5 : Int}
theorem up4 (f : Nat → Int) {c : Int} (hc : 0 ≤ c) (k : Nat) : tm_up (tm_up (tm_up (tm_up f (c * 4).toNat x2) (c * 4 + 1).toNat x3) (c * 4 + 2).toNat x4) (c * 4 + 3).toNat x5 k = if k = (c * 4 + 3).toNat then x5 else if k = (c * 4 + 2).toNat then x4 else if k = (c * 4 + 1).toNat then x3 else if k = (c * 4).toNat then x2 else f k := rfl
theorem WG_right (k : Nat) : (WG M x1 x2 x3 x4 x5).2 4 k = tm_up (tm_up (tm_up (tm_up (M.2 4) (sG_count M * 4).toNat x2) (sG_count M * 4 + 1).toNat x3) (sG_count M * 4 + 2).toNat x4) (sG_count M * 4 + 3).toNat x5 k := rfl
theorem WG_gR (hc : 0 ≤ sG_count M) : gR (WG M x1 x2 x3 x4 x5) (sG_count M) 0 = x2 ∧ gR (WG M x1 x2 x3 x4 x5) (sG_count M) 1 = x3 ∧ gR (WG M x1 x2 x3 x4 x5) (sG_count M) 2 = x4 ∧ gR (WG M x1 x2 x3 x4 x5) (sG_count M) 3 = x5 := by
  refine ⟨?_, ?_, ?_, ?_⟩
  · show (WG M x1 x2 x3 x4 x5).2 4 (sG_count M * 4 + 0).toNat = x2
    rw [WG_right, up4 _ hc, if_neg (by omega), if_neg (by omega), if_neg (by omega), if_pos (by omega)]
  · show (WG M x1 x2 x3 x4 x5).2 4 (sG_count M * 4 + 1).toNat = x3
    rw [WG_right, up4 _ hc, if_neg (by omega), if_neg (by omega), if_pos rfl]
  · show (WG M x1 x2 x3 x4 x5).2 4 (sG_count M * 4 + 2).toNat = x4
    rw [WG_right, up4 _ hc, if_neg (by omega), if_pos rfl]
  · show (WG M x1 x2 x3 x4 x5).2 4 (sG_count M * 4 + 3).toNat = x5
    rw [WG_right, up4 _ hc, if_pos rfl]
theorem WG_gR' {k i : Int} (hc : 0 ≤ sG_count M) (hk : 0 ≤ k ∧ k < sG_count M) (hi : 0 ≤ i ∧ i < 4) : gR (WG M x1 x2 x3 x4 x5) k i = gR M k i := by
  show (WG M x1 x2 x3 x4 x5).2 4 (k * 4 + i).toNat = M.2 4 (k * 4 + i).toNat
  rw [WG_right, up4 _ hc, if_neg (by omega), if_neg (by omega), if_neg (by omega), if_neg (by omega)]
theorem WG_size : aG_size (WG M x1 x2 x3 x4 x5) (sG_count M).toNat = rs4 x2 x3 x4 x5 := if_pos rfl
theorem WG_size' {k : Int} (hk : 0 ≤ k ∧ k < sG_count M) : aG_size (WG M x1 x2 x3 x4 x5) k.toNat = aG_size M k.toNat := if_neg (show ¬ k.toNat = (sG_count M).toNat by omega)
/-- the rule that was written is one: symbols only, and none like it before -/
def okR (M : ev_M) (x1 x2 x3 x4 x5 : Int) : Prop := (∀ i : Int, 0 ≤ i → i < rs4 x2 x3 x4 x5 → 0 ≤ gR (WG M x1 x2 x3 x4 x5) (sG_count M) i ∧ gR (WG M x1 x2 x3 x4 x5) (sG_count M) i < 10) ∧ ∀ k : Int, 0 ≤ k → k < sG_count M → ¬ sameG (WG M x1 x2 x3 x4 x5) k (sG_count M)
theorem g_m10 {Q : Int → ev_M → Prop} (hc : 0 ≤ sG_count M ∧ sG_count M ≤ 14) (hs : ∀ k : Int, 0 ≤ k → k < sG_count M → aG_size M k.toNat ≤ 4)
    (hbad : ¬ (0 ≤ x1 ∧ x1 < 6 ∧ sG_count M < 14) → Q 0 M) (hno : (0 ≤ x1 ∧ x1 < 6 ∧ sG_count M < 14) → ¬ okR M x1 x2 x3 x4 x5 → Q 0 (WG M x1 x2 x3 x4 x5)) (hyes : (0 ≤ x1 ∧ x1 < 6 ∧ sG_count M < 14) → okR M x1 x2 x3 x4 x5 → Q 1 (ev_sS (WG M x1 x2 x3 x4 x5) 3 (sG_count M + 1))) : m10 x1 x2 x3 x4 x5 M Q := by
  refine b10 (g_m5 (fun hm => ⟨fun g => absurd g (by decide), fun _ => ⟨fun hlt => ?_, fun g => b10_16 (hbad (by omega))⟩⟩) (fun hm => ⟨fun _ => b10_16 (hbad (by omega)), fun g => absurd rfl g⟩))
  have hr : 0 ≤ sG_count M ∧ sG_count M < 14 := ⟨hc.1, hlt⟩
  have hok : 0 ≤ x1 ∧ x1 < 6 ∧ sG_count M < 14 := ⟨hm.1, hm.2, hlt⟩
  refine ⟨⟨by omega, by omega⟩, ⟨by omega, by omega⟩, ⟨by omega, by omega⟩, ⟨by omega, by omega⟩, ⟨by omega, by omega⟩, ⟨by omega, by omega⟩, ⟨by omega, by omega⟩, ⟨by omega, by omega⟩, hr, ?_⟩
  obtain ⟨e0, e1, e2, e3⟩ := WG_gR (M := M) (x1 := x1) (x2 := x2) (x3 := x3) (x4 := x4) (x5 := x5) hc.1
  refine g_m6 (M := WG0 M x1 x2 x3 x4 x5) hr ?_
  have ers : rs4 (gR (WG0 M x1 x2 x3 x4 x5) (sG_count M) 0) (gR (WG0 M x1 x2 x3 x4 x5) (sG_count M) 1) (gR (WG0 M x1 x2 x3 x4 x5) (sG_count M) 2) (gR (WG0 M x1 x2 x3 x4 x5) (sG_count M) 3) = rs4 x2 x3 x4 x5 := by
    have f0 : gR (WG0 M x1 x2 x3 x4 x5) (sG_count M) 0 = x2 := e0
    have f1 : gR (WG0 M x1 x2 x3 x4 x5) (sG_count M) 1 = x3 := e1
    have f2 : gR (WG0 M x1 x2 x3 x4 x5) (sG_count M) 2 = x4 := e2
    have f3 : gR (WG0 M x1 x2 x3 x4 x5) (sG_count M) 3 = x5 := e3
    rw [f0, f1, f2, f3]
  rw [ers]
  refine ⟨hr, ?_⟩
  have hsz := rs4_le x2 x3 x4 x5
  refine g_m7 (M := WG M x1 x2 x3 x4 x5) (r := sG_count M) hr (by rw [WG_size]; omega) (fun hall => ⟨fun g => absurd g (by decide), fun _ => ?_⟩) (fun hex => ⟨fun _ => b10_115 (hno hok (fun ho => ?_)), fun g => absurd rfl g⟩)
  · refine g_m9 (M := WG M x1 x2 x3 x4 x5) (n := sG_count M) hr (fun k h1 h2 => by rw [WG_size' ⟨h1, h2⟩]; exact hs k h1 h2) (fun hex => ⟨fun g => absurd g (by decide), fun _ => b10_115 (hno hok (fun ho => ?_))⟩) (fun hnone => ⟨fun _ => ⟨⟨by show -2147483648 ≤ sG_count M + 1; omega, by show sG_count M + 1 < 2147483648; omega⟩, hyes hok ⟨?_, hnone⟩⟩, fun g => absurd rfl g⟩)
    · obtain ⟨k, h1, h2, h3⟩ := hex
      exact ho.2 k h1 h2 h3
    · rw [WG_size] at hall
      exact hall
  · obtain ⟨i, h1, h2, h3⟩ := hex
    rw [WG_size] at h2
    exact h3 (ho.1 i h1 h2)
end GA
