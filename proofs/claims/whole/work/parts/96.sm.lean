/-! Two rules are alike for the model where they are alike for the class -/
theorem same_iff {G N : ev_M} {a b : Int} (la : aM_left N a.toNat = aG_left G a.toNat) (lb : aM_left N b.toNat = aG_left G b.toNat) (sa : aM_sizes N a.toNat = aG_size G a.toNat) (sb : aM_sizes N b.toNat = aG_size G b.toNat) (ra : ∀ i : Int, 0 ≤ i → i < aG_size G a.toNat → mR N a i = gR G a i) (rb : ∀ i : Int, 0 ≤ i → i < aG_size G b.toNat → mR N b i = gR G b i) : sameM N a b ↔ sameG G a b := by
  unfold sameM sameG
  rw [la, lb, sa, sb]
  constructor
  · rintro ⟨h1, h2, h3⟩
    refine ⟨h1, h2, fun i hi hlt => ?_⟩
    have := h3 i hi (by omega)
    rw [ra i hi hlt, rb i hi (by omega)] at this
    exact this
  · rintro ⟨h1, h2, h3⟩
    refine ⟨h1, h2, fun i hi hlt => ?_⟩
    rw [ra i hi (by omega), rb i hi hlt]
    exact h3 i hi (by omega)
section WMS
variable {M : ev_M} {x1 x2 x3 x4 x5 : Int}
theorem WM_right (k : Nat) : (WM M x1 x2 x3 x4 x5).2 33 k = tm_up (tm_up (tm_up (tm_up (M.2 33) (4 * sM_rules M).toNat x2) (4 * sM_rules M + 1).toNat x3) (4 * sM_rules M + 2).toNat x4) (4 * sM_rules M + 3).toNat x5 k := rfl
theorem upm4 (f : Nat → Int) (c : Int) (k : Nat) : tm_up (tm_up (tm_up (tm_up f (4 * c).toNat x2) (4 * c + 1).toNat x3) (4 * c + 2).toNat x4) (4 * c + 3).toNat x5 k = if k = (4 * c + 3).toNat then x5 else if k = (4 * c + 2).toNat then x4 else if k = (4 * c + 1).toNat then x3 else if k = (4 * c).toNat then x2 else f k := rfl
theorem WM_mR (hc : 0 ≤ sM_rules M) : mR (WM M x1 x2 x3 x4 x5) (sM_rules M) 0 = x2 ∧ mR (WM M x1 x2 x3 x4 x5) (sM_rules M) 1 = x3 ∧ mR (WM M x1 x2 x3 x4 x5) (sM_rules M) 2 = x4 ∧ mR (WM M x1 x2 x3 x4 x5) (sM_rules M) 3 = x5 := by
  refine ⟨?_, ?_, ?_, ?_⟩
  · show (WM M x1 x2 x3 x4 x5).2 33 (4 * sM_rules M + 0).toNat = x2
    rw [WM_right, upm4, if_neg (by omega), if_neg (by omega), if_neg (by omega), if_pos (by omega)]
  · show (WM M x1 x2 x3 x4 x5).2 33 (4 * sM_rules M + 1).toNat = x3
    rw [WM_right, upm4, if_neg (by omega), if_neg (by omega), if_pos rfl]
  · show (WM M x1 x2 x3 x4 x5).2 33 (4 * sM_rules M + 2).toNat = x4
    rw [WM_right, upm4, if_neg (by omega), if_pos rfl]
  · show (WM M x1 x2 x3 x4 x5).2 33 (4 * sM_rules M + 3).toNat = x5
    rw [WM_right, upm4, if_pos rfl]
theorem WM_mR' {k i : Int} (hk : 0 ≤ k ∧ k < sM_rules M) (hi : 0 ≤ i ∧ i < 4) : mR (WM M x1 x2 x3 x4 x5) k i = mR M k i := by
  show (WM M x1 x2 x3 x4 x5).2 33 (4 * k + i).toNat = M.2 33 (4 * k + i).toNat
  rw [WM_right, upm4, if_neg (by omega), if_neg (by omega), if_neg (by omega), if_neg (by omega)]
theorem WM_size' {k : Int} (hk : 0 ≤ k ∧ k < sM_rules M) : aM_sizes (WM M x1 x2 x3 x4 x5) k.toNat = aM_sizes M k.toNat := if_neg (show ¬ k.toNat = (sM_rules M).toNat by omega)
theorem WM_left : aM_left (WM M x1 x2 x3 x4 x5) (sM_rules M).toNat = x1 := if_pos rfl
theorem WM_left' {k : Int} (hk : 0 ≤ k ∧ k < sM_rules M) : aM_left (WM M x1 x2 x3 x4 x5) k.toNat = aM_left M k.toNat := if_neg (show ¬ k.toNat = (sM_rules M).toNat by omega)
theorem WG_left : aG_left (WG M x1 x2 x3 x4 x5) (sG_count M).toNat = x1 := if_pos rfl
theorem WG_left' {k : Int} (hk : 0 ≤ k ∧ k < sG_count M) : aG_left (WG M x1 x2 x3 x4 x5) k.toNat = aG_left M k.toNat := if_neg (show ¬ k.toNat = (sG_count M).toNat by omega)
end WMS
