/-! The rules of both sides -/
def IG (M : ev_M) : Prop := 0 ≤ sG_count M ∧ sG_count M ≤ 14 ∧ sM_rules M = sG_count M ∧ ∀ k : Int, 0 ≤ k → k < sG_count M → aM_left M k.toNat = aG_left M k.toNat ∧ aM_sizes M k.toNat = aG_size M k.toNat ∧ (0 ≤ aG_left M k.toNat ∧ aG_left M k.toNat < 6) ∧ (0 ≤ aG_size M k.toNat ∧ aG_size M k.toNat ≤ 4) ∧ ∀ i : Int, 0 ≤ i → i < aG_size M k.toNat → mR M k i = gR M k i ∧ 0 ≤ gR M k i ∧ gR M k i < 10
section IGS
variable {M M' : ev_M} {x1 x2 x3 x4 x5 : Int}
/-- what of the memory IG reads -/
theorem IG.of (hI : IG M) (h1 : M'.1 3 = M.1 3) (h2 : M'.1 11 = M.1 11) (h3 : M'.2 2 = M.2 2) (h4 : M'.2 3 = M.2 3) (h5 : M'.2 4 = M.2 4) (h6 : M'.2 31 = M.2 31) (h7 : M'.2 32 = M.2 32) (h8 : M'.2 33 = M.2 33) : IG M' := by
  unfold IG at hI ⊢
  simp only [sG_count, sM_rules, aM_left, aG_left, aM_sizes, aG_size, mR, gR, aM_right, aG_right] at hI ⊢
  rw [h1, h2, h3, h4, h5, h6, h7, h8]
  exact hI
theorem IT.of (hI : IT M) (h1 : M'.1 5 = M.1 5) (h2 : M'.1 12 = M.1 12) (h3 : M'.2 11 = M.2 11) (h4 : M'.2 34 = M.2 34) : IT M' := by
  unfold IT at hI ⊢
  simp only [sC_size, sM_length, aM_text, aC_text] at hI ⊢
  rw [h1, h2, h3, h4]
  exact hI
theorem IA.of (hI : IA M) (h1 : M'.1 4 = M.1 4) (h2 : M'.1 13 = M.1 13) (h3 : M'.2 8 = M.2 8) (h4 : M'.2 37 = M.2 37) : IA M' := by
  unfold IA at hI ⊢
  simp only [sA_count, sM_states, aM_ways, aA_goal] at hI ⊢
  rw [h1, h2, h3, h4]
  exact hI
/-- the symbols of a written rule -/
theorem sy_iff (hc : 0 ≤ sG_count M) : syR x2 x3 x4 x5 ↔ ∀ i : Int, 0 ≤ i → i < rs4 x2 x3 x4 x5 → 0 ≤ gR (WG M x1 x2 x3 x4 x5) (sG_count M) i ∧ gR (WG M x1 x2 x3 x4 x5) (sG_count M) i < 10 := by
  obtain ⟨e0, e1, e2, e3⟩ := WG_gR (M := M) (x1 := x1) (x2 := x2) (x3 := x3) (x4 := x4) (x5 := x5) hc
  have hsz := rs4_le x2 x3 x4 x5
  constructor
  · rintro ⟨h0, h1, h2, h3⟩ i hi hlt
    rcases (by omega : i = 0 ∨ i = 1 ∨ i = 2 ∨ i = 3) with rfl | rfl | rfl | rfl
    · rw [e0]; exact h0 (by omega)
    · rw [e1]; exact h1 (by omega)
    · rw [e2]; exact h2 (by omega)
    · rw [e3]; exact h3 (by omega)
  · intro h
    refine ⟨fun g => ?_, fun g => ?_, fun g => ?_, fun g => ?_⟩
    · have := h 0 (by omega) (by omega); rw [e0] at this; exact this
    · have := h 1 (by omega) (by omega); rw [e1] at this; exact this
    · have := h 2 (by omega) (by omega); rw [e2] at this; exact this
    · have := h 3 (by omega) (by omega); rw [e3] at this; exact this
end IGS
