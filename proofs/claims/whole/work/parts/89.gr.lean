/-! The class's grammar: its small methods, by what they say -/
abbrev gR (M : ev_M) (r i : Int) : Int := aG_right M (r * 4 + i).toNat
def rs4 (a b c d : Int) : Int := if a = -1 then 0 else if b = -1 then 1 else if c = -1 then 2 else if d = -1 then 3 else 4
section GR
variable {M : ev_M} {Q : Int → ev_M → Prop} {r i : Int}
theorem g_m4 (hr : 0 ≤ r ∧ r < 14) (hi : 0 ≤ i ∧ i < 4) (h : Q (gR M r i) M) : m4 r i M Q := b4 ⟨⟨by omega, by omega⟩, ⟨by omega, by omega⟩, ⟨by omega, by omega⟩, h⟩
theorem g_m5 (h1 : 0 ≤ r ∧ r < 6 → Q 1 M) (h0 : ¬ (0 ≤ r ∧ r < 6) → Q 0 M) : m5 r M Q := by
  refine b5 ⟨fun g => b5_14 (b5_15 ⟨Or.inl rfl, h0 (by omega)⟩), fun g => ⟨fun g2 => b5_14 (b5_15 ⟨Or.inl rfl, h0 (by omega)⟩), fun g2 => b5_15 ⟨Or.inr rfl, h1 (by omega)⟩⟩⟩
theorem g_m6 (hr : 0 ≤ r ∧ r < 14) (h : Q (rs4 (gR M r 0) (gR M r 1) (gR M r 2) (gR M r 3)) M) : m6 r M Q := by
  unfold rs4 at h
  refine b6 (b6_2 ⟨fun g => absurd g (by omega), fun _ => g_m4 hr ⟨by omega, by omega⟩ ⟨fun g0 => ⟨⟨by omega, by omega⟩, ?_⟩, fun g0 => ?_⟩⟩)
  · rw [if_neg g0] at h
    show c6_2 r 1 M Q
    refine b6_2 ⟨fun g => absurd g (by omega), fun _ => g_m4 hr ⟨by omega, by omega⟩ ⟨fun g1 => ⟨⟨by omega, by omega⟩, ?_⟩, fun g1 => ?_⟩⟩
    · rw [if_neg g1] at h
      show c6_2 r 2 M Q
      refine b6_2 ⟨fun g => absurd g (by omega), fun _ => g_m4 hr ⟨by omega, by omega⟩ ⟨fun g2 => ⟨⟨by omega, by omega⟩, ?_⟩, fun g2 => ?_⟩⟩
      · rw [if_neg g2] at h
        show c6_2 r 3 M Q
        refine b6_2 ⟨fun g => absurd g (by omega), fun _ => g_m4 hr ⟨by omega, by omega⟩ ⟨fun g3 => ⟨⟨by omega, by omega⟩, ?_⟩, fun g3 => ?_⟩⟩
        · rw [if_neg g3] at h
          show c6_2 r 4 M Q
          exact b6_2 ⟨fun _ => h, fun g => absurd (Int.le_refl 4) g⟩
        · rw [if_pos (Decidable.of_not_not g3)] at h
          exact h
      · rw [if_pos (Decidable.of_not_not g2)] at h
        exact h
    · rw [if_pos (Decidable.of_not_not g1)] at h
      exact h
  · rw [if_pos (Decidable.of_not_not g0)] at h
    exact h
/-- only symbols stand right -/
theorem g_m7 (hr : 0 ≤ r ∧ r < 14) (hs : aG_size M r.toNat ≤ 4) (h1 : (∀ i : Int, 0 ≤ i → i < aG_size M r.toNat → 0 ≤ gR M r i ∧ gR M r i < 10) → Q 1 M) (h0 : (∃ i : Int, 0 ≤ i ∧ i < aG_size M r.toNat ∧ ¬ (0 ≤ gR M r i ∧ gR M r i < 10)) → Q 0 M) : m7 r M Q := by
  have key : ∀ (d : Nat) (x : Int), aG_size M r.toNat - x ≤ d → 0 ≤ x → (∀ i : Int, 0 ≤ i → i < x → 0 ≤ gR M r i ∧ gR M r i < 10) → c7_2 r x M Q := by
    intro d
    induction d with
    | zero => intro x hx h0x ha; exact b7_2 ⟨hr, fun _ => h1 (fun i h2 h3 => ha i h2 (by omega)), fun g => absurd g (by omega)⟩
    | succ d ih =>
      intro x hx h0x ha
      refine b7_2 ⟨hr, fun g => h1 (fun i h2 h3 => ha i h2 (by omega)), fun g => g_m4 hr ⟨h0x, by omega⟩ ⟨fun g2 => b7_32 (h0 ⟨x, h0x, by omega, by omega⟩), fun g2 => g_m4 hr ⟨h0x, by omega⟩ ⟨fun g3 => ⟨⟨by omega, by omega⟩, ih (x + 1) (by omega) (by omega) (fun i h2 h3 => ?_)⟩, fun g3 => b7_32 (h0 ⟨x, h0x, by omega, by omega⟩)⟩⟩⟩
      by_cases hix : i < x
      · exact ha i h2 hix
      · have : i = x := by omega
        subst this
        exact ⟨by omega, g3⟩
  exact b7 (key (aG_size M r.toNat).toNat 0 (by omega) (by omega) (fun i h2 h3 => by omega))
end GR
