/-! The model's automaton: keep -/
theorem g_m88 {M : ev_M} {Q : Int → ev_M → Prop} (hc : 0 ≤ sM_states M ∧ sM_states M < 61) (h1 : ∀ q : Int, 0 ≤ q → q < sM_states M → aM_low M q.toNat = sM_newLow M → aM_high M q.toNat = sM_newHigh M → (∀ p : Int, 0 ≤ p → p < q → ¬ (aM_low M p.toNat = sM_newLow M ∧ aM_high M p.toNat = sM_newHigh M)) → Q q M)
    (h2 : (∀ p : Int, 0 ≤ p → p < sM_states M → ¬ (aM_low M p.toNat = sM_newLow M ∧ aM_high M p.toNat = sM_newHigh M)) → Q (sM_states M) (ev_sS (ev_sA (ev_sA M 35 (sM_states M).toNat (sM_newLow M)) 36 (sM_states M).toNat (sM_newHigh M)) 13 (sM_states M + 1))) : m88 M Q := by
  have fin : ∀ y : Int, sM_states M ≤ y → (∀ p : Int, 0 ≤ p → p < y → ¬ (aM_low M p.toNat = sM_newLow M ∧ aM_high M p.toNat = sM_newHigh M)) → Q (((sM_states M) + 1) - 1) (ev_sS (ev_sA (ev_sA M 35 (sM_states M).toNat (sM_newLow M)) 36 (sM_states M).toNat (sM_newHigh M)) 13 (sM_states M + 1)) := by
    intro y hy hp
    rw [show sM_states M + 1 - 1 = sM_states M by omega]
    exact h2 (fun p a1 a2 => hp p a1 (by omega))
  have key : ∀ (n : Nat) (y : Int), sM_states M - y ≤ n → 0 ≤ y → (∀ p : Int, 0 ≤ p → p < y → ¬ (aM_low M p.toNat = sM_newLow M ∧ aM_high M p.toNat = sM_newHigh M)) → c88_2 y M Q := by
    intro n
    induction n with
    | zero => intro y hy h0y hp; exact b88_2 ⟨fun g => ⟨hc, hc, ⟨by omega, by omega⟩, ⟨by omega, by omega⟩, fin y g hp⟩, fun g => absurd g (by omega)⟩
    | succ n ih =>
      intro y hy h0y hp
      have nx : ¬ (aM_low M y.toNat = sM_newLow M ∧ aM_high M y.toNat = sM_newHigh M) → ¬ sM_states M ≤ y → c88_40 y M Q := by
        intro hn hlt
        refine b88_40 ⟨⟨by omega, by omega⟩, ih (y + 1) (by omega) (by omega) (fun p a1 a2 => ?_)⟩
        by_cases hpy : p = y
        · subst hpy; exact hn
        · exact hp p a1 (by omega)
      exact b88_2 ⟨fun g => ⟨hc, hc, ⟨by omega, by omega⟩, ⟨by omega, by omega⟩, fin y g hp⟩, fun g => ⟨⟨h0y, by omega⟩, fun g2 => nx (fun a => g2 a.1) g, fun g2 => ⟨⟨h0y, by omega⟩, fun g3 => nx (fun a => g3 a.2) g, fun g3 => h1 y h0y (by omega) (Decidable.of_not_not g2) (Decidable.of_not_not g3) hp⟩⟩⟩
  exact b88 (key (sM_states M).toNat 0 (by omega) (by omega) (fun p a1 a2 => by omega))
