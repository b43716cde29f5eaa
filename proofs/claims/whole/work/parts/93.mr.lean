/-! The model's rule, up to its automaton -/
def WM (M : ev_M) (x1 x2 x3 x4 x5 : Int) : ev_M := ev_sA (ev_sA (ev_sA (ev_sA (ev_sA (ev_sA M 31 (sM_rules M).toNat x1) 32 (sM_rules M).toNat (rs4 x2 x3 x4 x5)) 33 (4 * (sM_rules M)).toNat x2) 33 ((4 * (sM_rules M)) + 1).toNat x3) 33 ((4 * (sM_rules M)) + 2).toNat x4) 33 ((4 * (sM_rules M)) + 3).toNat x5
def syR (x2 x3 x4 x5 : Int) : Prop := (1 ≤ rs4 x2 x3 x4 x5 → 0 ≤ x2 ∧ x2 < 10) ∧ (2 ≤ rs4 x2 x3 x4 x5 → 0 ≤ x3 ∧ x3 < 10) ∧ (3 ≤ rs4 x2 x3 x4 x5 → 0 ≤ x4 ∧ x4 < 10) ∧ (4 ≤ rs4 x2 x3 x4 x5 → 0 ≤ x5 ∧ x5 < 10)
section MR
variable {M : ev_M} {x1 x2 x3 x4 x5 : Int}
theorem WM_size : aM_sizes (WM M x1 x2 x3 x4 x5) (sM_rules M).toNat = rs4 x2 x3 x4 x5 := if_pos rfl
theorem g_m97 {Q : Int → ev_M → Prop} (hc : 0 ≤ sM_rules M ∧ sM_rules M ≤ 14)
    (hbad : ¬ (0 ≤ x1 ∧ x1 < 6 ∧ sM_rules M < 14) → Q (-1) M) (hsy : (0 ≤ x1 ∧ x1 < 6 ∧ sM_rules M < 14) → ¬ syR x2 x3 x4 x5 → Q (-1) M)
    (hth : (0 ≤ x1 ∧ x1 < 6 ∧ sM_rules M < 14) → syR x2 x3 x4 x5 → (∃ k : Int, 0 ≤ k ∧ k < sM_rules M ∧ sameM (WM M x1 x2 x3 x4 x5) k (sM_rules M)) → Q (-1) (WM M x1 x2 x3 x4 x5))
    (hnew : (0 ≤ x1 ∧ x1 < 6 ∧ sM_rules M < 14) → syR x2 x3 x4 x5 → (∀ k : Int, 0 ≤ k → k < sM_rules M → ¬ sameM (WM M x1 x2 x3 x4 x5) k (sM_rules M)) → m91 (ev_sS (WM M x1 x2 x3 x4 x5) 11 (sM_rules M + 1)) (fun w2 M2 => (¬ w2 = 0 → (tm_iI ((sM_rules M2) - 1) ∧ (Q ((sM_rules M2) - 1) M2))) ∧ (¬ (¬ w2 = 0) → (tm_iI ((sM_rules M2) - 1) ∧ (m91 (ev_sS M2 11 ((sM_rules M2) - 1)) (fun _ M3 => Q (-1) M3)))))) : m97 x1 x2 x3 x4 x5 M Q := by
  refine b97 (g_m95 (fun hm => ⟨fun g => absurd g (by decide), fun _ => ⟨fun hlt => ?_, fun g => b97_16 (hbad (by omega))⟩⟩) (fun hm => ⟨fun _ => b97_16 (hbad (by omega)), fun g => absurd rfl g⟩))
  have hok : 0 ≤ x1 ∧ x1 < 6 ∧ sM_rules M < 14 := ⟨hm.1, hm.2, by omega⟩
  have hr : 0 ≤ sM_rules M ∧ sM_rules M < 14 := ⟨hc.1, by omega⟩
  have hsz := rs4_le x2 x3 x4 x5
  have tail : ∀ t0 : Int, t0 = rs4 x2 x3 x4 x5 → c97_57 x1 x2 x3 x4 x5 t0 M Q := by
    intro t0 ht
    subst ht
    have fail : ¬ syR x2 x3 x4 x5 → c97_117 x1 x2 x3 x4 x5 (rs4 x2 x3 x4 x5) M Q := fun h => b97_117 (b97_118 ⟨fun g => absurd rfl g, fun _ => hsy hok h⟩)
    have good : syR x2 x3 x4 x5 → c97_113 x1 x2 x3 x4 x5 (rs4 x2 x3 x4 x5) M Q := by
      intro hs
      refine b97_113 (b97_118 ⟨fun _ => ⟨hr, hr, ⟨by omega, by omega⟩, ⟨by omega, by omega⟩, ⟨by omega, by omega⟩, ⟨by omega, by omega⟩, ⟨by omega, by omega⟩, ⟨by omega, by omega⟩, ⟨by omega, by omega⟩, ⟨by omega, by omega⟩, ⟨by omega, by omega⟩, ⟨by omega, by omega⟩, ⟨by omega, by omega⟩, ?_⟩, fun g => absurd (by decide : ¬ (1 : Int) = 0) g⟩)
      refine g_m96 (M := WM M x1 x2 x3 x4 x5) (n := sM_rules M) hr (by rw [WM_size]; omega) (fun hex => ⟨fun g => absurd g (by decide), fun _ => hth hok hs hex⟩) (fun hno => ⟨fun _ => ⟨⟨by show -2147483648 ≤ sM_rules M + 1; omega, by show sM_rules M + 1 < 2147483648; omega⟩, hnew hok hs hno⟩, fun g => absurd rfl g⟩)
    have s4 : (0 ≤ x2 ∧ x2 < 10 ∨ rs4 x2 x3 x4 x5 < 1) → (0 ≤ x3 ∧ x3 < 10 ∨ rs4 x2 x3 x4 x5 < 2) → (0 ≤ x4 ∧ x4 < 10 ∨ rs4 x2 x3 x4 x5 < 3) → c97_99 x1 x2 x3 x4 x5 (rs4 x2 x3 x4 x5) M Q := by
      intro a b c
      refine b97_99 ⟨fun g => good ⟨fun h => by omega, fun h => by omega, fun h => by omega, fun h => by omega⟩, fun g => g_m94 (fun q => ⟨fun g => absurd g (by decide), fun _ => good ⟨fun h => by omega, fun h => by omega, fun h => by omega, fun h => q⟩⟩) (fun q => ⟨fun _ => fail (fun s => q (s.2.2.2 (by omega))), fun g => absurd rfl g⟩)⟩
    have s3 : (0 ≤ x2 ∧ x2 < 10 ∨ rs4 x2 x3 x4 x5 < 1) → (0 ≤ x3 ∧ x3 < 10 ∨ rs4 x2 x3 x4 x5 < 2) → c97_85 x1 x2 x3 x4 x5 (rs4 x2 x3 x4 x5) M Q := by
      intro a b
      refine b97_85 ⟨fun g => s4 a b (Or.inr g), fun g => g_m94 (fun q => ⟨fun g => absurd g (by decide), fun _ => s4 a b (Or.inl q)⟩) (fun q => ⟨fun _ => fail (fun s => q (s.2.2.1 (by omega))), fun g => absurd rfl g⟩)⟩
    have s2 : (0 ≤ x2 ∧ x2 < 10 ∨ rs4 x2 x3 x4 x5 < 1) → c97_72 x1 x2 x3 x4 x5 (rs4 x2 x3 x4 x5) M Q := by
      intro a
      refine b97_72 ⟨fun g => s3 a (Or.inr g), fun g => g_m94 (fun q => ⟨fun g => absurd g (by decide), fun _ => s3 a (Or.inl q)⟩) (fun q => ⟨fun _ => fail (fun s => q (s.2.1 (by omega))), fun g => absurd rfl g⟩)⟩
    exact b97_57 ⟨fun g => s2 (Or.inr g), fun g => g_m94 (fun q => ⟨fun g => absurd g (by decide), fun _ => s2 (Or.inl q)⟩) (fun q => ⟨fun _ => fail (fun s => q (s.1 (by omega))), fun g => absurd rfl g⟩)⟩
  refine ⟨fun g2 => ⟨fun g3 => ⟨fun g4 => ⟨fun g5 => tail 4 ?_, fun g5 => tail 3 ?_⟩, fun g4 => tail 2 ?_⟩, fun g3 => tail 1 ?_⟩, fun g2 => tail 0 ?_⟩
  · unfold rs4; rw [if_neg g2, if_neg g3, if_neg g4, if_neg g5]
  · unfold rs4; rw [if_neg g2, if_neg g3, if_neg g4, if_pos (Decidable.of_not_not g5)]
  · unfold rs4; rw [if_neg g2, if_neg g3, if_pos (Decidable.of_not_not g4)]
  · unfold rs4; rw [if_neg g2, if_pos (Decidable.of_not_not g3)]
  · unfold rs4; rw [if_pos (Decidable.of_not_not g2)]
end MR
