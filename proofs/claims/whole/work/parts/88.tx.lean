/-! The text: word and erase, on both sides -/
/-- both sides hold the same text -/
def IT (M : ev_M) : Prop := 0 ≤ sC_size M ∧ sC_size M ≤ 10 ∧ sM_length M = sC_size M ∧ ∀ j : Nat, (j : Int) < sC_size M → aM_text M j = aC_text M j ∧ 6 ≤ aC_text M j ∧ aC_text M j < 10
/-- the class's flags down -/
def odM (M : ev_M) : ev_M := ev_sS (ev_sS (ev_sS M 0 0) 1 0) 2 0
def wordM (x : Int) (M : ev_M) : ev_M := ev_sS (ev_sS (ev_sA (odM (ev_sS (ev_sA M 11 (sC_size M).toNat x) 5 (sC_size M + 1))) 34 (sC_size M).toNat x) 12 (sC_size M + 1)) 16 0
def eraseM (M : ev_M) : ev_M := ev_sS (ev_sS (odM (ev_sS M 5 0)) 12 0) 16 0
theorem st_word {x : Int} {M : ev_M} {R : ev_M → Prop} (hI : IT M) (h1 : (x < 6 ∨ 10 ≤ x ∨ 10 ≤ sC_size M) → R M) (h2 : ¬ (x < 6 ∨ 10 ≤ x ∨ 10 ≤ sC_size M) → R (wordM x M)) : m65 x M (fun w M1 => m98 x M1 (fun w' M2 => w = w' ∧ R M2)) := by
  obtain ⟨a1, a2, a3, -⟩ := hI
  have no : (x < 6 ∨ 10 ≤ x ∨ 10 ≤ sC_size M) → c65_24 M (fun w M1 => m98 x M1 (fun w' M2 => w = w' ∧ R M2)) := by
    intro hc
    refine b65_24 (b98 ⟨fun _ => b98_21 ⟨rfl, h1 hc⟩, fun g1 => ⟨fun _ => b98_21 ⟨rfl, h1 hc⟩, fun g2 => ⟨fun g3 => ?_, fun _ => b98_21 ⟨rfl, h1 hc⟩⟩⟩⟩)
    exact absurd g3 (fun g => by rw [a3] at g; omega)
  refine b65 ⟨fun g => no (Or.inl g), fun g1 => ⟨fun g => no (Or.inr (Or.inl g)), fun g2 => ⟨fun g3 => ⟨⟨a1, g3⟩, ⟨by omega, by omega⟩, b63 ?_⟩, fun g => no (Or.inr (Or.inr (by omega)))⟩⟩⟩
  have e1 : sM_length (ev_sS (ev_sS (ev_sS (ev_sS (ev_sA M 11 (sC_size M).toNat x) 5 (sC_size M + 1)) 0 0) 1 0) 2 0) = sC_size M := a3
  refine b98 ⟨fun g => absurd g g1, fun _ => ⟨fun g => absurd g (by omega), fun _ => ⟨fun _ => ?_, fun g => ?_⟩⟩⟩
  · rw [e1]
    exact ⟨⟨a1, g3⟩, ⟨by omega, by omega⟩, rfl, h2 (by omega)⟩
  · rw [e1] at g
    exact absurd g (by omega)
theorem st_erase {M : ev_M} {R : ev_M → Prop} (hI : IT M) (h : R (eraseM M)) : m66 M (fun w M1 => m99 M1 (fun w' M2 => w = w' ∧ R M2)) := by
  obtain ⟨a1, a2, a3, -⟩ := hI
  refine b66 (b63 (b99 ⟨?_, h⟩))
  exact a3.symm
theorem IT_word {x : Int} {M : ev_M} (hI : IT M) (hc : ¬ (x < 6 ∨ 10 ≤ x ∨ 10 ≤ sC_size M)) : IT (wordM x M) := by
  obtain ⟨a1, a2, a3, a4⟩ := hI
  refine ⟨by show 0 ≤ sC_size M + 1; omega, by show sC_size M + 1 ≤ 10; omega, rfl, fun j hj => ?_⟩
  have hj' : (j : Int) < sC_size M + 1 := hj
  show tm_up (M.2 34) (sC_size M).toNat x j = tm_up (M.2 11) (sC_size M).toNat x j ∧ 6 ≤ tm_up (M.2 11) (sC_size M).toNat x j ∧ tm_up (M.2 11) (sC_size M).toNat x j < 10
  unfold tm_up
  by_cases h : j = (sC_size M).toNat
  · rw [if_pos h, if_pos h]
    exact ⟨rfl, by omega, by omega⟩
  · rw [if_neg h, if_neg h]
    exact a4 j (by omega)
theorem IT_erase {M : ev_M} : IT (eraseM M) := ⟨by show (0 : Int) ≤ 0; omega, by show (0 : Int) ≤ 10; omega, rfl, fun j hj => absurd (show (j : Int) < 0 from hj) (by omega)⟩
