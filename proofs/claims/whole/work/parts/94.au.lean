/-! The automata, as far as states and leads see them -/
/-- both automata have the same states and ways -/
def IA (M : ev_M) : Prop := 1 ≤ sA_count M ∧ sA_count M ≤ 60 ∧ sM_states M = sA_count M ∧ ∀ q a : Int, 0 ≤ q → q < sA_count M → 0 ≤ a → a < 10 → aM_ways M (10 * q + a).toNat = aA_goal M (q * 10 + a).toNat
section AU
variable {M : ev_M} {r x2 x3 : Int}
theorem g_m71 {Q : Int → ev_M → Prop} (h1 : 0 ≤ r ∧ r < sA_count M → Q 1 M) (h0 : ¬ (0 ≤ r ∧ r < sA_count M) → Q 0 M) : m71 r M Q :=
  b71 ⟨fun g => b71_19 (b71_20 ⟨Or.inl rfl, h0 (by omega)⟩), fun g => ⟨fun g2 => b71_19 (b71_20 ⟨Or.inl rfl, h0 (by omega)⟩), fun g2 => b71_20 ⟨Or.inr rfl, h1 (by omega)⟩⟩⟩
theorem g_m124 {Q : Int → ev_M → Prop} (h1 : 0 ≤ r ∧ r < sM_states M → Q 1 M) (h0 : ¬ (0 ≤ r ∧ r < sM_states M) → Q 0 M) : m124 r M Q :=
  b124 ⟨fun g => b124_16 (b124_17 ⟨Or.inl rfl, h0 (by omega)⟩), fun g => ⟨fun g2 => b124_16 (b124_17 ⟨Or.inl rfl, h0 (by omega)⟩), fun g2 => b124_17 ⟨Or.inr rfl, h1 (by omega)⟩⟩⟩
theorem g_m74 {Q : Int → ev_M → Prop} (h1 : 0 ≤ r ∧ r ≤ sC_size M → Q 1 M) (h0 : ¬ (0 ≤ r ∧ r ≤ sC_size M) → Q 0 M) : m74 r M Q :=
  b74 ⟨fun g => b74_19 (b74_20 ⟨Or.inl rfl, h0 (by omega)⟩), fun g => ⟨fun g2 => b74_19 (b74_20 ⟨Or.inl rfl, h0 (by omega)⟩), fun g2 => b74_20 ⟨Or.inr rfl, h1 (by omega)⟩⟩⟩
theorem g_m127 {Q : Int → ev_M → Prop} (h1 : 0 ≤ r ∧ r ≤ sM_length M → Q 1 M) (h0 : ¬ (0 ≤ r ∧ r ≤ sM_length M) → Q 0 M) : m127 r M Q :=
  b127 ⟨fun g => b127_16 (b127_17 ⟨Or.inl rfl, h0 (by omega)⟩), fun g => ⟨fun g2 => b127_16 (b127_17 ⟨Or.inl rfl, h0 (by omega)⟩), fun g2 => b127_17 ⟨Or.inr rfl, h1 (by omega)⟩⟩⟩
theorem g_m79 {Q : Int → ev_M → Prop} (h1 : (0 ≤ r ∧ r < 6) ∧ 0 ≤ x2 ∧ x2 ≤ x3 ∧ x3 ≤ sC_size M → Q 1 M) (h0 : ¬ ((0 ≤ r ∧ r < 6) ∧ 0 ≤ x2 ∧ x2 ≤ x3 ∧ x3 ≤ sC_size M) → Q 0 M) : m79 r x2 x3 M Q := by
  have no : ¬ ((0 ≤ r ∧ r < 6) ∧ 0 ≤ x2 ∧ x2 ≤ x3 ∧ x3 ≤ sC_size M) → c79_31 M Q := fun h => b79_31 (b79_32 ⟨Or.inl rfl, h0 h⟩)
  exact b79 (g_m5 (fun hm => ⟨fun g => absurd g (by decide), fun _ => ⟨fun g => no (by omega), fun g => ⟨fun g2 => no (by omega), fun g2 => ⟨fun g3 => no (by omega), fun g3 => b79_32 ⟨Or.inr rfl, h1 (by omega)⟩⟩⟩⟩⟩) (fun hm => ⟨fun _ => no (by omega), fun g => absurd rfl g⟩))
theorem g_m131 {Q : Int → ev_M → Prop} (h1 : (0 ≤ r ∧ r < 6) ∧ 0 ≤ x2 ∧ x2 ≤ x3 ∧ x3 ≤ sM_length M → Q 1 M) (h0 : ¬ ((0 ≤ r ∧ r < 6) ∧ 0 ≤ x2 ∧ x2 ≤ x3 ∧ x3 ≤ sM_length M) → Q 0 M) : m131 r x2 x3 M Q := by
  have no : ¬ ((0 ≤ r ∧ r < 6) ∧ 0 ≤ x2 ∧ x2 ≤ x3 ∧ x3 ≤ sM_length M) → c131_28 M Q := fun h => b131_28 (b131_29 ⟨Or.inl rfl, h0 h⟩)
  exact b131 (g_m95 (fun hm => ⟨fun g => absurd g (by decide), fun _ => ⟨fun g => no (by omega), fun g => ⟨fun g2 => no (by omega), fun g2 => ⟨fun g3 => no (by omega), fun g3 => b131_29 ⟨Or.inr rfl, h1 (by omega)⟩⟩⟩⟩⟩) (fun hm => ⟨fun _ => no (by omega), fun g => absurd rfl g⟩))
theorem st_states {R : ev_M → Prop} (hI : IA M) (h : R (ev_sS M 10 0)) : m70 M (fun w M1 => m123 M1 (fun w' M2 => w = w' ∧ R M2)) := b70 (b123 ⟨hI.2.2.1.symm, h⟩)
theorem st_leads {R : ev_M → Prop} (hI : IA M) (h : R (ev_sS M 10 0)) : m72 r x2 M (fun w M1 => m125 r x2 M1 (fun w' M2 => w = w' ∧ R M2)) := by
  obtain ⟨i1, i2, i3, i4⟩ := hI
  have e1 : sM_states (ev_sS M 10 0) = sA_count M := i3
  have no : ¬ ((0 ≤ r ∧ r < sA_count M) ∧ 0 ≤ x2 ∧ x2 < 10) → c72_30 M (fun w M1 => m125 r x2 M1 (fun w' M2 => w = w' ∧ R M2)) := by
    intro hn
    refine b72_30 (b72_31 (b125 (g_m124 (fun hs => ⟨fun g => absurd g (by decide), fun _ => g_m94 (fun hq => ?_) (fun hq => ⟨fun _ => b125_34 (b125_35 ⟨rfl, h⟩), fun g => absurd rfl g⟩)⟩) (fun hs => ⟨fun _ => b125_34 (b125_35 ⟨rfl, h⟩), fun g => absurd rfl g⟩))))
    rw [e1] at hs
    exact absurd ⟨hs, hq⟩ hn
  refine b72 (g_m71 (fun hs => ⟨fun g => absurd g (by decide), fun _ => ⟨fun g => no (by omega), fun g => ⟨fun g2 => no (by omega), fun g2 => b13 ⟨⟨by omega, by omega⟩, ⟨by omega, by omega⟩, ⟨by omega, by omega⟩, b72_31 ?_⟩⟩⟩⟩) (fun hs => ⟨fun _ => no (by omega), fun g => absurd rfl g⟩))
  refine b125 (g_m124 (fun _ => ⟨fun g => absurd g (by decide), fun _ => g_m94 (fun _ => ⟨fun g => absurd g (by decide), fun _ => ⟨⟨by omega, by omega⟩, ⟨by omega, by omega⟩, ⟨by omega, by omega⟩, b125_35 ⟨?_, h⟩⟩⟩) (fun g3 => absurd (by omega) g3)⟩) (fun g3 => absurd (by rw [e1]; exact hs) g3))
  exact (i4 r x2 hs.1 hs.2 (by omega) (by omega)).symm
end AU
