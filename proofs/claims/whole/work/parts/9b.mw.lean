/-! The model's automaton: wants -/
section MW
variable {M : ev_M} {Q : Int → ev_M → Prop} {x : Int}
/-- a dot of the new set stands before x, in a rule before r, or in r before dot d -/
def wtd (M : ev_M) (x r d : Int) : Prop := (∃ k i : Int, 0 ≤ k ∧ k < r ∧ 0 ≤ i ∧ i < aM_sizes M k.toNat ∧ it2 (sM_newLow M) (sM_newHigh M) k i = true ∧ mR M k i = x) ∨ (∃ i : Int, 0 ≤ i ∧ i < d ∧ it2 (sM_newLow M) (sM_newHigh M) r i = true ∧ mR M r i = x)
theorem g_m85 (hc : 0 ≤ sM_rules M ∧ sM_rules M ≤ 14) (hs : ∀ k : Int, 0 ≤ k → k < sM_rules M → 0 ≤ aM_sizes M k.toNat ∧ aM_sizes M k.toNat ≤ 4) (hlo : 0 ≤ sM_newLow M ∧ sM_newLow M < 9223372036854775808) (hhi : 0 ≤ sM_newHigh M ∧ sM_newHigh M < 9223372036854775808)
    (h1 : ((x = 0 ∧ bt (sM_newLow M) 0 = true) ∨ wtd M x (sM_rules M) 0) → Q 1 M) (h0 : ¬ ((x = 0 ∧ bt (sM_newLow M) 0 = true) ∨ wtd M x (sM_rules M) 0) → Q 0 M) : m85 x M Q := by
  have an1 : ¬ tm_an (sM_newLow M) 1 = 1 → bt (sM_newLow M) 0 = false := by
    intro h
    refine Bool.eq_false_iff.mpr (fun hb => h ?_)
    have := (bt_sr1 (x := sM_newLow M) (y := 0)).mpr hb
    exact this
  have an0 : tm_an (sM_newLow M) 1 = 1 → bt (sM_newLow M) 0 = true := fun h => (bt_sr1 (x := sM_newLow M) (y := 0)).mp h
  -- the loops: t says whether one was found
  have key : ∀ (n : Nat) (r t : Int), sM_rules M - r ≤ n → 0 ≤ r → r ≤ sM_rules M → ((t = 1 ∧ ((x = 0 ∧ bt (sM_newLow M) 0 = true) ∨ wtd M x r 0)) ∨ (t = 0 ∧ ¬ ((x = 0 ∧ bt (sM_newLow M) 0 = true) ∨ wtd M x r 0))) → c85_23 x t r M Q := by
    intro n
    induction n with
    | zero =>
      intro r t hn h0r hle ht
      have e : r = sM_rules M := by omega
      subst e
      refine b85_23 ⟨fun _ => ?_, fun g => absurd g (by omega)⟩
      rcases ht with ⟨rfl, ht⟩ | ⟨rfl, ht⟩
      · exact ⟨Or.inr rfl, h1 ht⟩
      · exact ⟨Or.inl rfl, h0 ht⟩
    | succ n ih =>
      intro r t hn h0r hle ht
      refine b85_23 ⟨fun g => ?_, fun g => ?_⟩
      · have e : r = sM_rules M := by omega
        subst e
        rcases ht with ⟨rfl, ht⟩ | ⟨rfl, ht⟩
        · exact ⟨Or.inr rfl, h1 ht⟩
        · exact ⟨Or.inl rfl, h0 ht⟩
      · have hr : 0 ≤ r ∧ r < 14 := ⟨h0r, by omega⟩
        have hsr := hs r h0r (by omega)
        have inner : ∀ (m : Nat) (d t : Int), aM_sizes M r.toNat - d ≤ m → 0 ≤ d → d ≤ aM_sizes M r.toNat → ((t = 1 ∧ ((x = 0 ∧ bt (sM_newLow M) 0 = true) ∨ wtd M x r d)) ∨ (t = 0 ∧ ¬ ((x = 0 ∧ bt (sM_newLow M) 0 = true) ∨ wtd M x r d))) → c85_34 x t r d M Q := by
          have out : ∀ t : Int, ((t = 1 ∧ ((x = 0 ∧ bt (sM_newLow M) 0 = true) ∨ wtd M x r (aM_sizes M r.toNat))) ∨ (t = 0 ∧ ¬ ((x = 0 ∧ bt (sM_newLow M) 0 = true) ∨ wtd M x r (aM_sizes M r.toNat)))) → c85_23 x t (r + 1) M Q := by
            intro t ht
            have e : wtd M x r (aM_sizes M r.toNat) ↔ wtd M x (r + 1) 0 := by
              constructor
              · rintro (⟨k, i, k1, k2, k3, k4, k5, k6⟩ | ⟨i, i1, i2, i3, i4⟩)
                · exact Or.inl ⟨k, i, k1, by omega, k3, k4, k5, k6⟩
                · exact Or.inl ⟨r, i, h0r, by omega, i1, i2, i3, i4⟩
              · rintro (⟨k, i, k1, k2, k3, k4, k5, k6⟩ | ⟨i, i1, i2, -⟩)
                · by_cases hk : k = r
                  · subst hk; exact Or.inr ⟨i, k3, k4, k5, k6⟩
                  · exact Or.inl ⟨k, i, k1, by omega, k3, k4, k5, k6⟩
                · omega
            rw [e] at ht
            exact ih (r + 1) t (by omega) (by omega) (by omega) ht
          intro m
          induction m with
          | zero =>
            intro d t hm h0d hd ht
            have e : d = aM_sizes M r.toNat := by omega
            subst e
            exact b85_34 ⟨hr, fun _ => ⟨⟨by omega, by omega⟩, out t ht⟩, fun g => absurd g (by omega)⟩
          | succ m ihm =>
            intro d t hm h0d hd ht
            refine b85_34 ⟨hr, fun g => ?_, fun g => ?_⟩
            · have e : d = aM_sizes M r.toNat := by omega
              subst e
              exact ⟨⟨by omega, by omega⟩, out t ht⟩
            · have st : wtd M x r (d + 1) ↔ (wtd M x r d ∨ (it2 (sM_newLow M) (sM_newHigh M) r d = true ∧ mR M r d = x)) := by
                constructor
                · rintro (h | ⟨i, i1, i2, i3, i4⟩)
                  · exact Or.inl (Or.inl h)
                  · by_cases hi : i = d
                    · subst hi; exact Or.inr ⟨i3, i4⟩
                    · exact Or.inl (Or.inr ⟨i, i1, by omega, i3, i4⟩)
                · rintro ((h | ⟨i, i1, i2, i3, i4⟩) | h)
                  · exact Or.inl h
                  · exact Or.inr ⟨i, i1, by omega, i3, i4⟩
                  · exact Or.inr ⟨d, h0d, by omega, h.1, h.2⟩
              have yes : ((x = 0 ∧ bt (sM_newLow M) 0 = true) ∨ wtd M x r (d + 1)) → c85_79 x r d 1 M Q := fun hy => b85_79 ⟨⟨by omega, by omega⟩, ihm (d + 1) 1 (by omega) (by omega) (by omega) (Or.inl ⟨rfl, hy⟩)⟩
              have no : ¬ ((x = 0 ∧ bt (sM_newLow M) 0 = true) ∨ wtd M x r (d + 1)) → c85_79 x r d 0 M Q := fun hy => b85_79 ⟨⟨by omega, by omega⟩, ihm (d + 1) 0 (by omega) (by omega) (by omega) (Or.inr ⟨rfl, hy⟩)⟩
              refine ⟨fun g2 => b85_74 (yes ?_), fun g2 => g_m84 hr ⟨h0d, by omega⟩ hlo hhi (fun hb => ⟨fun g3 => absurd g3 (by decide), fun _ => ⟨⟨by omega, by omega⟩, ⟨by omega, by omega⟩, ⟨by omega, by omega⟩, fun g3 => b85_78 (no ?_), fun g3 => b85_74 (yes ?_)⟩⟩) (fun hb => ⟨fun _ => b85_78 (no ?_), fun g3 => absurd rfl g3⟩)⟩
              · rcases ht with ⟨-, ht⟩ | ⟨h, -⟩
                · rcases ht with ht | ht
                  · exact Or.inl ht
                  · exact Or.inr (st.mpr (Or.inl ht))
                · exact absurd h g2
              · rcases ht with ⟨h, -⟩ | ⟨-, ht⟩
                · omega
                · rintro (hy | hy)
                  · exact ht (Or.inl hy)
                  · rcases st.mp hy with hy | hy
                    · exact ht (Or.inr hy)
                    · exact g3 hy.2
              · exact Or.inr (st.mpr (Or.inr ⟨hb, Decidable.of_not_not g3⟩))
              · rcases ht with ⟨h, -⟩ | ⟨-, ht⟩
                · omega
                · rintro (hy | hy)
                  · exact ht (Or.inl hy)
                  · rcases st.mp hy with hy | hy
                    · exact ht (Or.inr hy)
                    · rw [hb] at hy; exact absurd hy.1 (by decide)
        refine inner (aM_sizes M r.toNat).toNat 0 t (by omega) (by omega) hsr.1 ht
  have z0 : ¬ wtd M x 0 0 := by
    rintro (⟨k, i, k1, k2, -⟩ | ⟨i, i1, i2, -⟩) <;> omega
  refine b85 ⟨fun g => b85_19 (b85_20 (key (sM_rules M).toNat 0 0 (by omega) (by omega) hc.1 (Or.inr ⟨rfl, ?_⟩))), fun g => ⟨hlo, fun g2 => b85_19 (b85_20 (key (sM_rules M).toNat 0 0 (by omega) (by omega) hc.1 (Or.inr ⟨rfl, ?_⟩))), fun g2 => b85_20 (key (sM_rules M).toNat 0 1 (by omega) (by omega) hc.1 (Or.inl ⟨rfl, ?_⟩))⟩⟩
  · rintro (h | h)
    · exact g h.1
    · exact z0 h
  · rintro (h | h)
    · rw [an1 g2] at h; exact absurd h.2 (by decide)
    · exact z0 h
  · exact Or.inl ⟨Decidable.of_not_not g, an0 (Decidable.of_not_not g2)⟩
end MW
