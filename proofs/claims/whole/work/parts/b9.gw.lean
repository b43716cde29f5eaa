/-! The class's forest: grow -/
section GW
variable {G : gT} {n : Int} {w : Int → Int} {T : Int → Int → Int → Bool} {M M' : ev_M}
/-- the class's forest is grown -/
def FOR (G : gT) (n : Int) (T : Int → Int → Int → Bool) (M : ev_M) : Prop := (sT_endless M = 1 ∧ END G n T) ∨ (sT_endless M = 0 ∧ ∃ ρ : Int → Int → Int → Int, FI G n T (usd G n T) ρ M)
def fl0 (M : ev_M) : Prop := ∀ k : Nat, 726 ≤ k → k < 1210 → aT_firstLength M k = 0
theorem FI.fl0 {K : Int → Int → Int → Prop} {ρ : Int → Int → Int → Int} (h : FI G n T K ρ M) : fl0 M := by
  intro k k0 k1
  have := (h.2.1 ((k / 121 : Nat) : Int) ((k / 11 % 11 : Nat) : Int) ((k % 11 : Nat) : Int) (by omega) (by omega) (by omega) (by omega) (by omega) (by omega)).2
  unfold fC' at this
  rw [show ((((k / 121 : Nat) : Int) * 11 + ((k / 11 % 11 : Nat) : Int)) * 11 + ((k % 11 : Nat) : Int)).toNat = k by omega] at this
  exact this
def KL (G : gT) (n : Int) (T : Int → Int → Int → Bool) (L I m i j : Int) : Prop := usd G n T m i j ∧ (j - i < L ∨ (j - i = L ∧ i < I))
theorem FI.iff {K K' : Int → Int → Int → Prop} {ρ : Int → Int → Int → Int} (h : FI G n T K ρ M) (e : ∀ m i j : Int, K' m i j ↔ K m i j) : FI G n T K' ρ M := by
  have : K' = K := by
    funext m i j
    exact propext (e m i j)
  rw [this]
  exact h
theorem FI.mem {K : Int → Int → Int → Prop} {ρ : Int → Int → Int → Int} (h : FI G n T K ρ M) (e1 : M'.2 21 = M.2 21) (e2 : M'.2 22 = M.2 22) : FI G n T K ρ M' := by
  have ev : vC M' = vC M := vC.of e1
  have ef : fC' M' = fC' M := by
    funext x p e
    unfold fC'
    simp only [aT_firstLength]
    rw [e2]
  unfold FI tR' at h ⊢
  rw [ev, ef]
  simp only [aT_count] at h ⊢
  rw [e1]
  exact h
theorem g_m53 {Q : ev_M → Prop} (hG : okG G) (hT : okT n w) (hD : isD G n w T) (hC : isC G M) (hX : isX n w M) (hc : CHT G n w M) (hU : UU G n T M) (hz0 : fl0 M) (h : ∀ M' : ev_M, fr [7] tA M M' → FOR G n T M' → fl0 M' → Q M') : m53 M Q := by
  have hn := hT.1
  have hCF : ∀ M1 : ev_M, fr [7] tA M M1 → isC G M1 := fun M1 hf => hC.of (hf.1 3 (by decide)) (hf.2 2 (by decide)) (hf.2 3 (by decide)) (hf.2 4 (by decide))
  have hcF : ∀ M1 : ev_M, fr [7] tA M M1 → CHT G n w M1 := fun M1 hf => hc.of (hf.2 12 (by decide))
  have hUF : ∀ M1 : ev_M, fr [7] tA M M1 → UU G n T M1 := by
    intro M1 hf
    unfold UU ubR ub at hU ⊢
    simp only [aU_ends] at hU ⊢
    rw [hf.2 16 (by decide)]
    exact hU
  -- the lengths
  have main : ∀ (M1 : ev_M) (ρ : Int → Int → Int → Int), fr [7] tA M M1 → FI G n T (fun _ _ _ => False) ρ M1 → c53_56 0 (ev_sS M1 7 0) Q := by
    intro M1 ρ hf1 hF1
    refine lp (σ := ev_M) (n := n + 1) (c := fun L M2 => c53_56 L M2 Q) (P := fun L M2 => fr [7] tA M M2 ∧ ((sT_endless M2 = 0 ∧ ∃ ρ : Int → Int → Int → Int, FI G n T (KL G n T L 0) ρ M2) ∨ (sT_endless M2 = 1 ∧ END G n T ∧ fl0 M2))) ?_ ?_ (by omega) (by omega) ⟨hf1.sS (by decide), Or.inl ⟨rfl, ρ, (hF1.iff (fun m i j => ⟨fun hk => ?_, fun hk => absurd hk id⟩)).mem rfl rfl⟩⟩
    · rintro L M2 L0 L1 ⟨hf2, hs⟩ ih
      have e5 : sC_size M2 = n := (hf2.1 5 (by decide)).trans hX.1
      refine b53_56 ⟨fun g => absurd g (by omega), fun _ => ⟨fun hne => b53_128 ?_, fun hze => ?_⟩⟩
      · rcases hs with ⟨e, -⟩ | ⟨e, hE, hz⟩
        · exact absurd e hne
        · exact h M2 hf2 (Or.inl ⟨e, hE⟩) hz
      · refine lp (σ := ev_M) (n := n - L + 1) (c := fun I M3 => c53_76 L I M3 Q) (P := fun I M3 => fr [7] tA M M3 ∧ ((sT_endless M3 = 0 ∧ ∃ ρ : Int → Int → Int → Int, FI G n T (KL G n T L I) ρ M3) ∨ (sT_endless M3 = 1 ∧ END G n T ∧ fl0 M3))) ?_ ?_ (by omega) (by omega) ⟨hf2, hs⟩
        · rintro I M3 I0 I1 ⟨hf3, hs3⟩ ihI
          have e5 : sC_size M3 = n := (hf3.1 5 (by decide)).trans hX.1
          refine b53_76 ⟨⟨by omega, by omega⟩, fun g => absurd g (by omega), fun _ => ⟨fun hne => b53_122 ⟨⟨by omega, by omega⟩, ih M3 ⟨hf3, ?_⟩⟩, fun hze => ⟨⟨by omega, by omega⟩, ?_⟩⟩⟩
          · rcases hs3 with ⟨e, -⟩ | hs3
            · exact absurd e hne
            · exact Or.inr hs3
          · rcases hs3 with ⟨e, ρ3, hF3⟩ | ⟨e, -⟩
            · refine g_m52 (K := KL G n T L I) (ρ := ρ3) hG hT hD (hCF M3 hf3) (hcF M3 hf3) (hUF M3 hf3) ⟨I0, by omega, by omega⟩ hF3 (fun m x y hu hlt => ⟨hu, Or.inl (by omega)⟩) (fun m hk => by have := hk.2; omega) (fun M4 K4 ρ4 hf4 hF4 hK4 => ⟨fun _ => b53_113 ⟨Or.inl rfl, ⟨by omega, by omega⟩, ihI _ ⟨(hf3.trans (hf4.mono (by decide) (by decide))).sS (by decide), Or.inl ⟨rfl, ρ4, (hF4.iff (fun m i j => ?_)).mem rfl rfl⟩⟩⟩, fun g => absurd (by decide) g⟩) (fun M4 hf4 hex hE => ⟨fun g => absurd rfl g, fun _ => b53_113 ⟨Or.inr rfl, ⟨by omega, by omega⟩, ihI _ ⟨(hf3.trans (hf4.mono (by decide) (by decide))).sS (by decide), Or.inr ⟨rfl, hE, ?_⟩⟩⟩⟩)
              · rw [hK4]
                constructor
                · rintro ⟨hu, hk⟩
                  by_cases e : j - i = L ∧ i = I
                  · refine Or.inr ⟨e.2, by omega, ?_⟩
                    rw [show I + L = j by omega, ← e.2]; exact hu
                  · exact Or.inl ⟨hu, by omega⟩
                · rintro (⟨hu, hk⟩ | ⟨rfl, rfl, hu⟩)
                  · exact ⟨hu, by omega⟩
                  · exact ⟨hu, by omega⟩
              · obtain ⟨K4, ρ4, hF4⟩ := hex
                exact hF4.fl0
            · have := Decidable.of_not_not hze; omega
        · rintro M3 ⟨hf3, hs3⟩
          have e5 : sC_size M3 = n := (hf3.1 5 (by decide)).trans hX.1
          refine b53_76 ⟨⟨by omega, by omega⟩, fun _ => b53_122 ⟨⟨by omega, by omega⟩, ih M3 ⟨hf3, ?_⟩⟩, fun g => absurd (by omega) g⟩
          rcases hs3 with ⟨e, ρ3, hF3⟩ | hs3
          · refine Or.inl ⟨e, ρ3, hF3.iff (fun m i j => ⟨fun hk => ⟨hk.1, ?_⟩, fun hk => ⟨hk.1, ?_⟩⟩)⟩
            · have hr := hk.1.rng hG hT hD
              have := hk.2
              omega
            · have := hk.2
              omega
          · exact Or.inr hs3
    · rintro M2 ⟨hf2, hs⟩
      have e5 : sC_size M2 = n := (hf2.1 5 (by decide)).trans hX.1
      refine b53_56 ⟨fun _ => b53_128 ?_, fun g => absurd (by omega) g⟩
      rcases hs with ⟨e, ρ2, hF2⟩ | ⟨e, hE, hz⟩
      · refine h M2 hf2 (Or.inr ⟨e, ρ2, hF2.iff (fun m i j => ⟨fun hu => ⟨hu, Or.inl ?_⟩, fun hk => hk.1⟩)⟩) hF2.fl0
        have hr := hu.rng hG hT hD
        omega
      · exact h M2 hf2 (Or.inl ⟨e, hE⟩) hz
    · have hr := hk.1.rng hG hT hD
      have := hk.2
      omega
  -- the words
  have hz : ∀ k : Nat, k < 1210 → aT_count (ev_fl M 21 1210 0) k = 0 := by
    intro k hk
    show (if 21 = 21 then (fun j => if j < 1210 then 0 else M.2 21 j) else M.2 21) k = 0
    rw [if_pos rfl]
    exact if_pos hk
  have hf0 : fr [] [21] M (ev_fl M 21 1210 0) := ⟨fun _ _ => rfl, fun c hc => if_neg (fun e => hc (by rw [e]; decide))⟩
  refine b53 (m1_fill (n := 1210) (by decide) (fun _ => rfl) (fun _ _ _ => rfl) ?_)
  refine lp (σ := ev_M) (n := n) (c := fun q M1 => c53_10 q M1 Q) (P := fun q M1 => fr [] [21] M M1 ∧ ∀ k : Nat, k < 1210 → (aT_count M1 k = 0 ∧ ¬ ∃ p : Int, 0 ≤ p ∧ p < q ∧ (k : Int) = (w p * 11 + p) * 11 + (p + 1)) ∨ (aT_count M1 k = 1 ∧ ∃ p : Int, 0 ≤ p ∧ p < q ∧ (k : Int) = (w p * 11 + p) * 11 + (p + 1))) ?_ ?_ (by omega) hn.1 ⟨hf0, fun k hk => Or.inl ⟨hz k hk, fun ⟨p, a1, a2, _⟩ => by omega⟩⟩
  · rintro q M1 q0 q1 ⟨hf1, hk1⟩ ih
    have hX1 : isX n w M1 := hX.of (hf1.1 5 (by decide)) (hf1.2 11 (by decide))
    have e5 := hX1.1
    have hwq := hT.2 q q0 q1
    refine b53_10 ⟨fun g => absurd g (by omega), fun _ => ⟨⟨q0, by omega⟩, ⟨by omega, by omega⟩, ?_⟩⟩
    rw [hX1.2 q q0 q1]
    refine g_m46 (by omega) (by omega) (by omega) ⟨⟨by omega, by omega⟩, ⟨by omega, by omega⟩, ih _ ⟨hf1.sA (by decide), fun k hk => ?_⟩⟩
    by_cases e : k = ((w q * 11 + q) * 11 + (q + 1)).toNat
    · refine Or.inr ⟨?_, q, q0, by omega, by omega⟩
      show (ev_sA M1 21 ((w q * 11 + q) * 11 + (q + 1)).toNat 1).2 21 k = 1
      rw [e, sA_same]
    · have e1 : aT_count (ev_sA M1 21 ((w q * 11 + q) * 11 + (q + 1)).toNat 1) k = aT_count M1 k := sA_ne e
      rw [e1]
      rcases hk1 k hk with ⟨a1, a2⟩ | ⟨a1, p, b0, b1, b2⟩
      · refine Or.inl ⟨a1, fun ⟨p, b0, b1, b2⟩ => ?_⟩
        by_cases ep : p = q
        · subst ep; omega
        · exact a2 ⟨p, b0, by omega, b2⟩
      · exact Or.inr ⟨a1, p, b0, by omega, b2⟩
  · rintro M1 ⟨hf1, hk1⟩
    have e5 : sC_size M1 = n := (hf1.1 5 (by decide)).trans hX.1
    refine b53_10 ⟨fun _ => main M1 (fun _ _ _ => 0) (hf1.mono (by decide) (by decide)) ⟨fun k hk => ?_, fun x p e a1 a2 a3 a4 a5 a6 => ⟨?_, ?_⟩, fun m i j h6 hne => hne ?_, fun m i j hk => absurd hk id, fun m i j hk => absurd hk id, fun m i j hk => absurd hk id, fun m i j h6 hne => absurd ?_ hne⟩, fun g => absurd (by omega) g⟩
    · rcases hk1 k hk with ⟨a1, -⟩ | ⟨a1, -⟩ <;> omega
    · rcases hk1 ((x * 11 + p) * 11 + e).toNat (by omega) with ⟨b1, b2⟩ | ⟨b1, q, c0, c1, c2⟩
      · rw [b1]
        cases hc2 : T x p e with
        | false => rfl
        | true =>
          have hd := ((hD _ _ _).mp hc2).rng hG hT
          have h6 := hd.2.2.2.2 a1
          exact absurd ⟨p, a3, h6.2.1, by rw [h6.2.2]; omega⟩ b2
      · rw [b1]
        have hwq := hT.2 q c0 c1
        have e1 : w q = x := by omega
        have e2 : q = p := by omega
        have e3 : e = p + 1 := by omega
        have : T x p e = true := by
          rw [hD, e3, ← e1, ← e2]
          exact der.word c0 c1
        rw [this]; rfl
    · have e22 : M1.2 22 = M.2 22 := hf1.2 22 (by decide)
      show M1.2 22 _ = 0
      rw [e22]
      exact hz0 _ (by omega) (by omega)
    · unfold vC
      split
      · rename_i hr
        rcases hk1 ((m * 11 + i) * 11 + j).toNat (by omega) with ⟨b1, -⟩ | ⟨b1, q, c0, c1, c2⟩
        · rw [b1]; rfl
        · have hwq := hT.2 q c0 c1
          omega
      · rfl
    · unfold vC
      split
      · rename_i hr
        rcases hk1 ((m * 11 + i) * 11 + j).toNat (by omega) with ⟨b1, -⟩ | ⟨b1, q, c0, c1, c2⟩
        · rw [b1]; rfl
        · have hwq := hT.2 q c0 c1
          omega
      · rfl
end GW
