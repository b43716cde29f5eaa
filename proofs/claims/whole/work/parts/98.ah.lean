/-! The class's automaton: item, holds, stateOf -/
/-- the state's item (rule, dot) in the class's memory -/
def hC (M : ev_M) (q r d : Int) : Bool := if d = 0 then bt (aA_awaited M q.toNat) (aG_left M r.toNat).toNat else bt (aA_kernel M q.toNat) (r * 4 + d - 1).toNat
section AH
variable {M : ev_M} {Q : Int → ev_M → Prop} {q r d x : Int}
theorem g_m14 (hr : 0 ≤ r ∧ r < 14) (hd : 1 ≤ d ∧ d ≤ 4) (h : Q (tm_sl 1 (r * 4 + d - 1)) M) : m14 r d M Q := by
  refine b14 ⟨⟨by omega, by omega⟩, ⟨by omega, by omega⟩, ⟨by omega, by omega⟩, ⟨by omega, by omega⟩, ?_, h⟩
  have h1 : (2 : Nat) ^ (r * 4 + d - 1).toNat ≤ 2 ^ 55 := Nat.pow_le_pow_right (by decide) (by omega)
  have h2 : ((2 : Int) ^ (r * 4 + d - 1).toNat) = ((2 ^ (r * 4 + d - 1).toNat : Nat) : Int) := by rw [Int.natCast_pow]; rfl
  rw [h2]
  omega
theorem sl_rng {y : Int} {n : Nat} (hy : y.toNat < n) : 0 ≤ tm_sl 1 y ∧ tm_sl 1 y < ((2 ^ n : Nat) : Int) := by
  rw [tm_sl1]
  have h2 : (2 : Nat) ^ y.toNat < 2 ^ n := Nat.pow_lt_pow_right (by decide) hy
  exact ⟨Int.natCast_nonneg _, by omega⟩
theorem g_m15 (hq : 0 ≤ q ∧ q < 60) (hr : 0 ≤ r ∧ r < 14) (hd : 0 ≤ d ∧ d ≤ 4) (hk : 0 ≤ aA_kernel M q.toNat ∧ aA_kernel M q.toNat < 9223372036854775808) (ha : 0 ≤ aA_awaited M q.toNat ∧ aA_awaited M q.toNat < 64) (hl : 0 ≤ aG_left M r.toNat ∧ aG_left M r.toNat < 6) (h1 : hC M q r d = true → Q 1 M) (h0 : hC M q r d = false → Q 0 M) : m15 q r d M Q := by
  unfold hC at h1 h0
  refine b15 ⟨fun g => ⟨hq, g_m14 hr ⟨by omega, hd.2⟩ ⟨hk, ?_, fun g2 => b15_53 ⟨Or.inl rfl, ?_⟩, fun g2 => b15_53 ⟨Or.inr rfl, ?_⟩⟩⟩, fun g => ⟨hq, hr, ⟨ha.1, by omega⟩, ⟨hl.1, by omega⟩, ?_, fun g2 => b15_30 ⟨Or.inl rfl, ?_⟩, fun g2 => b15_30 ⟨Or.inr rfl, ?_⟩⟩⟩
  · exact sl_rng (n := 63) (by omega)
  · rw [if_neg g] at h0
    exact h0 (bt_an.mp g2)
  · rw [if_neg g] at h1
    refine h1 ?_
    cases hb : bt (aA_kernel M q.toNat) (r * 4 + d - 1).toNat with
    | true => rfl
    | false => exact absurd (bt_an.mpr hb) g2
  · refine ⟨Int.natCast_nonneg _, ?_⟩
    have h3 : (aA_awaited M q.toNat).toNat >>> (aG_left M r.toNat).toNat ≤ (aA_awaited M q.toNat).toNat := Nat.shiftRight_le _ _
    show (((aA_awaited M q.toNat).toNat >>> (aG_left M r.toNat).toNat : Nat) : Int) < 2147483648
    omega
  · rw [if_pos (Decidable.of_not_not g)] at h0
    exact h0 (bt_sr.mp g2)
  · rw [if_pos (Decidable.of_not_not g)] at h1
    refine h1 ?_
    cases hb : bt (aA_awaited M q.toNat) (aG_left M r.toNat).toNat with
    | true => rfl
    | false => exact absurd (bt_sr.mpr hb) g2
/-- find a state or add it -/
theorem g_m18 (hc : 0 ≤ sA_count M ∧ sA_count M ≤ 60) (h1 : ∀ q : Int, 0 ≤ q → q < sA_count M → aA_kernel M q.toNat = x → (∀ p : Int, 0 ≤ p → p < q → aA_kernel M p.toNat ≠ x) → Q q M)
    (h2 : (∀ p : Int, 0 ≤ p → p < sA_count M → aA_kernel M p.toNat ≠ x) → sA_count M < 60 → Q (sA_count M) (ev_sS (ev_sA M 6 (sA_count M).toNat x) 4 (sA_count M + 1))) (h3 : (∀ p : Int, 0 ≤ p → p < sA_count M → aA_kernel M p.toNat ≠ x) → sA_count M = 60 → Q 60 M) : m18 x M Q := by
  have fin : ∀ y : Int, sA_count M ≤ y → (∀ p : Int, 0 ≤ p → p < y → aA_kernel M p.toNat ≠ x) → (((sA_count M) < 60 → ((0 ≤ (sA_count M) ∧ (sA_count M) < 60) ∧ (tm_iI ((sA_count M) + 1) ∧ (tm_iI (((sA_count M) + 1) - 1) ∧ (Q (((sA_count M) + 1) - 1) (ev_sS (ev_sA M 6 (sA_count M).toNat x) 4 ((sA_count M) + 1))))))) ∧ (¬ ((sA_count M) < 60) → (Q 60 M))) := by
    intro y hy hp
    refine ⟨fun g => ⟨⟨hc.1, g⟩, ⟨by omega, by omega⟩, ⟨by omega, by omega⟩, ?_⟩, fun g => h3 (fun p a1 a2 => hp p a1 (by omega)) (by omega)⟩
    rw [show sA_count M + 1 - 1 = sA_count M by omega]
    exact h2 (fun p a1 a2 => hp p a1 (by omega)) g
  have key : ∀ (n : Nat) (y : Int), sA_count M - y ≤ n → 0 ≤ y → (∀ p : Int, 0 ≤ p → p < y → aA_kernel M p.toNat ≠ x) → c18_2 x y M Q := by
    intro n
    induction n with
    | zero => intro y hy h0y hp; exact b18_2 ⟨fun g => fin y g hp, fun g => absurd g (by omega)⟩
    | succ n ih =>
      intro y hy h0y hp
      refine b18_2 ⟨fun g => fin y g hp, fun g => ⟨⟨h0y, by omega⟩, fun g2 => ⟨⟨by omega, by omega⟩, ih (y + 1) (by omega) (by omega) (fun p a1 a2 => ?_)⟩, fun g2 => h1 y h0y (by omega) (Decidable.of_not_not g2) hp⟩⟩
      by_cases hpy : p = y
      · subst hpy; exact g2
      · exact hp p a1 (by omega)
  exact b18 (key (sA_count M).toNat 0 (by omega) (by omega) (fun p a1 a2 => by omega))
end AH
