/-! The model's automaton: isNew, put, has, keep -/
/-- the item (rule, dot) in a set of two longs -/
def it2 (lo hi r d : Int) : Bool := if 7 ≤ r then bt hi (5 * (r - 7) + d).toNat else bt lo (2 + 5 * r + d).toNat
section MH
variable {M : ev_M} {r d q : Int}
theorem sr_rng {x y : Int} (h : x < 9223372036854775808) : 0 ≤ tm_sr x y ∧ tm_sr x y < 9223372036854775808 := by
  refine ⟨Int.natCast_nonneg _, ?_⟩
  have h3 : x.toNat >>> y.toNat ≤ x.toNat := Nat.shiftRight_le _ _
  show ((x.toNat >>> y.toNat : Nat) : Int) < 9223372036854775808
  omega
theorem g_m84 {Q : Int → ev_M → Prop} (hr : 0 ≤ r ∧ r < 14) (hd : 0 ≤ d ∧ d ≤ 4) (hlo : 0 ≤ sM_newLow M ∧ sM_newLow M < 9223372036854775808) (hhi : 0 ≤ sM_newHigh M ∧ sM_newHigh M < 9223372036854775808) (h1 : it2 (sM_newLow M) (sM_newHigh M) r d = true → Q 1 M) (h0 : it2 (sM_newLow M) (sM_newHigh M) r d = false → Q 0 M) : m84 r d M Q := by
  unfold it2 at h1 h0
  refine b84 ⟨fun g => ⟨⟨by omega, by omega⟩, ⟨by omega, by omega⟩, ⟨by omega, by omega⟩, hhi, ⟨by omega, by omega⟩, sr_rng hhi.2, fun g2 => b84_58 ⟨Or.inl rfl, ?_⟩, fun g2 => b84_58 ⟨Or.inr rfl, ?_⟩⟩, fun g => ⟨⟨by omega, by omega⟩, ⟨by omega, by omega⟩, ⟨by omega, by omega⟩, hlo, ⟨by omega, by omega⟩, sr_rng hlo.2, fun g2 => b84_58 ⟨Or.inl rfl, ?_⟩, fun g2 => b84_58 ⟨Or.inr rfl, ?_⟩⟩⟩
  · rw [if_pos g] at h0
    exact h0 (Bool.eq_false_iff.mpr (fun hb => g2 (bt_sr1.mpr hb)))
  · rw [if_pos g] at h1
    exact h1 (bt_sr1.mp (Decidable.of_not_not g2))
  · rw [if_neg g] at h0
    exact h0 (Bool.eq_false_iff.mpr (fun hb => g2 (bt_sr1.mpr hb)))
  · rw [if_neg g] at h1
    exact h1 (bt_sr1.mp (Decidable.of_not_not g2))
theorem g_m89 {Q : Int → ev_M → Prop} (hq : 0 ≤ q ∧ q < 61) (hr : 0 ≤ r ∧ r < 14) (hd : 0 ≤ d ∧ d ≤ 4) (hlo : 0 ≤ aM_low M q.toNat ∧ aM_low M q.toNat < 9223372036854775808) (hhi : 0 ≤ aM_high M q.toNat ∧ aM_high M q.toNat < 9223372036854775808) (h1 : it2 (aM_low M q.toNat) (aM_high M q.toNat) r d = true → Q 1 M) (h0 : it2 (aM_low M q.toNat) (aM_high M q.toNat) r d = false → Q 0 M) : m89 q r d M Q := by
  unfold it2 at h1 h0
  refine b89 ⟨fun g => ⟨hq, ⟨by omega, by omega⟩, ⟨by omega, by omega⟩, ⟨by omega, by omega⟩, hhi, ⟨by omega, by omega⟩, sr_rng hhi.2, fun g2 => b89_62 ⟨Or.inl rfl, ?_⟩, fun g2 => b89_62 ⟨Or.inr rfl, ?_⟩⟩, fun g => ⟨hq, ⟨by omega, by omega⟩, ⟨by omega, by omega⟩, ⟨by omega, by omega⟩, hlo, ⟨by omega, by omega⟩, sr_rng hlo.2, fun g2 => b89_62 ⟨Or.inl rfl, ?_⟩, fun g2 => b89_62 ⟨Or.inr rfl, ?_⟩⟩⟩
  · rw [if_pos g] at h0
    exact h0 (Bool.eq_false_iff.mpr (fun hb => g2 (bt_sr1.mpr hb)))
  · rw [if_pos g] at h1
    exact h1 (bt_sr1.mp (Decidable.of_not_not g2))
  · rw [if_neg g] at h0
    exact h0 (Bool.eq_false_iff.mpr (fun hb => g2 (bt_sr1.mpr hb)))
  · rw [if_neg g] at h1
    exact h1 (bt_sr1.mp (Decidable.of_not_not g2))
/-- the memory after put -/
def putM (M : ev_M) (r d : Int) : ev_M := if 7 ≤ r then ev_sS M 15 (tm_or (sM_newHigh M) (tm_sl 1 (5 * (r - 7) + d))) else ev_sS M 14 (tm_or (sM_newLow M) (tm_sl 1 (2 + 5 * r + d)))
theorem pow_rng {y : Int} (hy : y.toNat ≤ 60) : (1 : Int) * 2 ^ y.toNat < 9223372036854775808 := by
  have h1 : (2 : Nat) ^ y.toNat ≤ 2 ^ 60 := Nat.pow_le_pow_right (by decide) hy
  have h2 : ((2 : Int) ^ y.toNat) = ((2 ^ y.toNat : Nat) : Int) := by rw [Int.natCast_pow]; rfl
  rw [h2]
  omega
theorem g_m86 {Q : ev_M → Prop} (hr : 0 ≤ r ∧ r < 14) (hd : 0 ≤ d ∧ d ≤ 4) (hlo : 0 ≤ sM_newLow M ∧ sM_newLow M < 9223372036854775808) (hhi : 0 ≤ sM_newHigh M ∧ sM_newHigh M < 9223372036854775808) (h : Q (putM M r d)) : m86 r d M Q := by
  unfold putM at h
  refine b86 ⟨fun g => ⟨⟨by omega, by omega⟩, ⟨by omega, by omega⟩, ⟨by omega, by omega⟩, ⟨by omega, by omega⟩, pow_rng (by omega), hhi, sl_rng (n := 63) (by omega), b86_46 ?_⟩, fun g => ⟨⟨by omega, by omega⟩, ⟨by omega, by omega⟩, ⟨by omega, by omega⟩, ⟨by omega, by omega⟩, pow_rng (by omega), hlo, sl_rng (n := 63) (by omega), b86_46 ?_⟩⟩
  · rw [if_pos g] at h; exact h
  · rw [if_neg g] at h; exact h
end MH
