/-! Bits -/
def bt (x : Int) (j : Nat) : Bool := x.toNat.testBit j
theorem bt_sr {x y : Int} : tm_an (tm_sr x y) 1 = 0 ↔ bt x y.toNat = false := by
  have e : tm_an (tm_sr x y) 1 = (((x.toNat >>> y.toNat) &&& 1 : Nat) : Int) := rfl
  rw [e]
  unfold bt
  rw [Nat.testBit_eq_decide_div_mod_eq, Nat.and_one_is_mod, Nat.shiftRight_eq_div_pow]
  constructor
  · intro h
    exact decide_eq_false (by omega)
  · intro h
    have := of_decide_eq_false h
    omega
theorem bt_sr1 {x y : Int} : tm_an (tm_sr x y) 1 = 1 ↔ bt x y.toNat = true := by
  have e : tm_an (tm_sr x y) 1 = (((x.toNat >>> y.toNat) &&& 1 : Nat) : Int) := rfl
  rw [e]
  unfold bt
  rw [Nat.testBit_eq_decide_div_mod_eq, Nat.and_one_is_mod, Nat.shiftRight_eq_div_pow]
  constructor
  · intro h
    exact decide_eq_true (by omega)
  · intro h
    have := of_decide_eq_true h
    omega
theorem tm_sl1 (y : Int) : tm_sl 1 y = ((2 ^ y.toNat : Nat) : Int) := by
  show (((1 : Nat) <<< y.toNat : Nat) : Int) = _
  rw [Nat.one_shiftLeft]
theorem bt_an {x y : Int} : tm_an x (tm_sl 1 y) = 0 ↔ bt x y.toNat = false := by
  rw [tm_sl1]
  show ((x.toNat &&& 2 ^ y.toNat : Nat) : Int) = 0 ↔ _
  unfold bt
  constructor
  · intro h
    have h2 : x.toNat &&& 2 ^ y.toNat = 0 := by omega
    have h3 := congrArg (fun z => Nat.testBit z y.toNat) h2
    simp only [Nat.testBit_and, Nat.testBit_two_pow, Nat.zero_testBit, decide_true, Bool.and_true] at h3
    exact h3
  · intro h
    have h2 : x.toNat &&& 2 ^ y.toNat = 0 := by
      apply Nat.eq_of_testBit_eq
      intro j
      rw [Nat.testBit_and, Nat.testBit_two_pow, Nat.zero_testBit]
      by_cases hj : y.toNat = j
      · rw [← hj, h]; rfl
      · rw [decide_eq_false hj, Bool.and_false]
    rw [h2]; rfl
theorem bt_or {x y : Int} {j : Nat} : bt (tm_or x (tm_sl 1 y)) j = (bt x j || decide (y.toNat = j)) := by
  rw [tm_sl1]
  show (x.toNat ||| 2 ^ y.toNat).testBit j = _
  rw [Nat.testBit_or, Nat.testBit_two_pow]
  rfl
theorem or_rng {x y : Int} {n : Nat} (hx : 0 ≤ x ∧ x < ((2 ^ n : Nat) : Int)) (hy : y.toNat < n) : 0 ≤ tm_or x (tm_sl 1 y) ∧ tm_or x (tm_sl 1 y) < ((2 ^ n : Nat) : Int) := by
  rw [tm_sl1]
  refine ⟨Int.natCast_nonneg _, ?_⟩
  show ((x.toNat ||| 2 ^ y.toNat : Nat) : Int) < _
  have h1 : x.toNat < 2 ^ n := by omega
  have h2 : 2 ^ y.toNat < 2 ^ n := Nat.pow_lt_pow_right (by decide) hy
  have := Nat.or_lt_two_pow h1 h2
  omega
theorem bt_ext {x y : Int} (hx : 0 ≤ x) (hy : 0 ≤ y) (h : ∀ j, bt x j = bt y j) : x = y := by
  have : x.toNat = y.toNat := Nat.eq_of_testBit_eq h
  omega
theorem bt_zero (j : Nat) : bt 0 j = false := Nat.zero_testBit j
theorem bt_pow (n j : Nat) : bt ((2 ^ n : Nat) : Int) j = decide (n = j) := by
  show ((2 ^ n : Nat) : Int).toNat.testBit j = _
  rw [Int.toNat_natCast, Nat.testBit_two_pow]
theorem bt_hi {x : Int} {n j : Nat} (hx : x < ((2 ^ n : Nat) : Int)) (hj : n ≤ j) : bt x j = false := by
  unfold bt
  have h2 := Nat.two_pow_pos n
  exact Nat.testBit_lt_two_pow (Nat.lt_of_lt_of_le (by omega : x.toNat < 2 ^ n) (Nat.pow_le_pow_right (by decide) hj))
