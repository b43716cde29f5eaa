/-! Numbers: what the machine's operations are on whole numbers -/
theorem tm_ofN (n : Nat) : Int32.ofInt (n : Int) = nI n := by
  apply Int32.toBitVec_inj.mp
  simp [nI]
theorem tm_ofL (n : Nat) : Int64.ofInt (n : Int) = lN n := by
  apply Int64.toBitVec_inj.mp
  simp [lN]
theorem tm_add {x y : Int} (h : tm_iI (x + y)) : tm_i2 (fun a b => a + b) x y = x + y := by
  unfold tm_i2; dsimp only; rw [← Int32.ofInt_add, tm_toI h]
theorem tm_sub' {x y : Int} (h : tm_iI (x - y)) : tm_i2 (fun a b => a - b) x y = x - y := by
  unfold tm_i2; dsimp only; rw [← Int32.ofInt_sub, tm_toI h]
theorem tm_mul {x y : Int} (h : tm_iI (x * y)) : tm_i2 (fun a b => a * b) x y = x * y := by
  unfold tm_i2; dsimp only; rw [← Int32.ofInt_mul, tm_toI h]
theorem tm_ladd {x y : Int} (h : tm_iL (x + y)) : tm_l2 (fun a b => a + b) x y = x + y := by
  unfold tm_l2; dsimp only; rw [← Int64.ofInt_add, tm_toL h]
theorem tm_lsub {x y : Int} (h : tm_iL (x - y)) : tm_l2 (fun a b => a - b) x y = x - y := by
  unfold tm_l2; dsimp only; rw [← Int64.ofInt_sub, tm_toL h]
theorem tm_lmul {x y : Int} (h : tm_iL (x * y)) : tm_l2 (fun a b => a * b) x y = x * y := by
  unfold tm_l2; dsimp only; rw [← Int64.ofInt_mul, tm_toL h]
def tm_an (x y : Int) : Int := ((x.toNat &&& y.toNat : Nat) : Int)
def tm_or (x y : Int) : Int := ((x.toNat ||| y.toNat : Nat) : Int)
def tm_sr (x y : Int) : Int := ((x.toNat >>> y.toNat : Nat) : Int)
def tm_sl (x y : Int) : Int := ((x.toNat <<< y.toNat : Nat) : Int)
theorem tm_b32 {n : Nat} (h : n < 2147483648) : (Int32.ofNat n).toInt = (n : Int) := Int32.toInt_ofNat_of_lt h
theorem tm_b64 {n : Nat} (h : n < 9223372036854775808) : (Int64.ofNat n).toInt = (n : Int) := Int64.toInt_ofNat_of_lt h
theorem tm_an_eq {x y : Int} (hx : 0 ≤ x ∧ x < 2147483648) (hy : 0 ≤ y ∧ y < 2147483648) : tm_i2 (fun a b => a &&& b) x y = tm_an x y := by
  obtain ⟨a, rfl⟩ := Int.eq_ofNat_of_zero_le hx.1
  obtain ⟨b, rfl⟩ := Int.eq_ofNat_of_zero_le hy.1
  have ha : a < 2147483648 := by omega
  unfold tm_i2 tm_an; dsimp only
  have e : Int32.ofInt (a : Int) &&& Int32.ofInt (b : Int) = Int32.ofNat (a &&& b) := by
    apply Int32.toBitVec_inj.mp
    simp
  rw [e, tm_b32 (Nat.lt_of_le_of_lt Nat.and_le_left ha)]
  simp
theorem tm_or_eq {x y : Int} (hx : 0 ≤ x ∧ x < 2147483648) (hy : 0 ≤ y ∧ y < 2147483648) : tm_i2 (fun a b => a ||| b) x y = tm_or x y := by
  obtain ⟨a, rfl⟩ := Int.eq_ofNat_of_zero_le hx.1
  obtain ⟨b, rfl⟩ := Int.eq_ofNat_of_zero_le hy.1
  have ha : a < 2 ^ 31 := by omega
  have hb : b < 2 ^ 31 := by omega
  unfold tm_i2 tm_or; dsimp only
  have e : Int32.ofInt (a : Int) ||| Int32.ofInt (b : Int) = Int32.ofNat (a ||| b) := by
    apply Int32.toBitVec_inj.mp
    simp
  rw [e, tm_b32 (Nat.or_lt_two_pow ha hb)]
  simp
theorem tm_lan_eq {x y : Int} (hx : 0 ≤ x ∧ x < 9223372036854775808) (hy : 0 ≤ y ∧ y < 9223372036854775808) : tm_l2 (fun a b => a &&& b) x y = tm_an x y := by
  obtain ⟨a, rfl⟩ := Int.eq_ofNat_of_zero_le hx.1
  obtain ⟨b, rfl⟩ := Int.eq_ofNat_of_zero_le hy.1
  have ha : a < 9223372036854775808 := by omega
  unfold tm_l2 tm_an; dsimp only
  have e : Int64.ofInt (a : Int) &&& Int64.ofInt (b : Int) = Int64.ofNat (a &&& b) := by
    apply Int64.toBitVec_inj.mp
    simp
  rw [e, tm_b64 (Nat.lt_of_le_of_lt Nat.and_le_left ha)]
  simp
theorem tm_lor_eq {x y : Int} (hx : 0 ≤ x ∧ x < 9223372036854775808) (hy : 0 ≤ y ∧ y < 9223372036854775808) : tm_l2 (fun a b => a ||| b) x y = tm_or x y := by
  obtain ⟨a, rfl⟩ := Int.eq_ofNat_of_zero_le hx.1
  obtain ⟨b, rfl⟩ := Int.eq_ofNat_of_zero_le hy.1
  have ha : a < 2 ^ 63 := by omega
  have hb : b < 2 ^ 63 := by omega
  unfold tm_l2 tm_or; dsimp only
  have e : Int64.ofInt (a : Int) ||| Int64.ofInt (b : Int) = Int64.ofNat (a ||| b) := by
    apply Int64.toBitVec_inj.mp
    simp
  rw [e, tm_b64 (Nat.or_lt_two_pow ha hb)]
  simp
theorem tm_k31 : ∀ n, n < 32 → ((Int32.ofNat n &&& 31).toBitVec.smod 32).toNat = n := by decide +kernel
theorem tm_k63 : ∀ n, n < 64 → (((Int32.ofNat n).toInt64 &&& 63).toBitVec.smod 64).toNat = n := by decide +kernel
theorem tm_sr_eq {x y : Int} (hx : 0 ≤ x ∧ x < 2147483648) (hy : 0 ≤ y ∧ y < 32) : tm_i2 (fun a b => a >>> (b &&& 31)) x y = tm_sr x y := by
  obtain ⟨a, rfl⟩ := Int.eq_ofNat_of_zero_le hx.1
  obtain ⟨b, rfl⟩ := Int.eq_ofNat_of_zero_le hy.1
  have ha : a < 2 ^ 31 := by omega
  have hb : b < 32 := by omega
  unfold tm_i2 tm_sr; dsimp only
  have e1 : Int32.ofInt (a : Int) = nI a := tm_ofN a
  have e2 : Int32.ofInt (b : Int) = Int32.ofNat b := tm_ofN b
  rw [e1, e2, pk_shrN ha _ b (tm_k31 b hb)]
  have h2 : a / 2 ^ b ≤ a := Nat.div_le_self _ _
  rw [nI_toInt (by omega)]
  simp [Nat.shiftRight_eq_div_pow]
theorem tm_sl_eq {x y : Int} (hx : 0 ≤ x) (hy : 0 ≤ y ∧ y < 32) (hr : x * 2 ^ y.toNat < 2147483648) : tm_i2 (fun a b => a <<< (b &&& 31)) x y = tm_sl x y := by
  obtain ⟨a, rfl⟩ := Int.eq_ofNat_of_zero_le hx
  obtain ⟨b, rfl⟩ := Int.eq_ofNat_of_zero_le hy.1
  have hb : b < 32 := by omega
  have hr : a * 2 ^ b < 2147483648 := by
    have h1 : ((a * 2 ^ b : Nat) : Int) < 2147483648 := by simpa using hr
    omega
  unfold tm_i2 tm_sl; dsimp only
  have e1 : Int32.ofInt (a : Int) = nI a := tm_ofN a
  have e2 : Int32.ofInt (b : Int) = Int32.ofNat b := tm_ofN b
  rw [e1, e2, pk_shlN _ b (tm_k31 b hb) (by omega), nI_toInt (by omega)]
  simp [Nat.shiftLeft_eq]
theorem tm_shlL (a s : Int64) (k : Nat) (hs : (s.toBitVec.smod 64).toNat = k) : (a <<< s).toBitVec.toNat = a.toBitVec.toNat * 2 ^ k % 2 ^ 64 := by
  show (a.toBitVec <<< (s.toBitVec.smod 64).toNat).toNat = _
  rw [hs, BitVec.toNat_shiftLeft, Nat.shiftLeft_eq]
theorem tm_shrL (a s : Int64) (k : Nat) (hs : (s.toBitVec.smod 64).toNat = k) : (a >>> s).toInt = a.toInt >>> k := by
  show (a.toBitVec.sshiftRight (s.toBitVec.smod 64).toNat).toInt = _
  rw [hs, BitVec.toInt_sshiftRight]
  rfl
theorem tm_lsr_eq {x y : Int} (hx : 0 ≤ x ∧ x < 9223372036854775808) (hy : 0 ≤ y ∧ y < 64) : (Int64.ofInt x >>> ((Int32.ofInt y).toInt64 &&& 63)).toInt = tm_sr x y := by
  obtain ⟨a, rfl⟩ := Int.eq_ofNat_of_zero_le hx.1
  obtain ⟨b, rfl⟩ := Int.eq_ofNat_of_zero_le hy.1
  have hb : b < 64 := by omega
  have e2 : Int32.ofInt (b : Int) = Int32.ofNat b := tm_ofN b
  unfold tm_sr
  rw [e2, tm_shrL _ _ b (tm_k63 b hb), tm_toL ⟨by omega, by omega⟩, Int.shiftRight_eq_div_pow]
  simp [Nat.shiftRight_eq_div_pow]
theorem tm_lsl_eq {x y : Int} (hx : 0 ≤ x) (hy : 0 ≤ y ∧ y < 64) (hr : x * 2 ^ y.toNat < 9223372036854775808) : (Int64.ofInt x <<< ((Int32.ofInt y).toInt64 &&& 63)).toInt = tm_sl x y := by
  obtain ⟨a, rfl⟩ := Int.eq_ofNat_of_zero_le hx
  obtain ⟨b, rfl⟩ := Int.eq_ofNat_of_zero_le hy.1
  have hb : b < 64 := by omega
  have hr : a * 2 ^ b < 9223372036854775808 := by
    have h1 : ((a * 2 ^ b : Nat) : Int) < 9223372036854775808 := by simpa using hr
    omega
  have ha : a ≤ a * 2 ^ b := Nat.le_mul_of_pos_right a (Nat.two_pow_pos b)
  have e2 : Int32.ofInt (b : Int) = Int32.ofNat b := tm_ofN b
  have e1 : Int64.ofInt (a : Int) = Int64.ofNat a := tm_ofL a
  have e3 : Int64.ofNat a <<< ((Int32.ofNat b).toInt64 &&& 63) = Int64.ofNat (a * 2 ^ b) := by
    apply Int64.toBitVec_inj.mp
    apply BitVec.eq_of_toNat_eq
    rw [tm_shlL _ _ b (tm_k63 b hb)]
    have t1 : (Int64.ofNat a).toBitVec.toNat = a := by
      show (BitVec.ofNat 64 a).toNat = a
      rw [BitVec.toNat_ofNat]; exact Nat.mod_eq_of_lt (by omega)
    have t2 : (Int64.ofNat (a * 2 ^ b)).toBitVec.toNat = a * 2 ^ b := by
      show (BitVec.ofNat 64 (a * 2 ^ b)).toNat = a * 2 ^ b
      rw [BitVec.toNat_ofNat]; exact Nat.mod_eq_of_lt (by omega)
    rw [t1, t2]
    exact Nat.mod_eq_of_lt (by omega)
  unfold tm_sl
  rw [e1, e2, e3, tm_b64 hr]
  simp [Nat.shiftLeft_eq]
theorem tm_div_eq {x y : Int} (hx : 0 ≤ x ∧ x < 2147483648) (hy : 0 < y ∧ y < 2147483648) : tm_i2 (fun a b => a / b) x y = x / y := by
  obtain ⟨a, rfl⟩ := Int.eq_ofNat_of_zero_le hx.1
  obtain ⟨b, rfl⟩ := Int.eq_ofNat_of_zero_le (Int.le_of_lt hy.1)
  unfold tm_i2; dsimp only
  have e1 : Int32.ofInt (a : Int) = nI a := tm_ofN a
  have e2 : Int32.ofInt (b : Int) = nI b := tm_ofN b
  have h2 : a / b ≤ a := Nat.div_le_self _ _
  rw [e1, e2, pk_div (by omega) (by omega) (by omega), nI_toInt (by omega)]
  simp
theorem tm_rem_eq {x y : Int} (hx : 0 ≤ x ∧ x < 2147483648) (hy : 0 < y ∧ y < 2147483648) : tm_i2 (fun a b => a - a / b * b) x y = x % y := by
  obtain ⟨a, rfl⟩ := Int.eq_ofNat_of_zero_le hx.1
  obtain ⟨b, rfl⟩ := Int.eq_ofNat_of_zero_le (Int.le_of_lt hy.1)
  unfold tm_i2; dsimp only
  have e1 : Int32.ofInt (a : Int) = nI a := tm_ofN a
  have e2 : Int32.ofInt (b : Int) = nI b := tm_ofN b
  have h2 : a % b ≤ a := Nat.mod_le _ _
  rw [e1, e2, pk_rem (by omega) (by omega) (by omega), nI_toInt (by omega)]
  simp
theorem tm_ldiv_eq {x y : Int} (hx : 0 ≤ x ∧ x < 9223372036854775808) (hy : 0 < y ∧ y < 9223372036854775808) : tm_l2 (fun a b => a / b) x y = x / y := by
  obtain ⟨a, rfl⟩ := Int.eq_ofNat_of_zero_le hx.1
  obtain ⟨b, rfl⟩ := Int.eq_ofNat_of_zero_le (Int.le_of_lt hy.1)
  unfold tm_l2; dsimp only
  have e1 : Int64.ofInt (a : Int) = lN a := tm_ofL a
  have e2 : Int64.ofInt (b : Int) = lN b := tm_ofL b
  have h2 : a / b ≤ a := Nat.div_le_self _ _
  rw [e1, e2, pk_lDiv (by omega) (by omega) (by omega), pk_lT (by omega)]
  simp
theorem tm_lrem_eq {x y : Int} (hx : 0 ≤ x ∧ x < 9223372036854775808) (hy : 0 < y ∧ y < 9223372036854775808) : tm_l2 (fun a b => a - a / b * b) x y = x % y := by
  obtain ⟨a, rfl⟩ := Int.eq_ofNat_of_zero_le hx.1
  obtain ⟨b, rfl⟩ := Int.eq_ofNat_of_zero_le (Int.le_of_lt hy.1)
  unfold tm_l2; dsimp only
  have e1 : Int64.ofInt (a : Int) = lN a := tm_ofL a
  have e2 : Int64.ofInt (b : Int) = lN b := tm_ofL b
  have h2 : a % b ≤ a := Nat.mod_le _ _
  rw [e1, e2, pk_lRem (by omega) (by omega) (by omega), pk_lT (by omega)]
  simp
theorem tm_l2i_eq {x : Int} (hx : tm_iI x) : (Int64.ofInt x).toInt32.toInt = x := by
  have e : (Int64.ofInt x).toInt32 = Int32.ofInt x := by
    apply Int32.toBitVec_inj.mp
    simp
  rw [e, tm_toI hx]
