/-! Long.bitCount: the bytes of a number -/
def bcM (m : Nat) : Nat → Nat
  | 0 => 0
  | k + 1 => bcM m k * 256 + m
def bc1 (k n : Nat) : Nat := n - ((n >>> 1) &&& bcM 85 k)
def bc2 (k n : Nat) : Nat := (bc1 k n &&& bcM 51 k) + ((bc1 k n >>> 2) &&& bcM 51 k)
def bc3 (k n : Nat) : Nat := (bc2 k n + (bc2 k n >>> 4)) &&& bcM 15 k
def bcB1 (l : Nat) : Nat := l - ((l >>> 1) &&& 85)
def bcB2 (l : Nat) : Nat := (bcB1 l &&& 51) + ((bcB1 l >>> 2) &&& 51)
def bcB3 (l : Nat) : Nat := (bcB2 l + (bcB2 l >>> 4)) &&& 15
theorem bc_and {a b c d : Nat} (hb : b < 256) (hd : d < 256) : (a * 256 + b) &&& (c * 256 + d) = (a &&& c) * 256 + (b &&& d) := by
  have h2 : b &&& d < 256 := Nat.lt_of_le_of_lt Nat.and_le_left hb
  apply Nat.eq_of_testBit_eq
  intro i
  rw [Nat.testBit_and]
  have e1 := Nat.testBit_two_pow_mul_add (i := 8) a hb i
  have e2 := Nat.testBit_two_pow_mul_add (i := 8) c hd i
  have e3 := Nat.testBit_two_pow_mul_add (i := 8) (a &&& c) h2 i
  rw [show (2 : Nat) ^ 8 = 256 from rfl] at e1 e2 e3
  rw [Nat.mul_comm a 256, Nat.mul_comm c 256, Nat.mul_comm (a &&& c) 256, e1, e2, e3]
  by_cases h : i < 8
  · simp only [h, if_true, Nat.testBit_and]
  · simp only [h, if_false, Nat.testBit_and]
theorem bc_k1 : ∀ l, l < 256 → ((l >>> 1) &&& 85) ≤ l ∧ ((128 + (l >>> 1)) &&& 85) = ((l >>> 1) &&& 85) ∧ bcB1 l < 256 := by decide +kernel
theorem bc_k2 : ∀ l, l < 256 → ∀ r, r < 4 → ((r * 64 + (bcB1 l >>> 2)) &&& 51) = ((bcB1 l >>> 2) &&& 51) := by decide +kernel
theorem bc_k2b : ∀ l, l < 256 → bcB2 l < 69 ∧ bcB2 l % 16 ≤ 4 := by decide +kernel
theorem bc_k3 : ∀ l, l < 256 → ∀ r, r < 5 → ((bcB2 l + (r * 16 + (bcB2 l >>> 4))) &&& 15) = bcB3 l := by decide +kernel
theorem bc_k3b : ∀ l, l < 256 → bcB3 l = cntB (fun j => l.testBit j) 8 := by decide +kernel
theorem bc_le1 {k n : Nat} : ((n >>> 1) &&& bcM 85 k) ≤ n := by
  have h1 : ((n >>> 1) &&& bcM 85 k) ≤ n >>> 1 := Nat.and_le_left
  have h2 : n >>> 1 = n / 2 := by rw [Nat.shiftRight_eq_div_pow]
  omega
theorem bc1_s {k h l : Nat} (hl : l < 256) : bc1 (k + 1) (h * 256 + l) = bc1 k h * 256 + bcB1 l := by
  obtain ⟨k1, k2, k3⟩ := bc_k1 l hl
  have e0 : (h * 256 + l) >>> 1 = (h >>> 1) * 256 + ((h % 2) * 128 + (l >>> 1)) := by
    simp only [Nat.shiftRight_eq_div_pow]; omega
  have e1 : l >>> 1 < 128 := by simp only [Nat.shiftRight_eq_div_pow]; omega
  have e2 : ((h % 2) * 128 + (l >>> 1)) &&& 85 = (l >>> 1) &&& 85 := by
    have : h % 2 = 0 ∨ h % 2 = 1 := by omega
    rcases this with e | e
    · rw [e, Nat.zero_mul, Nat.zero_add]
    · rw [e, Nat.one_mul]; exact k2
  have e3 := bc_le1 (k := k) (n := h)
  unfold bc1
  rw [e0]
  show h * 256 + l - (((h >>> 1) * 256 + ((h % 2) * 128 + (l >>> 1))) &&& (bcM 85 k * 256 + 85)) = _
  rw [bc_and (by omega) (by omega), e2]
  unfold bcB1
  omega
theorem bc2_s {k h l : Nat} (hl : l < 256) : bc2 (k + 1) (h * 256 + l) = bc2 k h * 256 + bcB2 l := by
  obtain ⟨k1, k2, k3⟩ := bc_k1 l hl
  unfold bc2
  rw [bc1_s hl]
  show ((bc1 k h * 256 + bcB1 l) &&& (bcM 51 k * 256 + 51)) + (((bc1 k h * 256 + bcB1 l) >>> 2) &&& (bcM 51 k * 256 + 51)) = _
  have e0 : (bc1 k h * 256 + bcB1 l) >>> 2 = (bc1 k h >>> 2) * 256 + ((bc1 k h % 4) * 64 + (bcB1 l >>> 2)) := by
    simp only [Nat.shiftRight_eq_div_pow]; omega
  have e1 : bcB1 l >>> 2 < 64 := by simp only [Nat.shiftRight_eq_div_pow]; omega
  rw [e0, bc_and k3 (by omega), bc_and (by omega) (by omega), bc_k2 l hl _ (Nat.mod_lt _ (by omega))]
  unfold bcB2
  omega
theorem bc2_m {k h : Nat} : bc2 k h % 16 ≤ 4 := by
  cases k with
  | zero =>
    have : bc2 0 h = 0 := by unfold bc2; simp [bcM]
    rw [this]; omega
  | succ k =>
    have e : h = h / 256 * 256 + h % 256 := by omega
    have hl : h % 256 < 256 := Nat.mod_lt _ (by omega)
    rw [e, bc2_s hl]
    have := (bc_k2b _ hl).2
    omega
theorem bc3_s {k h l : Nat} (hl : l < 256) : bc3 (k + 1) (h * 256 + l) = bc3 k h * 256 + bcB3 l := by
  unfold bc3
  rw [bc2_s hl]
  show ((bc2 k h * 256 + bcB2 l) + ((bc2 k h * 256 + bcB2 l) >>> 4)) &&& (bcM 15 k * 256 + 15) = _
  have hb := (bc_k2b l hl).1
  have hm := bc2_m (k := k) (h := h)
  have e1 : bcB2 l >>> 4 < 5 := by simp only [Nat.shiftRight_eq_div_pow]; omega
  have e0 : (bc2 k h * 256 + bcB2 l) + ((bc2 k h * 256 + bcB2 l) >>> 4) = (bc2 k h + (bc2 k h >>> 4)) * 256 + (bcB2 l + ((bc2 k h % 16) * 16 + (bcB2 l >>> 4))) := by
    simp only [Nat.shiftRight_eq_div_pow]; omega
  rw [e0, bc_and (by omega) (by omega), bc_k3 l hl _ (by omega)]
theorem cntB_add {f : Nat → Bool} (a b : Nat) : cntB f (a + b) = cntB f a + cntB (fun j => f (a + j)) b := by
  induction b with
  | zero => rfl
  | succ b ih =>
    show cntB f (a + b) + (f (a + b)).toNat = cntB f a + (cntB (fun j => f (a + j)) b + (f (a + b)).toNat)
    omega
theorem bc_cnt {k h l : Nat} (hl : l < 256) : cntB (fun j => (h * 256 + l).testBit j) (8 + k) = bcB3 l + cntB (fun j => h.testBit j) k := by
  have e : ∀ i, (h * 256 + l).testBit i = if i < 8 then l.testBit i else h.testBit (i - 8) := by
    intro i
    have := Nat.testBit_two_pow_mul_add (i := 8) h hl i
    rw [show (2 : Nat) ^ 8 = 256 from rfl, Nat.mul_comm] at this
    exact this
  rw [cntB_add, bc_k3b l hl]
  congr 1
  · exact cntB_congr (fun i hi => by show (h * 256 + l).testBit i = _; rw [e, if_pos hi])
  · refine cntB_congr (fun i hi => ?_)
    show (h * 256 + l).testBit (8 + i) = h.testBit i
    rw [e, if_neg (by omega), Nat.add_sub_cancel_left]
theorem bcB3_le {l : Nat} (hl : l < 256) : bcB3 l ≤ 8 := by
  rw [bc_k3b l hl]; exact cntB_le
theorem bc_dv {a b m : Nat} (h : b < m) : (m * a + b) / m = a := by
  rw [Nat.mul_add_div (by omega), Nat.div_eq_of_lt h, Nat.add_zero]
theorem bc_e3 (c0 c1 c2 c3 c4 c5 c6 c7 : Nat) : ((((((((0 * 256 + c7) * 256 + c6) * 256 + c5) * 256 + c4) * 256 + c3) * 256 + c2) * 256 + c1) * 256 + c0) = 256 * (c1 + 256 * c2 + 65536 * c3 + 16777216 * c4 + 4294967296 * c5 + 1099511627776 * c6 + 281474976710656 * c7) + c0 := by omega
theorem bc_e4 (c0 c1 c2 c3 c4 c5 c6 c7 : Nat) : 256 * (c1 + 256 * c2 + 65536 * c3 + 16777216 * c4 + 4294967296 * c5 + 1099511627776 * c6 + 281474976710656 * c7) + c0 + (c1 + 256 * c2 + 65536 * c3 + 16777216 * c4 + 4294967296 * c5 + 1099511627776 * c6 + 281474976710656 * c7) = 65536 * ((c2 + c3) + 256 * (c3 + c4) + 65536 * (c4 + c5) + 16777216 * (c5 + c6) + 4294967296 * (c6 + c7) + 1099511627776 * c7) + ((c0 + c1) + 256 * (c1 + c2)) := by omega
theorem bc_e5 (c0 c1 c2 c3 c4 c5 c6 c7 : Nat) : 65536 * ((c2 + c3) + 256 * (c3 + c4) + 65536 * (c4 + c5) + 16777216 * (c5 + c6) + 4294967296 * (c6 + c7) + 1099511627776 * c7) + ((c0 + c1) + 256 * (c1 + c2)) + ((c2 + c3) + 256 * (c3 + c4) + 65536 * (c4 + c5) + 16777216 * (c5 + c6) + 4294967296 * (c6 + c7) + 1099511627776 * c7) = 4294967296 * ((c4 + c5 + c6 + c7) + 256 * (c5 + c6 + c7) + 65536 * (c6 + c7) + 16777216 * c7) + ((c0 + c1 + c2 + c3) + 256 * (c1 + c2 + c3 + c4) + 65536 * (c2 + c3 + c4 + c5) + 16777216 * (c3 + c4 + c5 + c6)) := by omega
theorem bc_e6 (c0 c1 c2 c3 c4 c5 c6 c7 : Nat) : 4294967296 * ((c4 + c5 + c6 + c7) + 256 * (c5 + c6 + c7) + 65536 * (c6 + c7) + 16777216 * c7) + ((c0 + c1 + c2 + c3) + 256 * (c1 + c2 + c3 + c4) + 65536 * (c2 + c3 + c4 + c5) + 16777216 * (c3 + c4 + c5 + c6)) + ((c4 + c5 + c6 + c7) + 256 * (c5 + c6 + c7) + 65536 * (c6 + c7) + 16777216 * c7) = 128 * (2 * ((c1 + c2 + c3 + c4 + c5 + c6 + c7) + 256 * (c2 + c3 + c4 + c5 + c6 + c7) + 65536 * (c3 + c4 + c5 + c6 + c7) + 16777216 * (c4 + c5 + c6 + c7) + 16777216 * 256 * (c5 + c6 + c7) + 16777216 * 65536 * (c6 + c7) + 16777216 * 16777216 * c7)) + (c0 + c1 + c2 + c3 + c4 + c5 + c6 + c7) := by omega
theorem bc_b4 {c0 c1 c2 : Nat} (h0 : c0 ≤ 8) (h1 : c1 ≤ 8) (h2 : c2 ≤ 8) : (c0 + c1) + 256 * (c1 + c2) < 65536 := by omega
theorem bc_b5 {c0 c1 c2 c3 c4 c5 c6 : Nat} (h0 : c0 ≤ 8) (h1 : c1 ≤ 8) (h2 : c2 ≤ 8) (h3 : c3 ≤ 8) (h4 : c4 ≤ 8) (h5 : c5 ≤ 8) (h6 : c6 ≤ 8) : (c0 + c1 + c2 + c3) + 256 * (c1 + c2 + c3 + c4) + 65536 * (c2 + c3 + c4 + c5) + 16777216 * (c3 + c4 + c5 + c6) < 4294967296 := by
  have a0 : c0 + c1 + c2 + c3 ≤ 32 := by omega
  have a1 : c1 + c2 + c3 + c4 ≤ 32 := by omega
  have a2 : c2 + c3 + c4 + c5 ≤ 32 := by omega
  have a3 : c3 + c4 + c5 + c6 ≤ 32 := by omega
  generalize c0 + c1 + c2 + c3 = x0 at *
  generalize c1 + c2 + c3 + c4 = x1 at *
  generalize c2 + c3 + c4 + c5 = x2 at *
  generalize c3 + c4 + c5 + c6 = x3 at *
  clear h0 h1 h2 h3 h4 h5 h6
  omega
theorem bc_sum {c0 c1 c2 c3 c4 c5 c6 c7 y3 : Nat} (h0 : c0 ≤ 8) (h1 : c1 ≤ 8) (h2 : c2 ≤ 8) (h3 : c3 ≤ 8) (h4 : c4 ≤ 8) (h5 : c5 ≤ 8) (h6 : c6 ≤ 8) (h7 : c7 ≤ 8)
    (e : y3 = ((((((((0 * 256 + c7) * 256 + c6) * 256 + c5) * 256 + c4) * 256 + c3) * 256 + c2) * 256 + c1) * 256 + c0))
    {y4 y5 y6 : Nat} (e4 : y4 = y3 + y3 / 256) (e5 : y5 = y4 + y4 / 65536) (e6 : y6 = y5 + y5 / 4294967296) : y6 % 128 = c0 + c1 + c2 + c3 + c4 + c5 + c6 + c7 := by
  rw [bc_e3] at e
  rw [e, bc_dv (Nat.lt_of_le_of_lt h0 (by decide)), bc_e4] at e4
  rw [e4, bc_dv (bc_b4 h0 h1 h2), bc_e5] at e5
  rw [e5, bc_dv (bc_b5 h0 h1 h2 h3 h4 h5 h6), bc_e6] at e6
  rw [e6, Nat.mul_add_mod]
  clear e e4 e5 e6
  exact Nat.mod_eq_of_lt (by omega)
theorem bc_as {c0 c1 c2 c3 c4 c5 c6 c7 : Nat} : c0 + (c1 + (c2 + (c3 + (c4 + (c5 + (c6 + (c7 + 0))))))) = c0 + c1 + c2 + c3 + c4 + c5 + c6 + c7 := by omega
theorem bc3_r (k m : Nat) : bc3 (k + 1) m = bc3 k (m / 256) * 256 + bcB3 (m % 256) := by
  have := bc3_s (k := k) (h := m / 256) (l := m % 256) (Nat.mod_lt _ (by omega))
  rw [← show m = m / 256 * 256 + m % 256 by omega] at this
  exact this
theorem bcn_r (k m : Nat) : cntB (fun j => Nat.testBit m j) (8 + k) = bcB3 (m % 256) + cntB (fun j => Nat.testBit (m / 256) j) k := by
  have := bc_cnt (k := k) (h := m / 256) (l := m % 256) (Nat.mod_lt _ (by omega))
  rw [← show m = m / 256 * 256 + m % 256 by omega] at this
  exact this
theorem bc3_0 (m : Nat) : bc3 0 m = 0 := by unfold bc3; simp [bcM]
theorem bc_all {n y4 y5 y6 : Nat} (e4 : y4 = bc3 8 n + bc3 8 n / 256) (e5 : y5 = y4 + y4 / 65536) (e6 : y6 = y5 + y5 / 4294967296) : y6 % 128 = cntB (fun j => n.testBit j) 64 := by
  have hd : ∀ m : Nat, bcB3 (m % 256) ≤ 8 := fun m => bcB3_le (Nat.mod_lt _ (by omega))
  obtain ⟨y3, e3⟩ : ∃ y, y = bc3 (0 + 1 + 1 + 1 + 1 + 1 + 1 + 1 + 1) n := ⟨_, rfl⟩
  rw [show bc3 8 n = y3 from e3.symm] at e4
  rw [bc3_r, bc3_r, bc3_r, bc3_r, bc3_r, bc3_r, bc3_r, bc3_r, bc3_0] at e3
  have := bc_sum (hd _) (hd _) (hd _) (hd _) (hd _) (hd _) (hd _) (hd _) e3 e4 e5 e6
  rw [this]
  show _ = cntB (fun j => n.testBit j) (8 + (8 + (8 + (8 + (8 + (8 + (8 + (8 + 0))))))))
  rw [bcn_r, bcn_r, bcn_r, bcn_r, bcn_r, bcn_r, bcn_r, bcn_r, show ∀ f, cntB f 0 = 0 from fun f => rfl, bc_as]
theorem bc_us {n s : Nat} (hn : n < 9223372036854775808) (hs : ((Int32.ofInt (s : Int)).toInt64.toUInt64 &&& Int64.toUInt64 63).toNat = s) (h64 : s < 64) : ((Int64.ofInt (n : Int)).toUInt64 >>> ((Int32.ofInt (s : Int)).toInt64.toUInt64 &&& Int64.toUInt64 63)).toInt64.toInt = ((n >>> s : Nat) : Int) := by
  have e1 : (Int64.ofInt (n : Int)).toUInt64.toNat = n := by
    show (BitVec.ofInt 64 (n : Int)).toNat = n
    rw [BitVec.ofInt_natCast, BitVec.toNat_ofNat]
    exact Nat.mod_eq_of_lt (by omega)
  have e2 : ((Int64.ofInt (n : Int)).toUInt64 >>> ((Int32.ofInt (s : Int)).toInt64.toUInt64 &&& Int64.toUInt64 63)).toNat = n >>> s := by
    rw [UInt64.toNat_shiftRight, e1, hs, Nat.mod_eq_of_lt h64]
  have e3 : n >>> s ≤ n := by rw [Nat.shiftRight_eq_div_pow]; exact Nat.div_le_self _ _
  generalize ((Int64.ofInt (n : Int)).toUInt64 >>> ((Int32.ofInt (s : Int)).toInt64.toUInt64 &&& Int64.toUInt64 63)) = u at *
  show u.toBitVec.toInt = _
  rw [BitVec.toInt_eq_toNat_of_lt (by show 2 * u.toNat < 2 ^ 64; omega)]
  show (u.toNat : Int) = _
  rw [e2]
theorem bc_fin {y : Nat} : tm_i2 (fun a b => a &&& b) ((Int64.ofInt (y : Int)).toInt32.toInt) 127 = ((y % 128 : Nat) : Int) := by
  unfold tm_i2
  dsimp only
  rw [Int32.ofInt_toInt]
  show ((Int64.ofInt (y : Int)).toInt32 &&& Int32.ofInt 127).toBitVec.toInt = _
  have e1 : ((Int64.ofInt (y : Int)).toInt32 &&& Int32.ofInt 127).toBitVec.toNat = y % 128 := by
    rw [Int32.toBitVec_and, BitVec.toNat_and]
    have e2 : (Int64.ofInt (y : Int)).toInt32.toBitVec.toNat = y % 4294967296 := by
      show ((BitVec.ofInt 64 (y : Int)).signExtend 32).toNat = _
      rw [BitVec.ofInt_natCast, BitVec.signExtend_eq_setWidth_of_le _ (by omega), BitVec.toNat_setWidth, BitVec.toNat_ofNat]
      omega
    rw [e2, show (Int32.ofInt 127).toBitVec.toNat = 2 ^ 7 - 1 from rfl, Nat.and_two_pow_sub_one_eq_mod]
    omega
  rw [BitVec.toInt_eq_toNat_of_lt (by rw [e1]; omega), e1]
theorem bcL_and {a b : Nat} (ha : a < 9223372036854775808) (hb : b < 9223372036854775808) : tm_l2 (fun a b => a &&& b) (a : Int) (b : Int) = ((a &&& b : Nat) : Int) := tm_lan_eq ⟨by omega, by omega⟩ ⟨by omega, by omega⟩
theorem bcL_add {a b : Nat} (h : a + b < 9223372036854775808) : tm_l2 (fun a b => a + b) (a : Int) (b : Int) = ((a + b : Nat) : Int) := by
  rw [tm_ladd ⟨by omega, by omega⟩]; omega
theorem bcL_sub {a b : Nat} (h : b ≤ a) (ha : a < 9223372036854775808) : tm_l2 (fun a b => a - b) (a : Int) (b : Int) = ((a - b : Nat) : Int) := by
  rw [tm_lsub ⟨by omega, by omega⟩]; omega
theorem ev_lus {k pc pc' : Nat} {lo : tm_L} {r : List tm_V} {M : ev_M} {Q : Option tm_V → ev_M → Prop} {xs : List Nat} {c : Int} {x y z : Int} (ht : pg_tb k pc = some (.lushr, xs, c)) (hz : ((Int64.ofInt x).toUInt64 >>> ((Int32.ofInt y).toInt64.toUInt64 &&& Int64.toUInt64 63)).toInt64.toInt = z) (hp' : pc + 1 = pc') (e : ev k pc' lo (.inr (.inl z) :: r) M Q) : ev k pc lo (.inl y :: .inr (.inl x) :: r) M Q := by
  subst hz
  exact ev_pu ht rfl rfl hp' e
theorem bc_c60 {n : Nat} (hn : n < 1152921504606846976) : cntB (fun j => n.testBit j) 64 = cntB (fun j => n.testBit j) 60 := by
  have z : ∀ i, 60 ≤ i → n.testBit i = false := fun i hi => Nat.testBit_lt_two_pow (Nat.lt_of_lt_of_le hn (by
    rw [show (1152921504606846976 : Nat) = 2 ^ 60 from rfl]; exact Nat.pow_le_pow_right (by omega) hi))
  show cntB (fun j => n.testBit j) 60 + (n.testBit 60).toNat + (n.testBit 61).toNat + (n.testBit 62).toNat + (n.testBit 63).toNat = _
  rw [z 60 (by omega), z 61 (by omega), z 62 (by omega), z 63 (by omega)]
  rfl
theorem bcM1 : bcM 85 8 < 9223372036854775808 := by decide +kernel
theorem bcM2 : bcM 51 8 = 3689348814741910323 := by decide +kernel
theorem bcM3 : bcM 15 8 = 1085102592571150095 := by decide +kernel
theorem bc_sle {n k : Nat} : n >>> k ≤ n := by rw [Nat.shiftRight_eq_div_pow]; exact Nat.div_le_self _ _
theorem g_m0 {x : Int} {M : ev_M} {Q : Int → ev_M → Prop} (hx : 0 ≤ x ∧ x < 1152921504606846976) (h : Q ((cntB (fun k => bt x k) 60 : Nat) : Int) M) : m0 x M Q := by
  obtain ⟨n, rfl⟩ := Int.eq_ofNat_of_zero_le hx.1
  have hn : n < 1152921504606846976 := by omega
  obtain ⟨y1, y1d⟩ : ∃ y, y = n - ((n >>> 1) &&& bcM 85 8) := ⟨_, rfl⟩
  obtain ⟨y2, y2d⟩ : ∃ y, y = (y1 &&& bcM 51 8) + ((y1 >>> 2) &&& bcM 51 8) := ⟨_, rfl⟩
  obtain ⟨y3, y3d⟩ : ∃ y, y = (y2 + (y2 >>> 4)) &&& bcM 15 8 := ⟨_, rfl⟩
  obtain ⟨y4, y4d⟩ : ∃ y, y = y3 + y3 >>> 8 := ⟨_, rfl⟩
  obtain ⟨y5, y5d⟩ : ∃ y, y = y4 + y4 >>> 16 := ⟨_, rfl⟩
  obtain ⟨y6, y6d⟩ : ∃ y, y = y5 + y5 >>> 32 := ⟨_, rfl⟩
  have f1 : y1 = bc1 8 n := y1d
  have f2 : y2 = bc2 8 n := by rw [y2d, f1]; rfl
  have f3 : y3 = bc3 8 n := by rw [y3d, f2]; rfl
  have fin : y6 % 128 = cntB (fun j => n.testBit j) 60 := by
    rw [← bc_c60 hn]
    refine bc_all (y4 := y4) (y5 := y5) ?_ ?_ ?_
    · rw [← f3, y4d, Nat.shiftRight_eq_div_pow]
    · rw [y5d, Nat.shiftRight_eq_div_pow]
    · rw [y6d, Nat.shiftRight_eq_div_pow]
  have b0 : n < 9223372036854775808 := by omega
  have b0s : n >>> 1 < 9223372036854775808 := Nat.lt_of_le_of_lt bc_sle b0
  have bM1 := bcM1
  have bM2 : bcM 51 8 < 9223372036854775808 := by rw [bcM2]; decide
  have bM3 : bcM 15 8 < 9223372036854775808 := by rw [bcM3]; decide
  have b1 : y1 < 9223372036854775808 := by rw [y1d]; exact Nat.lt_of_le_of_lt (Nat.sub_le _ _) b0
  have b1s : y1 >>> 2 < 9223372036854775808 := Nat.lt_of_le_of_lt bc_sle b1
  have q1 : y1 &&& bcM 51 8 ≤ 3689348814741910323 := by rw [← bcM2]; exact Nat.and_le_right
  have q2 : (y1 >>> 2) &&& bcM 51 8 ≤ 3689348814741910323 := by rw [← bcM2]; exact Nat.and_le_right
  have b2a : (y1 &&& bcM 51 8) + ((y1 >>> 2) &&& bcM 51 8) < 9223372036854775808 := Nat.lt_of_le_of_lt (Nat.add_le_add q1 q2) (by decide)
  have q3 : y2 ≤ 7378697629483820646 := by rw [y2d]; exact Nat.le_trans (Nat.add_le_add q1 q2) (by decide)
  have b2 : y2 < 9223372036854775808 := Nat.lt_of_le_of_lt q3 (by decide)
  have q4 : y2 >>> 4 ≤ 461168601842738790 := by rw [Nat.shiftRight_eq_div_pow]; exact Nat.le_trans (Nat.div_le_div_right q3) (by decide)
  have b2s : y2 + (y2 >>> 4) < 9223372036854775808 := Nat.lt_of_le_of_lt (Nat.add_le_add q3 q4) (by decide)
  have q5 : y3 ≤ 1085102592571150095 := by rw [y3d, ← bcM3]; exact Nat.and_le_right
  have b3 : y3 < 9223372036854775808 := Nat.lt_of_le_of_lt q5 (by decide)
  have q6 : y3 >>> 8 ≤ 1085102592571150095 := Nat.le_trans bc_sle q5
  have q7 : y3 + y3 >>> 8 ≤ 2170205185142300190 := Nat.add_le_add q5 q6
  have b3s : y3 + (y3 >>> 8) < 9223372036854775808 := Nat.lt_of_le_of_lt q7 (by decide)
  have q8 : y4 ≤ 2170205185142300190 := by rw [y4d]; exact q7
  have b4 : y4 < 9223372036854775808 := Nat.lt_of_le_of_lt q8 (by decide)
  have q9 : y4 + y4 >>> 16 ≤ 4340410370284600380 := Nat.add_le_add q8 (Nat.le_trans bc_sle q8)
  have b4s : y4 + (y4 >>> 16) < 9223372036854775808 := Nat.lt_of_le_of_lt q9 (by decide)
  have q10 : y5 ≤ 4340410370284600380 := by rw [y5d]; exact q9
  have b5 : y5 < 9223372036854775808 := Nat.lt_of_le_of_lt q10 (by decide)
  have q11 : y5 + y5 >>> 32 ≤ 8680820740569200760 := Nat.add_le_add q10 (Nat.le_trans bc_sle q10)
  have b5s : y5 + (y5 >>> 32) < 9223372036854775808 := Nat.lt_of_le_of_lt q11 (by decide)
  unfold m0
  refine ev_lo (lo' := [(0, .inr (.inl ((n : Nat) : Int)))]) (st' := [.inr (.inl ((n : Nat) : Int))]) (pc' := 1) rfl rfl rfl rfl ?_
  refine ev_lo (lo' := [(0, .inr (.inl ((n : Nat) : Int)))]) (st' := [.inr (.inl ((n : Nat) : Int)), .inr (.inl ((n : Nat) : Int))]) (pc' := 2) rfl rfl rfl rfl ?_
  refine ev_pu (st' := [.inl 1, .inr (.inl ((n : Nat) : Int)), .inr (.inl ((n : Nat) : Int))]) (pc' := 3) rfl rfl rfl rfl ?_
  refine ev_lus (z := (((n) >>> 1 : Nat) : Int)) (pc' := 4) rfl (bc_us (s := 1) b0 (by decide) (by decide)) rfl ?_
  refine ev_kc (st' := [.inr (.inl 6148914691236517205), .inr (.inl (((n) >>> 1 : Nat) : Int)), .inr (.inl ((n : Nat) : Int))]) (pc' := 7) rfl rfl rfl rfl ?_
  rw [show (6148914691236517205 : Int) = ((bcM 85 8 : Nat) : Int) from by decide +kernel]
  refine ev_ll (z := ((((n) >>> 1) &&& (bcM 85 8) : Nat) : Int)) (pc' := 8) rfl rfl (fun _ => rfl) (bcL_and b0s bM1) rfl ?_
  refine ev_ll (z := (((n) - (((n) >>> 1) &&& (bcM 85 8)) : Nat) : Int)) (pc' := 9) rfl rfl (fun _ => rfl) (bcL_sub bc_le1 b0) rfl ?_
  rw [show (n) - (((n) >>> 1) &&& (bcM 85 8)) = y1 from y1d.symm]
  refine ev_lo (lo' := [(0, .inr (.inl ((y1 : Nat) : Int)))]) (st' := []) (pc' := 10) rfl rfl rfl rfl ?_
  refine ev_lo (lo' := [(0, .inr (.inl ((y1 : Nat) : Int)))]) (st' := [.inr (.inl ((y1 : Nat) : Int))]) (pc' := 11) rfl rfl rfl rfl ?_
  refine ev_kc (st' := [.inr (.inl 3689348814741910323), .inr (.inl ((y1 : Nat) : Int))]) (pc' := 14) rfl rfl rfl rfl ?_
  rw [show (3689348814741910323 : Int) = ((bcM 51 8 : Nat) : Int) from by decide +kernel]
  refine ev_ll (z := (((y1) &&& (bcM 51 8) : Nat) : Int)) (pc' := 15) rfl rfl (fun _ => rfl) (bcL_and b1 bM2) rfl ?_
  refine ev_lo (lo' := [(0, .inr (.inl ((y1 : Nat) : Int)))]) (st' := [.inr (.inl ((y1 : Nat) : Int)), .inr (.inl (((y1) &&& (bcM 51 8) : Nat) : Int))]) (pc' := 16) rfl rfl rfl rfl ?_
  refine ev_pu (st' := [.inl 2, .inr (.inl ((y1 : Nat) : Int)), .inr (.inl (((y1) &&& (bcM 51 8) : Nat) : Int))]) (pc' := 17) rfl rfl rfl rfl ?_
  refine ev_lus (z := (((y1) >>> 2 : Nat) : Int)) (pc' := 18) rfl (bc_us (s := 2) b1 (by decide) (by decide)) rfl ?_
  refine ev_kc (st' := [.inr (.inl 3689348814741910323), .inr (.inl (((y1) >>> 2 : Nat) : Int)), .inr (.inl (((y1) &&& (bcM 51 8) : Nat) : Int))]) (pc' := 21) rfl rfl rfl rfl ?_
  rw [show (3689348814741910323 : Int) = ((bcM 51 8 : Nat) : Int) from by decide +kernel]
  refine ev_ll (z := ((((y1) >>> 2) &&& (bcM 51 8) : Nat) : Int)) (pc' := 22) rfl rfl (fun _ => rfl) (bcL_and b1s bM2) rfl ?_
  refine ev_ll (z := ((((y1) &&& (bcM 51 8)) + (((y1) >>> 2) &&& (bcM 51 8)) : Nat) : Int)) (pc' := 23) rfl rfl (fun _ => rfl) (bcL_add b2a) rfl ?_
  rw [show ((y1) &&& (bcM 51 8)) + (((y1) >>> 2) &&& (bcM 51 8)) = y2 from y2d.symm]
  refine ev_lo (lo' := [(0, .inr (.inl ((y2 : Nat) : Int)))]) (st' := []) (pc' := 24) rfl rfl rfl rfl ?_
  refine ev_lo (lo' := [(0, .inr (.inl ((y2 : Nat) : Int)))]) (st' := [.inr (.inl ((y2 : Nat) : Int))]) (pc' := 25) rfl rfl rfl rfl ?_
  refine ev_lo (lo' := [(0, .inr (.inl ((y2 : Nat) : Int)))]) (st' := [.inr (.inl ((y2 : Nat) : Int)), .inr (.inl ((y2 : Nat) : Int))]) (pc' := 26) rfl rfl rfl rfl ?_
  refine ev_pu (st' := [.inl 4, .inr (.inl ((y2 : Nat) : Int)), .inr (.inl ((y2 : Nat) : Int))]) (pc' := 27) rfl rfl rfl rfl ?_
  refine ev_lus (z := (((y2) >>> 4 : Nat) : Int)) (pc' := 28) rfl (bc_us (s := 4) b2 (by decide) (by decide)) rfl ?_
  refine ev_ll (z := (((y2) + ((y2) >>> 4) : Nat) : Int)) (pc' := 29) rfl rfl (fun _ => rfl) (bcL_add b2s) rfl ?_
  refine ev_kc (st' := [.inr (.inl 1085102592571150095), .inr (.inl (((y2) + ((y2) >>> 4) : Nat) : Int))]) (pc' := 32) rfl rfl rfl rfl ?_
  rw [show (1085102592571150095 : Int) = ((bcM 15 8 : Nat) : Int) from by decide +kernel]
  refine ev_ll (z := ((((y2) + ((y2) >>> 4)) &&& (bcM 15 8) : Nat) : Int)) (pc' := 33) rfl rfl (fun _ => rfl) (bcL_and b2s bM3) rfl ?_
  rw [show ((y2) + ((y2) >>> 4)) &&& (bcM 15 8) = y3 from y3d.symm]
  refine ev_lo (lo' := [(0, .inr (.inl ((y3 : Nat) : Int)))]) (st' := []) (pc' := 34) rfl rfl rfl rfl ?_
  refine ev_lo (lo' := [(0, .inr (.inl ((y3 : Nat) : Int)))]) (st' := [.inr (.inl ((y3 : Nat) : Int))]) (pc' := 35) rfl rfl rfl rfl ?_
  refine ev_lo (lo' := [(0, .inr (.inl ((y3 : Nat) : Int)))]) (st' := [.inr (.inl ((y3 : Nat) : Int)), .inr (.inl ((y3 : Nat) : Int))]) (pc' := 36) rfl rfl rfl rfl ?_
  refine ev_pu (st' := [.inl 8, .inr (.inl ((y3 : Nat) : Int)), .inr (.inl ((y3 : Nat) : Int))]) (pc' := 38) rfl rfl rfl rfl ?_
  refine ev_lus (z := (((y3) >>> 8 : Nat) : Int)) (pc' := 39) rfl (bc_us (s := 8) b3 (by decide) (by decide)) rfl ?_
  refine ev_ll (z := (((y3) + ((y3) >>> 8) : Nat) : Int)) (pc' := 40) rfl rfl (fun _ => rfl) (bcL_add b3s) rfl ?_
  rw [show (y3) + ((y3) >>> 8) = y4 from y4d.symm]
  refine ev_lo (lo' := [(0, .inr (.inl ((y4 : Nat) : Int)))]) (st' := []) (pc' := 41) rfl rfl rfl rfl ?_
  refine ev_lo (lo' := [(0, .inr (.inl ((y4 : Nat) : Int)))]) (st' := [.inr (.inl ((y4 : Nat) : Int))]) (pc' := 42) rfl rfl rfl rfl ?_
  refine ev_lo (lo' := [(0, .inr (.inl ((y4 : Nat) : Int)))]) (st' := [.inr (.inl ((y4 : Nat) : Int)), .inr (.inl ((y4 : Nat) : Int))]) (pc' := 43) rfl rfl rfl rfl ?_
  refine ev_pu (st' := [.inl 16, .inr (.inl ((y4 : Nat) : Int)), .inr (.inl ((y4 : Nat) : Int))]) (pc' := 45) rfl rfl rfl rfl ?_
  refine ev_lus (z := (((y4) >>> 16 : Nat) : Int)) (pc' := 46) rfl (bc_us (s := 16) b4 (by decide) (by decide)) rfl ?_
  refine ev_ll (z := (((y4) + ((y4) >>> 16) : Nat) : Int)) (pc' := 47) rfl rfl (fun _ => rfl) (bcL_add b4s) rfl ?_
  rw [show (y4) + ((y4) >>> 16) = y5 from y5d.symm]
  refine ev_lo (lo' := [(0, .inr (.inl ((y5 : Nat) : Int)))]) (st' := []) (pc' := 48) rfl rfl rfl rfl ?_
  refine ev_lo (lo' := [(0, .inr (.inl ((y5 : Nat) : Int)))]) (st' := [.inr (.inl ((y5 : Nat) : Int))]) (pc' := 49) rfl rfl rfl rfl ?_
  refine ev_lo (lo' := [(0, .inr (.inl ((y5 : Nat) : Int)))]) (st' := [.inr (.inl ((y5 : Nat) : Int)), .inr (.inl ((y5 : Nat) : Int))]) (pc' := 50) rfl rfl rfl rfl ?_
  refine ev_pu (st' := [.inl 32, .inr (.inl ((y5 : Nat) : Int)), .inr (.inl ((y5 : Nat) : Int))]) (pc' := 52) rfl rfl rfl rfl ?_
  refine ev_lus (z := (((y5) >>> 32 : Nat) : Int)) (pc' := 53) rfl (bc_us (s := 32) b5 (by decide) (by decide)) rfl ?_
  refine ev_ll (z := (((y5) + ((y5) >>> 32) : Nat) : Int)) (pc' := 54) rfl rfl (fun _ => rfl) (bcL_add b5s) rfl ?_
  rw [show (y5) + ((y5) >>> 32) = y6 from y6d.symm]
  refine ev_lo (lo' := [(0, .inr (.inl ((y6 : Nat) : Int)))]) (st' := []) (pc' := 55) rfl rfl rfl rfl ?_
  refine ev_lo (lo' := [(0, .inr (.inl ((y6 : Nat) : Int)))]) (st' := [.inr (.inl ((y6 : Nat) : Int))]) (pc' := 56) rfl rfl rfl rfl ?_
  refine ev_pu (st' := [.inl ((Int64.ofInt ((y6 : Nat) : Int)).toInt32.toInt)]) (pc' := 57) rfl rfl rfl rfl ?_
  refine ev_pu (st' := [.inl 127, .inl ((Int64.ofInt ((y6 : Nat) : Int)).toInt32.toInt)]) (pc' := 59) rfl rfl rfl rfl ?_
  refine ev_ii (z := ((y6 % 128 : Nat) : Int)) (pc' := 60) rfl rfl (fun _ => rfl) bc_fin rfl ?_
  refine ev_rt (v := some (.inl ((y6 % 128 : Nat) : Int))) rfl rfl rfl ?_
  refine ⟨_, rfl, ?_⟩
  rw [fin]
  exact h
