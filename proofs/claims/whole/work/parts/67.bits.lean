/-! bits of small numbers; quotients -/
theorem tb_n {n : Nat} (h : n < 2147483648) : (Int32.ofInt (n : Int)).toBitVec.toNat = n := by
  show (BitVec.ofInt 32 (n : Int)).toNat = n
  rw [BitVec.toNat_ofInt]
  omega
theorem iand_n {a b : Nat} (ha : a < 2147483648) (hb : b < 2147483648) : iand (a : Int) (b : Int) = ((a &&& b : Nat) : Int) := by
  have h : ((Int32.ofInt (a : Int)).toBitVec &&& (Int32.ofInt (b : Int)).toBitVec).toNat = a &&& b := by rw [BitVec.toNat_and, tb_n ha, tb_n hb]
  show ((Int32.ofInt (a : Int)).toBitVec &&& (Int32.ofInt (b : Int)).toBitVec).toInt = _
  have h2 : a &&& b ≤ a := Nat.and_le_left
  rw [BitVec.toInt_eq_toNat_of_lt (by rw [h]; omega), h]
theorem ior_n {a b : Nat} (ha : a < 2147483648) (hb : b < 2147483648) : ior (a : Int) (b : Int) = ((a ||| b : Nat) : Int) := by
  have h : ((Int32.ofInt (a : Int)).toBitVec ||| (Int32.ofInt (b : Int)).toBitVec).toNat = a ||| b := by rw [BitVec.toNat_or, tb_n ha, tb_n hb]
  show ((Int32.ofInt (a : Int)).toBitVec ||| (Int32.ofInt (b : Int)).toBitVec).toInt = _
  have h2 : a ||| b < 2 ^ 31 := Nat.or_lt_two_pow ha hb
  rw [BitVec.toInt_eq_toNat_of_lt (by rw [h]; omega), h]
/-- a without b -/
def nd (a b : Nat) : Nat := a &&& (b ^^^ 4294967295)
theorem nand_n {a b : Nat} (ha : a < 2147483648) (hb : b < 2147483648) : iand (a : Int) (ixor (b : Int) (-1)) = ((nd a b : Nat) : Int) := by
  have h : ((Int32.ofInt (a : Int)).toBitVec &&& (Int32.ofInt (ixor (b : Int) (-1))).toBitVec).toNat = nd a b := by
    have e : Int32.ofInt (ixor (b : Int) (-1)) = Int32.ofInt (b : Int) ^^^ Int32.ofInt (-1) := by
      unfold ixor iop
      exact Int32.ofInt_toInt _
    rw [e, BitVec.toNat_and, Int32.toBitVec_xor, BitVec.toNat_xor, tb_n ha, tb_n hb]
    rfl
  show ((Int32.ofInt (a : Int)).toBitVec &&& (Int32.ofInt (ixor (b : Int) (-1))).toBitVec).toInt = _
  have h2 : nd a b ≤ a := Nat.and_le_left
  rw [BitVec.toInt_eq_toNat_of_lt (by rw [h]; omega), h]
theorem nd_le (a b : Nat) : nd a b ≤ a := Nat.and_le_left
theorem nd_t {a b : Nat} (ha : a < 2147483648) (i : Nat) : (nd a b).testBit i = (a.testBit i && !b.testBit i) := by
  unfold nd
  rw [Nat.testBit_and, Nat.testBit_xor, show (4294967295 : Nat) = 2 ^ 32 - 1 from rfl, Nat.testBit_two_pow_sub_one]
  by_cases h : i < 32
  · rw [decide_eq_true h, Bool.xor_true]
  · rw [Nat.testBit_lt_two_pow (x := a) (i := i) (Nat.lt_of_lt_of_le ha (Nat.pow_le_pow_right (show 0 < 2 by decide) (show 31 ≤ i by omega)))]
    rfl
theorem ishl_n : ∀ l : Nat, l < 31 → ishl 1 l = ((2 ^ l : Nat) : Int) := by decide +kernel
theorem ishr_d : ∀ a : Nat, a < 512 → ∀ l : Nat, l < 9 → ishr (a : Int) (l : Int) = ((a >>> l : Nat) : Int) := by decide +kernel
/-- bit l of a -/
theorem bit_n {a l : Nat} (ha : a < 512) (hl : l < 9) : iand (ishr (a : Int) (l : Int)) 1 = 1 ↔ a.testBit l = true := by
  rw [ishr_d a ha l hl, show (1 : Int) = ((1 : Nat) : Int) from rfl, iand_n (Nat.lt_of_le_of_lt (Nat.shiftRight_le a l) (by omega)) (by decide)]
  have h : (a >>> l) &&& 1 = (a.testBit l).toNat := by
    rw [Nat.testBit, Nat.and_comm 1 (a >>> l), Nat.and_one_is_mod]
    rcases Nat.mod_two_eq_zero_or_one (a >>> l) with h | h <;> rw [h] <;> rfl
  rw [h]
  cases a.testBit l <;> simp
theorem bit_0 {a l : Nat} (ha : a < 512) (hl : l < 9) : iand (ishr (a : Int) (l : Int)) 1 = 0 ↔ a.testBit l = false := by
  rw [ishr_d a ha l hl, show (1 : Int) = ((1 : Nat) : Int) from rfl, iand_n (Nat.lt_of_le_of_lt (Nat.shiftRight_le a l) (by omega)) (by decide)]
  have h : (a >>> l) &&& 1 = (a.testBit l).toNat := by
    rw [Nat.testBit, Nat.and_comm 1 (a >>> l), Nat.and_one_is_mod]
    rcases Nat.mod_two_eq_zero_or_one (a >>> l) with h | h <;> rw [h] <;> rfl
  rw [h]
  cases a.testBit l <;> simp
/-- the bits below n, counted -/
def pop (x : Nat) : Nat → Int
  | 0 => 0
  | n + 1 => pop x n + (if x.testBit n = true then 1 else 0)
theorem pop_s (x n : Nat) : pop x (n + 1) = pop x n + (if x.testBit n = true then 1 else 0) := rfl
theorem pop_b (x n : Nat) : 0 ≤ pop x n ∧ pop x n ≤ n := by
  induction n with
  | zero => exact ⟨Int.le_refl _, Int.le_refl _⟩
  | succ n ih => rw [pop_s]; split <;> omega
theorem pop_half (x n : Nat) : pop x (n + 1) = pop (x / 2) n + ((x % 2 : Nat) : Int) := by
  induction n with
  | zero =>
    show 0 + (if x.testBit 0 = true then (1 : Int) else 0) = 0 + _
    rw [Nat.testBit_zero]
    rcases Nat.mod_two_eq_zero_or_one x with h | h <;> simp [h]
  | succ n ih =>
    rw [pop_s, ih, pop_s (x / 2) n, Nat.testBit_div_two]
    omega
theorem pop_hi {x n m : Nat} (h : x < 2 ^ n) (hm : n ≤ m) : pop x m = pop x n := by
  induction hm with
  | refl => rfl
  | @step m hm ih =>
    rw [pop_s, ih, Nat.testBit_lt_two_pow (Nat.lt_of_lt_of_le h (Nat.pow_le_pow_right (by decide) hm)), if_neg (by decide)]
    omega
theorem idv_n {a b : Nat} (ha : a < 2147483648) (hb : 0 < b ∧ b < 2147483648) : idv (a : Int) (b : Int) = ((a / b : Nat) : Int) := by
  show (Int32.ofInt (a : Int) / Int32.ofInt (b : Int)).toInt = _
  have h1 : (Int32.ofInt (a : Int)).toInt = (a : Int) := wr_id (by omega) (by omega)
  have h2 : (Int32.ofInt (b : Int)).toInt = (b : Int) := wr_id (by omega) (by omega)
  have h3 : a / b ≤ a := Nat.div_le_self a b
  rw [Int32.toInt_div, h1, h2, Int.tdiv_eq_ediv_of_nonneg (by omega), ← Int.natCast_ediv]
  generalize a / b = q at h3 ⊢
  rw [Int.bmod_eq_of_le (by omega) (by omega)]
theorem imd_n {a b : Nat} (ha : a < 2147483648) (hb : 0 < b ∧ b < 2147483648) : imd (a : Int) (b : Int) = ((a % b : Nat) : Int) := by
  show (Int32.ofInt (a : Int) - Int32.ofInt (a : Int) / Int32.ofInt (b : Int) * Int32.ofInt (b : Int)).toInt = _
  have h1 : (Int32.ofInt (a : Int)).toInt = (a : Int) := wr_id (by omega) (by omega)
  have h2 : (Int32.ofInt (b : Int)).toInt = (b : Int) := wr_id (by omega) (by omega)
  have h3 : (Int32.ofInt (a : Int) / Int32.ofInt (b : Int)).toInt = ((a / b : Nat) : Int) := idv_n ha hb
  have h4 : a / b * b + a % b = a := Nat.div_add_mod' a b
  have h5 : ((a / b * b : Nat) : Int) = ((a / b : Nat) : Int) * (b : Int) := Int.natCast_mul _ _
  rw [Int32.toInt_sub, Int32.toInt_mul, h1, h2, h3, ← h5]
  generalize a / b * b = q at h4 ⊢
  generalize a % b = r at h4 ⊢
  rw [Int.bmod_eq_of_le (n := ((q : Nat) : Int)) (by omega) (by omega), Int.bmod_eq_of_le (by omega) (by omega)]
  omega
