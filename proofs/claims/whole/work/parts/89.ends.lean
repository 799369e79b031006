/-! the number of bits of a set of sets -/
theorem um_d : ∀ k : Nat, k < 32 → (UInt32.mod ((Int32.ofInt (k : Int)).toUInt32 &&& Int32.toUInt32 31) 32).toBitVec = BitVec.ofNat 32 k := by decide +kernel
theorem iushr_k {a k : Nat} (hk : k < 32) (ha : a < 2147483648) : iushr (a : Int) (k : Int) = ((a >>> k : Nat) : Int) := by
  have h1 : (((Int32.ofInt (a : Int)).toUInt32 >>> ((Int32.ofInt (k : Int)).toUInt32 &&& Int32.toUInt32 31)).toInt32).toBitVec.toNat = a >>> k := by
    show ((Int32.ofInt (a : Int)).toBitVec >>> (UInt32.mod ((Int32.ofInt (k : Int)).toUInt32 &&& Int32.toUInt32 31) 32).toBitVec).toNat = _
    rw [um_d k hk, BitVec.ushiftRight_eq', BitVec.toNat_ushiftRight, tb_n ha, BitVec.toNat_ofNat, Nat.mod_eq_of_lt (show k < 2 ^ 32 by omega)]
  have h2 := Nat.shiftRight_le a k
  show (((Int32.ofInt (a : Int)).toUInt32 >>> ((Int32.ofInt (k : Int)).toUInt32 &&& Int32.toUInt32 31)).toInt32).toBitVec.toInt = _
  rw [BitVec.toInt_eq_toNat_of_lt (by rw [h1]; omega), h1]
def bs1 (n : Nat) : Nat := n - ((n >>> 1) &&& 1431655765)
def bs2 (n : Nat) : Nat := (n &&& 858993459) + ((n >>> 2) &&& 858993459)
def bs3 (n : Nat) : Nat := (n + (n >>> 4)) &&& 252645135
def bs4 (n : Nat) : Nat := n + (n >>> 8)
def bs5 (n : Nat) : Nat := (n + (n >>> 16)) &&& 63
theorem tb_256 {a b : Nat} (hb : b < 256) (j : Nat) : (256 * a + b).testBit j = if j < 8 then b.testBit j else a.testBit (j - 8) := Nat.testBit_two_pow_mul_add a (i := 8) hb j
theorem msk2 {a b s K k : Nat} (ha : a < 256) (hb : b < 256) (hk : ∀ i, i < 8 → K.testBit i = k.testBit i ∧ K.testBit (i + 8) = k.testBit i) (hs : ∀ i, i < 8 → 8 ≤ i + s → k.testBit i = false) : ((256 * a + b) >>> s) &&& K = 256 * ((a >>> s) &&& k) + ((b >>> s) &&& k) := by
  apply Nat.eq_of_testBit_eq
  intro j
  have h1 : (b >>> s) &&& k < 256 := Nat.lt_of_le_of_lt (Nat.and_le_left) (Nat.lt_of_le_of_lt (Nat.shiftRight_le b s) hb)
  rw [tb_256 h1, Nat.testBit_and, Nat.testBit_and, Nat.testBit_and, Nat.testBit_shiftRight, Nat.testBit_shiftRight, Nat.testBit_shiftRight, tb_256 hb]
  by_cases q : j < 8
  · rw [if_pos q, (hk j q).1]
    by_cases r : s + j < 8
    · rw [if_pos r]
    · rw [hs j q (by omega), Bool.and_false, Bool.and_false]
  · rw [if_neg q, if_neg (by omega), show s + j - 8 = s + (j - 8) by omega]
    by_cases r : j < 16
    · have := (hk (j - 8) (by omega)).2
      rw [show j - 8 + 8 = j by omega] at this
      rw [this]
    · rw [Nat.testBit_lt_two_pow (x := a) (i := s + (j - 8)) (Nat.lt_of_lt_of_le ha (Nat.pow_le_pow_right (n := 2) (by decide) (show 8 ≤ s + (j - 8) by omega))), Bool.false_and, Bool.false_and]
theorem bs_a : ∀ a : Nat, a < 256 → bs1 a < 256 ∧ (a >>> 1) &&& 1431655765 = (a >>> 1) &&& 85 ∧ (a >>> 1) &&& 85 ≤ a := by decide +kernel
theorem bs_b : ∀ a : Nat, a < 256 → a &&& 858993459 = a &&& 51 ∧ (a >>> 2) &&& 858993459 = (a >>> 2) &&& 51 := by decide +kernel
def P8 (a : Nat) : Nat := a % 2 + a / 2 % 2 + a / 4 % 2 + a / 8 % 2 + a / 16 % 2 + a / 32 % 2 + a / 64 % 2 + a / 128 % 2
theorem bs_e : ∀ a : Nat, a < 256 → bs2 (bs1 a) % 16 ≤ 4 ∧ bs2 (bs1 a) / 16 ≤ 4 ∧ bs2 (bs1 a) % 16 + bs2 (bs1 a) / 16 = P8 a ∧ pop a 8 = (P8 a : Int) := by decide +kernel
theorem bs_f : ∀ p, p < 5 → ∀ q, q < 5 → ∀ r, r < 5 → ∀ t, t < 5 → bs5 (bs4 (bs3 (256 * (16 * p + q) + (16 * r + t)))) = p + q + r + t := by decide +kernel
theorem bs_all {a b : Nat} (ha : a < 256) (hb : b < 256) : bs5 (bs4 (bs3 (bs2 (bs1 (256 * a + b))))) = P8 a + P8 b := by
  have a1 := bs_a a ha
  have b1 := bs_a b hb
  have e1 : bs1 (256 * a + b) = 256 * bs1 a + bs1 b := by
    have m := msk2 (s := 1) (K := 1431655765) (k := 85) ha hb (by decide) (by decide)
    unfold bs1
    rw [m, a1.2.1, b1.2.1]
    omega
  have a2 := bs_b (bs1 a) a1.1
  have b2' := bs_b (bs1 b) b1.1
  have e2 : bs2 (256 * bs1 a + bs1 b) = 256 * bs2 (bs1 a) + bs2 (bs1 b) := by
    have m := msk2 (s := 2) (K := 858993459) (k := 51) a1.1 b1.1 (by decide) (by decide)
    have m0 := msk2 (s := 0) (K := 858993459) (k := 51) a1.1 b1.1 (by decide) (by decide)
    have m0' : (256 * bs1 a + bs1 b) &&& 858993459 = 256 * (bs1 a &&& 51) + (bs1 b &&& 51) := m0
    unfold bs2
    rw [m, m0', a2.1, a2.2, b2'.1, b2'.2]
    omega
  have a3 := bs_e a ha
  have b3 := bs_e b hb
  rw [e1, e2]
  have f := bs_f (bs2 (bs1 a) / 16) (by omega) (bs2 (bs1 a) % 16) (by omega) (bs2 (bs1 b) / 16) (by omega) (bs2 (bs1 b) % 16) (by omega)
  rw [show 16 * (bs2 (bs1 a) / 16) + bs2 (bs1 a) % 16 = bs2 (bs1 a) by omega, show 16 * (bs2 (bs1 b) / 16) + bs2 (bs1 b) % 16 = bs2 (bs1 b) by omega] at f
  rw [f]
  omega
theorem pop_c {x y n : Nat} (h : ∀ i, i < n → x.testBit i = y.testBit i) : pop x n = pop y n := by
  induction n with
  | zero => rfl
  | succ n ih => rw [pop_s, pop_s, ih (fun i hi => h i (by omega)), h n (by omega)]
theorem pop_2 {a b : Nat} (hb : b < 256) (m : Nat) : pop (256 * a + b) (8 + m) = pop b 8 + pop a m := by
  induction m with
  | zero =>
    rw [show pop a 0 = 0 from rfl, Int.add_zero]
    exact pop_c (fun i hi => by rw [tb_256 hb, if_pos hi])
  | succ m ih =>
    rw [show 8 + (m + 1) = (8 + m) + 1 by omega, pop_s (256 * a + b) (8 + m), ih, pop_s a m, show (256 * a + b).testBit (8 + m) = a.testBit m by rw [tb_256 hb, if_neg (show ¬ 8 + m < 8 by omega), show 8 + m - 8 = m by omega]]
    omega
theorem bc_16 {n : Nat} (hn : n < 65536) : bcI (n : Int) = pop n 16 := by
  have a1 : (n >>> 1) &&& 1431655765 ≤ n >>> 1 := Nat.and_le_left
  have a2 := Nat.shiftRight_le n 1
  have a3 : n >>> 1 = n / 2 := Nat.shiftRight_eq_div_pow n 1
  have u1 : iushr (n : Int) 1 = ((n >>> 1 : Nat) : Int) := iushr_k (k := 1) (by decide) (by omega)
  have i1 : iand ((n >>> 1 : Nat) : Int) 1431655765 = (((n >>> 1) &&& 1431655765 : Nat) : Int) := iand_n (b := 1431655765) (by omega) (by decide)
  have s1 : wr ((n : Int) - (((n >>> 1) &&& 1431655765 : Nat) : Int)) = (bs1 n : Int) := by
    rw [wr_id (by omega) (by omega)]
    unfold bs1
    omega
  have b1 : bs1 n ≤ n := Nat.sub_le _ _
  have c1 := Nat.shiftRight_le (bs1 n) 2
  have u2 : iushr (bs1 n : Int) 2 = ((bs1 n >>> 2 : Nat) : Int) := iushr_k (k := 2) (by decide) (by omega)
  have i2 : iand (bs1 n : Int) 858993459 = ((bs1 n &&& 858993459 : Nat) : Int) := iand_n (b := 858993459) (by omega) (by decide)
  have i3 : iand ((bs1 n >>> 2 : Nat) : Int) 858993459 = (((bs1 n >>> 2) &&& 858993459 : Nat) : Int) := iand_n (b := 858993459) (by omega) (by decide)
  have c2 : bs1 n &&& 858993459 ≤ bs1 n := Nat.and_le_left
  have c3 : (bs1 n >>> 2) &&& 858993459 ≤ bs1 n >>> 2 := Nat.and_le_left
  have s2 : wr (((bs1 n &&& 858993459 : Nat) : Int) + (((bs1 n >>> 2) &&& 858993459 : Nat) : Int)) = (bs2 (bs1 n) : Int) := by
    rw [wr_id (by omega) (by omega)]
    rfl
  have b2' : bs2 (bs1 n) ≤ 131072 := by unfold bs2; omega
  have c4 := Nat.shiftRight_le (bs2 (bs1 n)) 4
  have u3 : iushr (bs2 (bs1 n) : Int) 4 = ((bs2 (bs1 n) >>> 4 : Nat) : Int) := iushr_k (k := 4) (by decide) (by omega)
  have s3 : wr ((bs2 (bs1 n) : Int) + ((bs2 (bs1 n) >>> 4 : Nat) : Int)) = ((bs2 (bs1 n) + (bs2 (bs1 n) >>> 4) : Nat) : Int) := by
    rw [wr_id (by omega) (by omega)]
    omega
  have i4 : iand ((bs2 (bs1 n) + (bs2 (bs1 n) >>> 4) : Nat) : Int) 252645135 = (bs3 (bs2 (bs1 n)) : Int) := iand_n (b := 252645135) (by omega) (by decide)
  have b3 : bs3 (bs2 (bs1 n)) ≤ bs2 (bs1 n) + (bs2 (bs1 n) >>> 4) := Nat.and_le_left
  have c5 := Nat.shiftRight_le (bs3 (bs2 (bs1 n))) 8
  have u4 : iushr (bs3 (bs2 (bs1 n)) : Int) 8 = ((bs3 (bs2 (bs1 n)) >>> 8 : Nat) : Int) := iushr_k (k := 8) (by decide) (by omega)
  have s4 : wr ((bs3 (bs2 (bs1 n)) : Int) + ((bs3 (bs2 (bs1 n)) >>> 8 : Nat) : Int)) = (bs4 (bs3 (bs2 (bs1 n))) : Int) := by
    rw [wr_id (by omega) (by omega)]
    unfold bs4
    omega
  have b4 : bs4 (bs3 (bs2 (bs1 n))) ≤ 1000000 := by unfold bs4; omega
  have c6 := Nat.shiftRight_le (bs4 (bs3 (bs2 (bs1 n)))) 16
  have u5 : iushr (bs4 (bs3 (bs2 (bs1 n))) : Int) 16 = ((bs4 (bs3 (bs2 (bs1 n))) >>> 16 : Nat) : Int) := iushr_k (k := 16) (by decide) (by omega)
  have s5 : wr ((bs4 (bs3 (bs2 (bs1 n))) : Int) + ((bs4 (bs3 (bs2 (bs1 n))) >>> 16 : Nat) : Int)) = ((bs4 (bs3 (bs2 (bs1 n))) + (bs4 (bs3 (bs2 (bs1 n))) >>> 16) : Nat) : Int) := by
    rw [wr_id (by omega) (by omega)]
    omega
  have i5 : iand ((bs4 (bs3 (bs2 (bs1 n))) + (bs4 (bs3 (bs2 (bs1 n))) >>> 16) : Nat) : Int) 63 = (bs5 (bs4 (bs3 (bs2 (bs1 n)))) : Int) := iand_n (b := 63) (by omega) (by decide)
  have hd := bs_all (a := n / 256) (b := n % 256) (by omega) (by omega)
  have h1 := pop_2 (a := n / 256) (b := n % 256) (by omega) 8
  rw [show 256 * (n / 256) + n % 256 = n by omega] at hd h1
  have h2 := bs_e (n / 256) (by omega)
  have h3 := bs_e (n % 256) (by omega)
  unfold bcI
  rw [u1, i1, s1, u2, i2, i3, s2, u3, s3, i4, u4, s4, u5, s5, i5, hd, show (16 : Nat) = 8 + 8 from rfl, h1, h2.2.2.2, h3.2.2.2]
  omega
theorem bitCount_16 {w : Wd} {n : Nat} (h : n < 65536) : Cal 1 95 [.inl (n : Int)] w (rI fun y u => y = pop n 16 ∧ u = w) := by
  refine en_95 ?_
  exact ⟨bc_16 h, rfl⟩
theorem pop_cb (x n : Nat) : pop x n = (cbN (fun s => x.testBit s) n : Int) := by
  induction n with
  | zero => rfl
  | succ n ih =>
    rw [pop_s, cb_s, ih]
    split <;> omega
theorem cb_c {P P' : Nat → Bool} {n : Nat} (h : ∀ s, s < n → P s = P' s) : cbN P n = cbN P' n := by
  induction n with
  | zero => rfl
  | succ n ih => rw [cb_s, cb_s, ih (fun s hs => h s (by omega)), h n (by omega)]
