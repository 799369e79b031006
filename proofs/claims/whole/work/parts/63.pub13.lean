/-! sets of lines: which stand -/
theorem nand_g {x s : Nat} (hx : x < 2 ^ 32) (hs : s ≤ 9) : x &&& ((2 ^ (32 - s) - 1) <<< s) = 0 ↔ x < 2 ^ s := by
  constructor
  · intro h
    apply Nat.lt_of_not_le
    intro hge
    obtain ⟨i, hi, ht⟩ := Nat.exists_ge_and_testBit_of_ge_two_pow hge
    have h31 : i < 32 := by
      apply Nat.lt_of_not_le
      intro q
      rw [Nat.testBit_lt_two_pow (Nat.lt_of_lt_of_le hx (Nat.pow_le_pow_right (by decide) q))] at ht
      exact absurd ht (by decide)
    have h2 := Nat.zero_testBit i
    rw [← h, Nat.testBit_and, ht, Nat.testBit_shiftLeft, Nat.testBit_two_pow_sub_one] at h2
    simp at h2
    omega
  · intro h
    apply Nat.eq_of_testBit_eq
    intro i
    rw [Nat.zero_testBit, Nat.testBit_and, Nat.testBit_shiftLeft]
    by_cases q : i < s
    · simp; omega
    · rw [Nat.testBit_lt_two_pow (Nat.lt_of_lt_of_le h (Nat.pow_le_pow_right (by decide) (by omega)))]
      rfl
theorem ior_0 {x : Int} (h : -2147483648 ≤ x ∧ x < 2147483648) : ior x 0 = x := by
  show (Int32.ofInt x ||| Int32.ofInt 0).toInt = x
  rw [show Int32.ofInt 0 = 0 from rfl, Int32.or_zero]
  exact wr_id h.1 h.2
theorem i32_r (x : Int32) : -2147483648 ≤ x.toInt ∧ x.toInt < 2147483648 := ⟨Int32.le_toInt x, Int32.toInt_lt x⟩
theorem oth_g {x : Int} {s : Nat} (hx : -2147483648 ≤ x ∧ x < 2147483648) (hs : s ≤ 9) : iand x (ixor (wr (ishl 1 s - 1)) (-1)) = 0 ↔ 0 ≤ x ∧ x < ishl 1 s := by
  by_cases h0 : 0 ≤ x
  · rw [oth_i ⟨h0, hx.2⟩ hs]
    omega
  · have h1 : (Int32.ofInt x).toBitVec.toNat = (x + 4294967296).toNat := by
      show (BitVec.ofInt 32 x).toNat = _
      rw [BitVec.toNat_ofInt]
      omega
    have h3 : ((Int32.ofInt x) &&& (Int32.ofInt (ixor (wr (ishl 1 s - 1)) (-1)))).toBitVec.toNat = (x + 4294967296).toNat &&& ((2 ^ (32 - s) - 1) <<< s) := by
      rw [Int32.toBitVec_and, BitVec.toNat_and, h1, msk_n s hs]
    constructor
    · intro h
      have h4 : ((Int32.ofInt x) &&& (Int32.ofInt (ixor (wr (ishl 1 s - 1)) (-1)))).toBitVec.toInt = 0 := h
      rw [show ((Int32.ofInt x) &&& (Int32.ofInt (ixor (wr (ishl 1 s - 1)) (-1)))).toBitVec = 0#32 from BitVec.eq_of_toInt_eq h4] at h3
      have h5 := (nand_g (x := (x + 4294967296).toNat) (s := s) (by omega) hs).1 h3.symm
      have h6 : 2 ^ s ≤ 2 ^ 9 := Nat.pow_le_pow_right (by decide) hs
      omega
    · intro h
      omega
def stN (τ : Wd) (x : Int) : Nat → Int
  | 0 => 0
  | n + 1 => if iand (ishr x n) 1 = 1 then (if iand (τ 186 n) (ixor (stN τ x n) (-1)) = 0 then ior (stN τ x n) (ishl 1 n) else stN τ x n) else stN τ x n
def stF (τ : Wd) (x : Int) : Int := stN τ x (τ 12 61).toNat
theorem stN_s (τ : Wd) (x : Int) (n : Nat) : stN τ x (n + 1) = if iand (ishr x n) 1 = 1 then (if iand (τ 186 n) (ixor (stN τ x n) (-1)) = 0 then ior (stN τ x n) (ishl 1 n) else stN τ x n) else stN τ x n := rfl
theorem stN_b (τ : Wd) (x : Int) (n : Nat) : -2147483648 ≤ stN τ x n ∧ stN τ x n < 2147483648 := by
  induction n with
  | zero => show (-2147483648 : Int) ≤ 0 ∧ (0 : Int) < 2147483648; omega
  | succ n ih =>
    rw [stN_s]
    split
    · split
      · exact i32_r _
      · exact ih
    · exact ih
section
variable {w κ τ : Wd} {T : Wd → Wd → Prop}
theorem hasOthers_g (hc : pc w = κ) (hE : EQ κ τ) (hR : RNG τ) {x : Int} (hx : -2147483648 ≤ x ∧ x < 2147483648) : Cal 2 108 [.inr (.inr 0), .inl x] w (rI fun y u => y = b2 (¬ (0 ≤ x ∧ x < ishl 1 (τ 12 61))) ∧ u = w) := by
  have hb := hR.M_lines
  have e1 := (r0_4 hc).trans hE.Bill_size
  obtain ⟨n, hn⟩ : ∃ n : Nat, τ 12 61 = (n : Int) := ⟨(τ 12 61).toNat, by omega⟩
  refine en_108 ?_
  have hA : Cal 1 109 [.inr (.inr 0)] w (rI fun y u => y = wr (ishl 1 (n : Int) - 1) ∧ u = w) := by
    refine en_109 ?_
    simp only [e1, hn]
    exact ⟨rfl, rfl⟩
  refine CalE.to hA (by decide) ?_
  have h := oth_g (x := x) (s := n) hx (by omega)
  rw [hn]
  unfold b2
  refine ite_i (fun q => ?_) (fun q => ?_)
  · rw [if_neg (fun g => g (h.1 q))]
    exact ⟨Or.inl rfl, rfl, rfl⟩
  · rw [if_pos (fun g => q (h.2 g))]
    exact ⟨Or.inr rfl, rfl, rfl⟩
theorem isSet_ok (hm : pm w = τ) (hR : RNG τ) {x : Int} : Cal 2 211 [.inr (.inr 12), .inl x] w (rI fun y u => y = b2 (0 ≤ x ∧ x < ishl 1 (τ 12 61)) ∧ u = w) := by
  have hb := hR.M_lines
  obtain ⟨n, hn⟩ : ∃ n : Nat, τ 12 61 = (n : Int) := ⟨(τ 12 61).toNat, by omega⟩
  refine en_211 ?_
  simp only [r12_61 hm]
  have h1 : ∀ s : Nat, s ≤ 9 → 1 ≤ ishl 1 s ∧ ishl 1 s ≤ 512 := by decide +kernel
  have h2 := h1 n (by omega)
  rw [hn, wr_id (x := ishl 1 n - 1) (by omega) (by omega)]
  refine CalE.to in_ok (by decide) ?_
  unfold b2
  by_cases q : 0 ≤ x ∧ x < ishl 1 n
  · rw [if_pos (by omega), if_pos q]
    exact ⟨Or.inr rfl, rfl, rfl⟩
  · rw [if_neg (by omega), if_neg q]
    exact ⟨Or.inl rfl, rfl, rfl⟩
theorem standing_ok (hc : pc w = κ) (hE : EQ κ τ) (hR : RNG τ) {x : Int} : Cal 1 112 [.inr (.inr 0), .inl x] w (rI fun y u => y = stF τ x ∧ u = w) := by
  have hb := hR.M_lines
  have e1 := (r0_4 hc).trans hE.Bill_size
  generalize hQ : (rI fun y u => y = stF τ x ∧ u = w) = Q
  have key := Ev.count (sc := none) (C := Cal 0) (cdk := cd 112) (Q := Q) (N := (τ 12 61).toNat) (S := fun i => (4, [some (.inr (.inr 0)), some (.inl x), some (.inl (stN τ x i)), some (.inl (i : Int))], [], w)) (fun i hi h => ?_) ?_ 0 (Nat.zero_le _)
  · exact en_112 key
  · refine bk_112_4 ?_
    have h4 : w 16 i = τ 186 i := (r16 hc i).trans (hE.Bill_needs i)
    simp only [e1, tn, h4]
    rw [if_pos (by omega), wr_s (by omega)]
    have h5 := stN_s τ x i
    refine ite_i (fun q => ?_) (fun q => ?_)
    · refine ⟨by omega, ?_⟩
      rw [if_pos q] at h5
      refine ite_i (fun r => ?_) (fun r => ?_)
      · rw [if_pos r] at h5
        exact h.cast (by rw [h5])
      · rw [if_neg r] at h5
        exact h.cast (by rw [h5])
    · rw [if_neg q] at h5
      exact h.cast (by rw [h5])
  · refine bk_112_4 ?_
    simp only [e1]
    rw [if_neg (by omega), ← hQ]
    exact ⟨rfl, rfl⟩
theorem mstanding_ok (hm : pm w = τ) (hR : RNG τ) {x : Int} : Cal 1 212 [.inr (.inr 12), .inl x] w (rI fun y u => y = stF τ x ∧ u = w) := by
  have hb := hR.M_lines
  generalize hQ : (rI fun y u => y = stF τ x ∧ u = w) = Q
  have key := Ev.count (sc := none) (C := Cal 0) (cdk := cd 212) (Q := Q) (N := (τ 12 61).toNat) (S := fun i => (4, [some (.inr (.inr 12)), some (.inl x), some (.inl (stN τ x i)), some (.inl (i : Int))], [], w)) (fun i hi h => ?_) ?_ 0 (Nat.zero_le _)
  · exact en_212 key
  · refine bk_212_4 ?_
    have h4 : w 186 i = τ 186 i := r186 hm i
    simp only [r12_61 hm, tn, h4]
    rw [if_pos (by omega), wr_s (by omega), ior_0 (stN_b τ x i)]
    have h5 := stN_s τ x i
    refine ite_i (fun q => ?_) (fun q => ?_)
    · refine ⟨by omega, ?_⟩
      rw [if_pos q] at h5
      refine ite_i (fun r => ?_) (fun r => ?_)
      · rw [if_pos r] at h5
        exact h.cast (by rw [h5])
      · rw [if_neg r] at h5
        exact h.cast (by rw [h5])
    · rw [if_neg q] at h5
      exact h.cast (by rw [h5])
  · refine bk_212_4 ?_
    simp only [r12_61 hm]
    rw [if_neg (by omega), ← hQ]
    exact ⟨rfl, rfl⟩
theorem both_stands (hO : OKW T w) {a : Int} (ha : in32 a) : Cal 12 111 [.inr (.inr 11), .inl a] w (rI fun x u => Cal 12 210 [.inr (.inr 12), .inl a] u (rI fun y v => x = y ∧ OKW T v)) := by
  have hO2 := hO
  obtain ⟨κ, hc⟩ : ∃ κ, pc w = κ := ⟨_, rfl⟩
  obtain ⟨τ, hm⟩ : ∃ τ, pm w = τ := ⟨_, rfl⟩
  unfold OKW at hO
  rw [hc, hm] at hO
  obtain ⟨hE, hR, ht⟩ := id hO
  unfold in32 at ha
  refine en_111 ?_
  refine CalB (hasOthers_g hc hE hR (x := a) (by omega)) (by decide) (fun q => ?_) (fun q => ?_)
  · rw [if_neg (by decide)]
    refine en_210 ?_
    refine CalF (isSet_ok hm hR) (by decide) q ?_
    rw [if_pos rfl]
    exact ⟨rfl, hO2⟩
  · rw [if_pos rfl]
    refine CalE.to (standing_ok hc hE hR) (by decide) ?_
    refine en_210 ?_
    refine CalT (isSet_ok hm hR) (by decide) (Decidable.not_not.1 q) ?_
    rw [if_neg (by decide)]
    refine CalE.to (mstanding_ok hm hR) (by decide) ?_
    exact ⟨rfl, hO2⟩
end
