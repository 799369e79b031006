/-! how a rule is read and what it holds, without any machine -/
theorem sm_d : ∀ k : Nat, k < 32 → BitVec.smod (Int32.ofInt (k : Int) &&& 31).toBitVec 32#32 = BitVec.ofNat 32 k := by decide +kernel
theorem ishl_k {a k : Nat} (hk : k < 32) (h : a * 2 ^ k < 2147483648) : ishl (a : Int) (k : Int) = ((a * 2 ^ k : Nat) : Int) := by
  have ha : a < 2147483648 := Nat.lt_of_le_of_lt (Nat.le_mul_of_pos_right a (Nat.two_pow_pos k)) h
  have h1 : (Int32.ofInt (a : Int) <<< (Int32.ofInt (k : Int) &&& 31)).toBitVec.toNat = a * 2 ^ k := by
    show ((Int32.ofInt (a : Int)).toBitVec <<< (BitVec.smod (Int32.ofInt (k : Int) &&& 31).toBitVec 32#32)).toNat = _
    rw [sm_d k hk, BitVec.shiftLeft_eq', BitVec.toNat_shiftLeft, tb_n ha, BitVec.toNat_ofNat, Nat.mod_eq_of_lt (show k < 2 ^ 32 by omega), Nat.shiftLeft_eq]
    exact Nat.mod_eq_of_lt (by omega)
  show (Int32.ofInt (a : Int) <<< (Int32.ofInt (k : Int) &&& 31)).toBitVec.toInt = _
  rw [BitVec.toInt_eq_toNat_of_lt (by rw [h1]; omega), h1]
theorem ishr_k {a k : Nat} (hk : k < 32) (ha : a < 2147483648) : ishr (a : Int) (k : Int) = ((a >>> k : Nat) : Int) := by
  have hmsb : (Int32.ofInt (a : Int)).toBitVec.msb = false := by
    rw [BitVec.msb_eq_false_iff_two_mul_lt, tb_n ha]
    omega
  have h1 : (Int32.ofInt (a : Int) >>> (Int32.ofInt (k : Int) &&& 31)).toBitVec.toNat = a >>> k := by
    show (BitVec.sshiftRight' (Int32.ofInt (a : Int)).toBitVec (BitVec.smod (Int32.ofInt (k : Int) &&& 31).toBitVec 32#32)).toNat = _
    rw [sm_d k hk, BitVec.sshiftRight_eq', BitVec.sshiftRight_eq_of_msb_false hmsb, BitVec.toNat_ushiftRight, tb_n ha, BitVec.toNat_ofNat, Nat.mod_eq_of_lt (show k < 2 ^ 32 by omega)]
  have h2 := Nat.shiftRight_le a k
  show (Int32.ofInt (a : Int) >>> (Int32.ofInt (k : Int) &&& 31)).toBitVec.toInt = _
  rw [BitVec.toInt_eq_toNat_of_lt (by rw [h1]; omega), h1]
def enc (l r o : Int) : Int := ior (ior (ishl l 16) (ishl r 2)) o
theorem enc_n {l r o : Nat} (hl : l ≤ 10004) (hr : r ≤ 10004) (ho : o ≤ 2) : enc (l : Int) (r : Int) (o : Int) = ((l * 65536 + r * 4 + o : Nat) : Int) := by
  unfold enc
  have e1 : ishl (l : Int) 16 = ((l * 65536 : Nat) : Int) := ishl_k (k := 16) (by decide) (by omega)
  have e2 : ishl (r : Int) 2 = ((r * 4 : Nat) : Int) := ishl_k (k := 2) (by decide) (by omega)
  have e3 : l * 65536 ||| r * 4 = l * 65536 + r * 4 := by
    have := Nat.shiftLeft_add_eq_or_of_lt (b := r * 4) (i := 16) (by omega) l
    rw [Nat.shiftLeft_eq] at this
    exact this.symm
  have e4 : (l * 65536 + r * 4) ||| o = l * 65536 + r * 4 + o := by
    have := Nat.shiftLeft_add_eq_or_of_lt (b := o) (i := 2) (by omega) (l * 16384 + r)
    rw [Nat.shiftLeft_eq, show (l * 16384 + r) * 2 ^ 2 = l * 65536 + r * 4 by omega] at this
    exact this.symm
  rw [e1, e2, ior_n (by omega) (by omega), e3, ior_n (by omega) (by omega), e4]
theorem enc_d {l r o : Nat} (hl : l ≤ 10004) (hr : r ≤ 10004) (ho : o ≤ 2) : ishr (enc (l : Int) (r : Int) (o : Int)) 16 = (l : Int) ∧ iand (ishr (enc (l : Int) (r : Int) (o : Int)) 2) 16383 = (r : Int) ∧ iand (enc (l : Int) (r : Int) (o : Int)) 3 = (o : Int) := by
  rw [enc_n hl hr ho]
  refine ⟨?_, ?_, ?_⟩
  · have := ishr_k (a := l * 65536 + r * 4 + o) (k := 16) (by decide) (by omega)
    refine this.trans ?_
    rw [Nat.shiftRight_eq_div_pow]
    omega
  · have := ishr_k (a := l * 65536 + r * 4 + o) (k := 2) (by decide) (by omega)
    have e : ishr ((l * 65536 + r * 4 + o : Nat) : Int) 2 = ((l * 16384 + r : Nat) : Int) := by
      refine this.trans ?_
      rw [Nat.shiftRight_eq_div_pow]
      omega
    rw [e]
    have := iand_n (a := l * 16384 + r) (b := 16383) (by omega) (by decide)
    refine this.trans ?_
    rw [show (16383 : Nat) = 2 ^ 14 - 1 from rfl, Nat.and_two_pow_sub_one_eq_mod]
    omega
  · have := iand_n (a := l * 65536 + r * 4 + o) (b := 3) (by omega) (by decide)
    refine this.trans ?_
    rw [show (3 : Nat) = 2 ^ 2 - 1 from rfl, Nat.and_two_pow_sub_one_eq_mod]
    omega
/-- byte i of a text of n bytes, -1 behind it -/
def hdF (b : Nat → Int) (n i : Nat) : Int := if i < n then b i else -1
def HOK (h : Nat → Int) (n : Nat) : Prop := ∀ i, (h i = -1 ∧ ¬ i < n) ∨ (i < n ∧ 0 ≤ h i ∧ h i ≤ 255)
theorem hdF_ok {b : Nat → Int} (hb : ∀ i, 0 ≤ b i ∧ b i ≤ 255) (n : Nat) : HOK (hdF b n) n := by
  intro i
  have := hb i
  unfold hdF
  by_cases q : i < n
  · rw [if_pos q]; exact Or.inr ⟨q, this⟩
  · rw [if_neg q]; exact Or.inl ⟨rfl, q⟩
def faI (pt c : Int) : Int := if pt = 0 then (if c = 104 then 0 else if c = 112 then 1 else if c = 103 then 2 else if c = 100 then 3 else if c = 121 then 4 else -1) else (if c < 97 then -1 else if 100 < c then -1 else c - 97)
def dgR (h : Nat → Int) : Nat → Nat → Int → Int × Nat
  | 0, i, v => (v, i)
  | f + 1, i, v => if 48 ≤ h i ∧ h i ≤ 57 then dgR h f (i + 1) (max 0 v * 10 + h i - 48) else (v, i)
theorem dgR_s (h : Nat → Int) (f i : Nat) (v : Int) : dgR h (f + 1) i v = if 48 ≤ h i ∧ h i ≤ 57 then dgR h f (i + 1) (max 0 v * 10 + h i - 48) else (v, i) := rfl
def unF (pt : Int) (h : Nat → Int) (i : Nat) : Int × Nat := if 0 ≤ faI pt (h i) then (10000 + faI pt (h i), i + 1) else dgR h 4 i (-1)
theorem faI_b (pt c : Int) : -1 ≤ faI pt c ∧ faI pt c ≤ 4 := by
  unfold faI
  repeat' split
  all_goals omega
theorem faI_n {pt c : Int} (h : 0 ≤ faI pt c) : 97 ≤ c := by
  unfold faI at h
  repeat' split at h
  all_goals omega
theorem dgR_b (h : Nat → Int) (f : Nat) : ∀ (i : Nat) (v a : Int), -1 ≤ v → v < a → -1 ≤ (dgR h f i v).1 ∧ (dgR h f i v).1 < max 1 a * (10 : Int) ^ f := by
  induction f with
  | zero => intro i v a h1 h2; show -1 ≤ v ∧ v < max 1 a * 1; omega
  | succ f ih =>
    intro i v a h1 h2
    have hp : (0 : Int) < 10 ^ f := Int.pow_pos (by decide)
    rw [dgR_s]
    split
    · rename_i q
      have h3 := ih (i + 1) (max 0 v * 10 + h i - 48) (max 1 a * 10) (by omega) (by omega)
      rw [show max 1 (max 1 a * 10) = max 1 a * 10 by omega, Int.mul_assoc] at h3
      rw [Int.pow_succ, Int.mul_comm ((10 : Int) ^ f) 10]
      exact h3
    · refine ⟨h1, ?_⟩
      have h4 : (1 : Int) ≤ 10 ^ (f + 1) := Int.pow_pos (by decide)
      have h5 : max 1 a * 1 ≤ max 1 a * 10 ^ (f + 1) := Int.mul_le_mul_of_nonneg_left h4 (by omega)
      show v < _
      omega
theorem dgR_j {h : Nat → Int} {n : Nat} (hh : HOK h n) (f : Nat) : ∀ (i : Nat) (v : Int), i ≤ n → i ≤ (dgR h f i v).2 ∧ (dgR h f i v).2 ≤ n ∧ (v < 0 → 0 ≤ (dgR h f i v).1 → i + 1 ≤ (dgR h f i v).2) := by
  induction f with
  | zero => intro i v hi; exact ⟨Nat.le_refl _, hi, fun a b => by exact absurd b (by show ¬ 0 ≤ v; omega)⟩
  | succ f ih =>
    intro i v hi
    rw [dgR_s]
    split
    · rename_i q
      have hi2 := hh i
      have := ih (i + 1) (max 0 v * 10 + h i - 48) (by omega)
      omega
    · exact ⟨Nat.le_refl _, hi, fun a b => by exact absurd b (by show ¬ 0 ≤ v; omega)⟩
theorem unF_b {h : Nat → Int} {n : Nat} (hh : HOK h n) (pt : Int) {i : Nat} (hi : i ≤ n) : -1 ≤ (unF pt h i).1 ∧ (unF pt h i).1 ≤ 10004 ∧ i ≤ (unF pt h i).2 ∧ (unF pt h i).2 ≤ n ∧ (0 ≤ (unF pt h i).1 → i + 1 ≤ (unF pt h i).2) := by
  unfold unF
  split
  · rename_i q
    have h1 := faI_b pt (h i)
    have h2 := faI_n q
    have h3 := hh i
    show -1 ≤ 10000 + faI pt (h i) ∧ 10000 + faI pt (h i) ≤ 10004 ∧ i ≤ i + 1 ∧ i + 1 ≤ n ∧ _
    exact ⟨by omega, by omega, by omega, by omega, fun _ => Nat.le_refl _⟩
  · have h1 := dgR_b h 4 i (-1) 0 (by decide) (by decide)
    have h2 := dgR_j hh 4 i (-1) hi
    have h3 : max 1 (0 : Int) * 10 ^ 4 = 10000 := rfl
    rw [h3] at h1
    exact ⟨h1.1, by omega, h2.1, h2.2.1, fun a => h2.2.2 (by decide) a⟩
/-- a comparison is read -/
def CMO (pt : Int) (h : Nat → Int) (i j : Nat) (s : Int) : Prop := 0 ≤ (unF pt h i).1 ∧ 60 ≤ h (unF pt h i).2 ∧ h (unF pt h i).2 ≤ 62 ∧ 0 ≤ (unF pt h ((unF pt h i).2 + 1)).1 ∧ j = (unF pt h ((unF pt h i).2 + 1)).2 ∧ s = enc (unF pt h i).1 (unF pt h ((unF pt h i).2 + 1)).1 (h (unF pt h i).2 - 60)
/-- a comparison has a fault -/
def CMB (pt : Int) (h : Nat → Int) (i j : Nat) : Prop := (((unF pt h i).1 < 0 ∨ h (unF pt h i).2 < 60 ∨ 62 < h (unF pt h i).2) ∧ j = (unF pt h i).2) ∨ (0 ≤ (unF pt h i).1 ∧ 60 ≤ h (unF pt h i).2 ∧ h (unF pt h i).2 ≤ 62 ∧ (unF pt h ((unF pt h i).2 + 1)).1 < 0 ∧ j = (unF pt h ((unF pt h i).2 + 1)).2)
theorem CMO_b {pt : Int} {h : Nat → Int} {n i j : Nat} {s : Int} (hh : HOK h n) (hi : i ≤ n) (hc : CMO pt h i j s) : i + 3 ≤ j ∧ j ≤ n ∧ 0 ≤ s := by
  obtain ⟨h1, h2, h3, h4, h5, h6⟩ := hc
  have b1 := unF_b hh pt hi
  have b2 := hh (unF pt h i).2
  have b3 := unF_b hh pt (i := (unF pt h i).2 + 1) (by omega)
  have b4 := b1.2.2.2.2 h1
  have b5 := b3.2.2.2.2 h4
  refine ⟨by omega, by omega, ?_⟩
  obtain ⟨l, hl⟩ : ∃ l : Nat, (unF pt h i).1 = (l : Int) := ⟨_, (Int.toNat_of_nonneg h1).symm⟩
  obtain ⟨r, hr⟩ : ∃ l : Nat, (unF pt h ((unF pt h i).2 + 1)).1 = (l : Int) := ⟨_, (Int.toNat_of_nonneg h4).symm⟩
  obtain ⟨o, ho⟩ : ∃ l : Nat, h (unF pt h i).2 - 60 = (l : Int) := ⟨(h (unF pt h i).2 - 60).toNat, by omega⟩
  rw [h6, hl, hr, ho, enc_n (by omega) (by omega) (by omega)]
  omega
theorem CMB_b {pt : Int} {h : Nat → Int} {n i j : Nat} (hh : HOK h n) (hi : i ≤ n) (hc : CMB pt h i j) : i ≤ j ∧ j ≤ n := by
  have b1 := unF_b hh pt hi
  have b2 := hh (unF pt h i).2
  rcases hc with ⟨_, rfl⟩ | ⟨h1, h2, h3, h4, rfl⟩
  · omega
  · have b3 := unF_b hh pt (i := (unF pt h i).2 + 1) (by omega)
    omega
def BNG (h : Nat → Int) (i m : Nat) : Prop := ∀ k, k < m → h (i + k) = 33
def nots (m : Nat) : List Int := if m % 2 = 1 then [-1] else []
/-- closed under the reading of parts (0), terms (1), what follows a part (2), rules (3), what follows a term (4) -/
def CL2 (pt : Int) (h : Nat → Int) (P R : Nat → Nat → Nat → Bool → Nat → List Int → Prop) : Prop :=
  (∀ d m i j s, d + m ≤ 4 → BNG h i m → (d + m = 4 ∨ ¬ h (i + m) = 33) → ¬ h (i + m) = 40 → CMO pt h (i + m) j s → R 0 d i true j ([s] ++ nots m)) ∧
  (∀ d m i j, d + m ≤ 4 → BNG h i m → (d + m = 4 ∨ ¬ h (i + m) = 33) → ¬ h (i + m) = 40 → CMB pt h (i + m) j → R 0 d i false j []) ∧
  (∀ d m i, d + m = 4 → BNG h i m → h (i + m) = 40 → R 0 d i false (i + m) []) ∧
  (∀ d m i j T, d + m < 4 → BNG h i m → h (i + m) = 40 → P 3 (d + m + 1) (i + m + 1) false j T → R 0 d i false j []) ∧
  (∀ d m i j T, d + m < 4 → BNG h i m → h (i + m) = 40 → P 3 (d + m + 1) (i + m + 1) true j T → ¬ h j = 41 → R 0 d i false j []) ∧
  (∀ d m i j T, d + m < 4 → BNG h i m → h (i + m) = 40 → P 3 (d + m + 1) (i + m + 1) true j T → h j = 41 → R 0 d i true (j + 1) (T ++ nots m)) ∧
  (∀ d i j T, P 0 d i false j T → R 1 d i false j []) ∧
  (∀ d i j T ok j' T', P 0 d i true j T → P 2 d j ok j' T' → R 1 d i ok j' (T ++ T')) ∧
  (∀ d i, ¬ h i = 38 → R 2 d i true i []) ∧
  (∀ d i j T, h i = 38 → P 0 d (i + 1) false j T → R 2 d i false j []) ∧
  (∀ d i j T ok j' T', h i = 38 → P 0 d (i + 1) true j T → P 2 d j ok j' T' → R 2 d i ok j' (T ++ (-2 :: T'))) ∧
  (∀ d i j T, P 1 d i false j T → R 3 d i false j []) ∧
  (∀ d i j T ok j' T', P 1 d i true j T → P 4 d j ok j' T' → R 3 d i ok j' (T ++ T')) ∧
  (∀ d i, ¬ h i = 124 → R 4 d i true i []) ∧
  (∀ d i j T, h i = 124 → P 1 d (i + 1) false j T → R 4 d i false j []) ∧
  (∀ d i j T ok j' T', h i = 124 → P 1 d (i + 1) true j T → P 4 d j ok j' T' → R 4 d i ok j' (T ++ (-3 :: T')))
theorem CL2.and {pt : Int} {h : Nat → Int} {P R R' : Nat → Nat → Nat → Bool → Nat → List Int → Prop} (h1 : CL2 pt h P R) (h2 : CL2 pt h P R') : CL2 pt h P (fun m d i ok j T => R m d i ok j T ∧ R' m d i ok j T) :=
  ⟨fun d m i j s a b c e f => ⟨h1.1 d m i j s a b c e f, h2.1 d m i j s a b c e f⟩, fun d m i j a b c e f => ⟨h1.2.1 d m i j a b c e f, h2.2.1 d m i j a b c e f⟩, fun d m i a b c => ⟨h1.2.2.1 d m i a b c, h2.2.2.1 d m i a b c⟩, fun d m i j T a b c e => ⟨h1.2.2.2.1 d m i j T a b c e, h2.2.2.2.1 d m i j T a b c e⟩, fun d m i j T a b c e f => ⟨h1.2.2.2.2.1 d m i j T a b c e f, h2.2.2.2.2.1 d m i j T a b c e f⟩, fun d m i j T a b c e f => ⟨h1.2.2.2.2.2.1 d m i j T a b c e f, h2.2.2.2.2.2.1 d m i j T a b c e f⟩, fun d i j T a => ⟨h1.2.2.2.2.2.2.1 d i j T a, h2.2.2.2.2.2.2.1 d i j T a⟩, fun d i j T ok j' T' a b => ⟨h1.2.2.2.2.2.2.2.1 d i j T ok j' T' a b, h2.2.2.2.2.2.2.2.1 d i j T ok j' T' a b⟩, fun d i a => ⟨h1.2.2.2.2.2.2.2.2.1 d i a, h2.2.2.2.2.2.2.2.2.1 d i a⟩, fun d i j T a b => ⟨h1.2.2.2.2.2.2.2.2.2.1 d i j T a b, h2.2.2.2.2.2.2.2.2.2.1 d i j T a b⟩, fun d i j T ok j' T' a b c => ⟨h1.2.2.2.2.2.2.2.2.2.2.1 d i j T ok j' T' a b c, h2.2.2.2.2.2.2.2.2.2.2.1 d i j T ok j' T' a b c⟩, fun d i j T a => ⟨h1.2.2.2.2.2.2.2.2.2.2.2.1 d i j T a, h2.2.2.2.2.2.2.2.2.2.2.2.1 d i j T a⟩, fun d i j T ok j' T' a b => ⟨h1.2.2.2.2.2.2.2.2.2.2.2.2.1 d i j T ok j' T' a b, h2.2.2.2.2.2.2.2.2.2.2.2.2.1 d i j T ok j' T' a b⟩, fun d i a => ⟨h1.2.2.2.2.2.2.2.2.2.2.2.2.2.1 d i a, h2.2.2.2.2.2.2.2.2.2.2.2.2.2.1 d i a⟩, fun d i j T a b => ⟨h1.2.2.2.2.2.2.2.2.2.2.2.2.2.2.1 d i j T a b, h2.2.2.2.2.2.2.2.2.2.2.2.2.2.2.1 d i j T a b⟩, fun d i j T ok j' T' a b c => ⟨h1.2.2.2.2.2.2.2.2.2.2.2.2.2.2.2 d i j T ok j' T' a b c, h2.2.2.2.2.2.2.2.2.2.2.2.2.2.2.2 d i j T ok j' T' a b c⟩⟩
theorem CL2.pre {pt : Int} {h : Nat → Int} {P P' R : Nat → Nat → Nat → Bool → Nat → List Int → Prop} (hp : ∀ m d i ok j T, P' m d i ok j T → P m d i ok j T) (h1 : CL2 pt h P R) : CL2 pt h P' R :=
  ⟨fun d m i j s a b c e f => h1.1 d m i j s a b c e f, fun d m i j a b c e f => h1.2.1 d m i j a b c e f, fun d m i a b c => h1.2.2.1 d m i a b c, fun d m i j T a b c e => h1.2.2.2.1 d m i j T a b c (hp _ _ _ _ _ _ e), fun d m i j T a b c e f => h1.2.2.2.2.1 d m i j T a b c (hp _ _ _ _ _ _ e) f, fun d m i j T a b c e f => h1.2.2.2.2.2.1 d m i j T a b c (hp _ _ _ _ _ _ e) f, fun d i j T a => h1.2.2.2.2.2.2.1 d i j T (hp _ _ _ _ _ _ a), fun d i j T ok j' T' a b => h1.2.2.2.2.2.2.2.1 d i j T ok j' T' (hp _ _ _ _ _ _ a) (hp _ _ _ _ _ _ b), fun d i a => h1.2.2.2.2.2.2.2.2.1 d i a, fun d i j T a b => h1.2.2.2.2.2.2.2.2.2.1 d i j T a (hp _ _ _ _ _ _ b), fun d i j T ok j' T' a b c => h1.2.2.2.2.2.2.2.2.2.2.1 d i j T ok j' T' a (hp _ _ _ _ _ _ b) (hp _ _ _ _ _ _ c), fun d i j T a => h1.2.2.2.2.2.2.2.2.2.2.2.1 d i j T (hp _ _ _ _ _ _ a), fun d i j T ok j' T' a b => h1.2.2.2.2.2.2.2.2.2.2.2.2.1 d i j T ok j' T' (hp _ _ _ _ _ _ a) (hp _ _ _ _ _ _ b), fun d i a => h1.2.2.2.2.2.2.2.2.2.2.2.2.2.1 d i a, fun d i j T a b => h1.2.2.2.2.2.2.2.2.2.2.2.2.2.2.1 d i j T a (hp _ _ _ _ _ _ b), fun d i j T ok j' T' a b c => h1.2.2.2.2.2.2.2.2.2.2.2.2.2.2.2 d i j T ok j' T' a (hp _ _ _ _ _ _ b) (hp _ _ _ _ _ _ c)⟩
def DER (pt : Int) (h : Nat → Int) (m d i : Nat) (ok : Bool) (j : Nat) (T : List Int) : Prop := ∀ P, CL2 pt h P P → P m d i ok j T
theorem DER.clo (pt : Int) (h : Nat → Int) : CL2 pt h (DER pt h) (DER pt h) :=
  ⟨fun d m i j s a b c e f P hP => hP.1 d m i j s a b c e f, fun d m i j a b c e f P hP => hP.2.1 d m i j a b c e f, fun d m i a b c P hP => hP.2.2.1 d m i a b c, fun d m i j T a b c e P hP => hP.2.2.2.1 d m i j T a b c (e P hP), fun d m i j T a b c e f P hP => hP.2.2.2.2.1 d m i j T a b c (e P hP) f, fun d m i j T a b c e f P hP => hP.2.2.2.2.2.1 d m i j T a b c (e P hP) f, fun d i j T a P hP => hP.2.2.2.2.2.2.1 d i j T (a P hP), fun d i j T ok j' T' a b P hP => hP.2.2.2.2.2.2.2.1 d i j T ok j' T' (a P hP) (b P hP), fun d i a P hP => hP.2.2.2.2.2.2.2.2.1 d i a, fun d i j T a b P hP => hP.2.2.2.2.2.2.2.2.2.1 d i j T a (b P hP), fun d i j T ok j' T' a b c P hP => hP.2.2.2.2.2.2.2.2.2.2.1 d i j T ok j' T' a (b P hP) (c P hP), fun d i j T a P hP => hP.2.2.2.2.2.2.2.2.2.2.2.1 d i j T (a P hP), fun d i j T ok j' T' a b P hP => hP.2.2.2.2.2.2.2.2.2.2.2.2.1 d i j T ok j' T' (a P hP) (b P hP), fun d i a P hP => hP.2.2.2.2.2.2.2.2.2.2.2.2.2.1 d i a, fun d i j T a b P hP => hP.2.2.2.2.2.2.2.2.2.2.2.2.2.2.1 d i j T a (b P hP), fun d i j T ok j' T' a b c P hP => hP.2.2.2.2.2.2.2.2.2.2.2.2.2.2.2 d i j T ok j' T' a (b P hP) (c P hP)⟩
theorem DER.ind {pt : Int} {h : Nat → Int} {P : Nat → Nat → Nat → Bool → Nat → List Int → Prop} (hP : CL2 pt h (fun m d i ok j T => DER pt h m d i ok j T ∧ P m d i ok j T) P) {m d i j : Nat} {ok : Bool} {T : List Int} (hd : DER pt h m d i ok j T) : P m d i ok j T :=
  (hd _ (CL2.and (CL2.pre (fun _ _ _ _ _ _ q => q.1) (DER.clo pt h)) hP)).2
/-- five claims as one -/
def pk (A B C D E : Nat → Nat → Bool → Nat → List Int → Prop) : Nat → Nat → Nat → Bool → Nat → List Int → Prop
  | 0 => A
  | 1 => B
  | 2 => C
  | 3 => D
  | _ => E
def cnt (T : List Int) : Nat := T.countP (fun s => decide (0 ≤ s))
theorem cnt_a (T T' : List Int) : cnt (T ++ T') = cnt T + cnt T' := List.countP_append
theorem nots_b (m : Nat) : (nots m).length ≤ m ∧ cnt (nots m) = 0 := by
  unfold nots
  split
  · exact ⟨by show 1 ≤ m; omega, rfl⟩
  · exact ⟨Nat.zero_le _, rfl⟩
/-- how far it reads, how many steps it makes -/
theorem bng_n {h : Nat → Int} {n i m : Nat} (hh : HOK h n) (hb : BNG h i m) (hi : i ≤ n) : i + m ≤ n := by
  cases m with
  | zero => exact hi
  | succ m =>
    have h1 := hb m (by omega)
    have h2 := hh (i + m)
    omega
theorem der_b {pt : Int} {h : Nat → Int} {n : Nat} (hh : HOK h n) {m d i j : Nat} {ok : Bool} {T : List Int} (hd : DER pt h m d i ok j T) : i ≤ n → i ≤ j ∧ j ≤ n ∧ (ok = true → T.length + i ≤ j ∧ 3 * cnt T + i ≤ j) := by
  refine hd (fun _ _ i ok j T => i ≤ n → i ≤ j ∧ j ≤ n ∧ (ok = true → T.length + i ≤ j ∧ 3 * cnt T + i ≤ j)) ?_
  refine ⟨?_, ?_, ?_, ?_, ?_, ?_, ?_, ?_, ?_, ?_, ?_, ?_, ?_, ?_, ?_, ?_⟩
  · intro d m i j s a b c e f hi
    have h1 := CMO_b hh (bng_n hh b hi) f
    have h2 := nots_b m
    refine ⟨by omega, by omega, fun _ => ⟨?_, ?_⟩⟩
    · rw [List.length_append]
      show 1 + _ + _ ≤ _
      omega
    · rw [cnt_a, h2.2]
      have : cnt [s] ≤ 1 := List.countP_le_length
      omega
  · intro d m i j a b c e f hi
    have h1 := CMB_b hh (bng_n hh b hi) f
    exact ⟨by omega, by omega, fun q => absurd q (by decide)⟩
  · intro d m i a b c hi
    have := bng_n hh b hi
    exact ⟨by omega, by omega, fun q => absurd q (by decide)⟩
  · intro d m i j T a b c e hi
    have h1 := bng_n hh b hi
    have h2 := hh (i + m)
    have := e (by omega)
    exact ⟨by omega, by omega, fun q => absurd q (by decide)⟩
  · intro d m i j T a b c e f hi
    have h1 := bng_n hh b hi
    have h2 := hh (i + m)
    have := e (by omega)
    exact ⟨by omega, by omega, fun q => absurd q (by decide)⟩
  · intro d m i j T a b c e f hi
    have h1 := bng_n hh b hi
    have h2 := hh (i + m)
    have h3 := e (by omega)
    have h4 := h3.2.2 rfl
    have h5 := hh j
    have h6 := nots_b m
    refine ⟨by omega, by omega, fun _ => ⟨?_, ?_⟩⟩
    · rw [List.length_append]; omega
    · rw [cnt_a, h6.2]; omega
  · intro d i j T a hi
    have := a hi
    exact ⟨by omega, by omega, fun q => absurd q (by decide)⟩
  · intro d i j T ok j' T' a b hi
    have h1 := a hi
    have h2 := b h1.2.1
    refine ⟨by omega, by omega, fun q => ⟨?_, ?_⟩⟩
    · have := h1.2.2 rfl; have := h2.2.2 q; rw [List.length_append]; omega
    · have := h1.2.2 rfl; have := h2.2.2 q; rw [cnt_a]; omega
  · intro d i a hi
    exact ⟨by omega, by omega, fun _ => ⟨by show 0 + i ≤ i; omega, by show 3 * 0 + i ≤ i; omega⟩⟩
  · intro d i j T a b hi
    have h2 := hh i
    have := b (by omega)
    exact ⟨by omega, by omega, fun q => absurd q (by decide)⟩
  · intro d i j T ok j' T' a b c hi
    have h3 := hh i
    have h1 := b (by omega)
    have h2 := c h1.2.1
    refine ⟨by omega, by omega, fun q => ⟨?_, ?_⟩⟩
    · have := h1.2.2 rfl; have := h2.2.2 q; rw [List.length_append, List.length_cons]; omega
    · have := h1.2.2 rfl; have := h2.2.2 q; rw [cnt_a]; show 3 * (_ + cnt T') + _ ≤ _; omega
  · intro d i j T a hi
    have := a hi
    exact ⟨by omega, by omega, fun q => absurd q (by decide)⟩
  · intro d i j T ok j' T' a b hi
    have h1 := a hi
    have h2 := b h1.2.1
    refine ⟨by omega, by omega, fun q => ⟨?_, ?_⟩⟩
    · have := h1.2.2 rfl; have := h2.2.2 q; rw [List.length_append]; omega
    · have := h1.2.2 rfl; have := h2.2.2 q; rw [cnt_a]; omega
  · intro d i a hi
    exact ⟨by omega, by omega, fun _ => ⟨by show 0 + i ≤ i; omega, by show 3 * 0 + i ≤ i; omega⟩⟩
  · intro d i j T a b hi
    have h2 := hh i
    have := b (by omega)
    exact ⟨by omega, by omega, fun q => absurd q (by decide)⟩
  · intro d i j T ok j' T' a b c hi
    have h3 := hh i
    have h1 := b (by omega)
    have h2 := c h1.2.1
    refine ⟨by omega, by omega, fun q => ⟨?_, ?_⟩⟩
    · have := h1.2.2 rfl; have := h2.2.2 q; rw [List.length_append, List.length_cons]; omega
    · have := h1.2.2 rfl; have := h2.2.2 q; rw [cnt_a]; show 3 * (_ + cnt T') + _ ≤ _; omega
/-! what the steps hold -/
def valU (f : Nat → Int) (m u : Int) : Int := if u - 10000 < 0 then u else if u - 10000 < m then f (u - 10000).toNat else 0
def cmp3 (o a b : Int) : Bool := if o = 0 then decide (a < b) else if o = 1 then decide (a = b) else decide (b < a)
def cmpV (f : Nat → Int) (m s : Int) : Bool := cmp3 (iand s 3) (valU f m (ishr s 16)) (valU f m (iand (ishr s 2) 16383))
def stp (f : Nat → Int) (m s : Int) (st : List Bool) : List Bool := if s < 0 then (if s = -1 then (match st with
    | a :: t => (!a) :: t
    | [] => []) else if s = -2 then (match st with
    | b :: a :: t => (a && b) :: t
    | _ => []) else (match st with
    | b :: a :: t => (a || b) :: t
    | _ => [])) else cmpV f m s :: st
def run (f : Nat → Int) (m : Int) : List Int → List Bool → List Bool
  | [], st => st
  | s :: T, st => run f m T (stp f m s st)
theorem run_a (f : Nat → Int) (m : Int) (T T' : List Int) (st : List Bool) : run f m (T ++ T') st = run f m T' (run f m T st) := by
  induction T generalizing st with
  | nil => rfl
  | cons s T ih => exact ih _
def fl (m : Nat) (v : Bool) : Bool := if m % 2 = 1 then !v else v
theorem run_n (f : Nat → Int) (m : Int) (k : Nat) (v : Bool) (V : List Bool) : run f m (nots k) (v :: V) = fl k v :: V := by
  unfold nots fl
  split <;> rfl
theorem der_v {pt : Int} {h : Nat → Int} {n : Nat} (hh : HOK h n) (f : Nat → Int) (x : Int) {m d i j : Nat} {ok : Bool} {T : List Int} (hd : DER pt h m d i ok j T) : pk (fun _ i ok _ T => i ≤ n → ok = true → ∃ v, ∀ V, run f x T V = v :: V) (fun _ i ok _ T => i ≤ n → ok = true → ∃ v, ∀ V, run f x T V = v :: V) (fun _ i ok _ T => i ≤ n → ok = true → ∀ v, ∃ v', ∀ V, run f x T (v :: V) = v' :: V) (fun _ i ok _ T => i ≤ n → ok = true → ∃ v, ∀ V, run f x T V = v :: V) (fun _ i ok _ T => i ≤ n → ok = true → ∀ v, ∃ v', ∀ V, run f x T (v :: V) = v' :: V) m d i ok j T := by
  refine DER.ind (P := pk (fun _ i ok _ T => i ≤ n → ok = true → ∃ v, ∀ V, run f x T V = v :: V) (fun _ i ok _ T => i ≤ n → ok = true → ∃ v, ∀ V, run f x T V = v :: V) (fun _ i ok _ T => i ≤ n → ok = true → ∀ v, ∃ v', ∀ V, run f x T (v :: V) = v' :: V) (fun _ i ok _ T => i ≤ n → ok = true → ∃ v, ∀ V, run f x T V = v :: V) (fun _ i ok _ T => i ≤ n → ok = true → ∀ v, ∃ v', ∀ V, run f x T (v :: V) = v' :: V)) ?_ hd
  have nf : ∀ {q : Prop}, false = true → q := fun g => absurd g (by decide)
  refine ⟨?_, ?_, ?_, ?_, ?_, ?_, ?_, ?_, ?_, ?_, ?_, ?_, ?_, ?_, ?_, ?_⟩
  · intro d m i j s a b c e g hi _
    have h1 := CMO_b hh (bng_n hh b hi) g
    refine ⟨fl m (cmpV f x s), fun V => ?_⟩
    have e1 : stp f x s V = cmpV f x s :: V := if_neg (by omega)
    rw [run_a]
    show run f x (nots m) (stp f x s V) = _
    rw [e1, run_n]
  · intro d m i j a b c e g hi q; exact nf q
  · intro d m i a b c hi q; exact nf q
  · intro d m i j T a b c e hi q; exact nf q
  · intro d m i j T a b c e g hi q; exact nf q
  · intro d m i j T a b c e g hi _
    have h1 := bng_n hh b hi
    have h2 := hh (i + m)
    obtain ⟨v, hv⟩ := e.2 (by omega) rfl
    exact ⟨fl m v, fun V => by rw [run_a, hv, run_n]⟩
  · intro d i j T a hi q; exact nf q
  · intro d i j T ok j' T' a b hi q
    obtain ⟨v, hv⟩ := a.2 hi rfl
    obtain ⟨v', hv'⟩ := b.2 (der_b hh a.1 hi).2.1 q v
    exact ⟨v', fun V => by rw [run_a, hv, hv']⟩
  · intro d i a hi _ v; exact ⟨v, fun V => rfl⟩
  · intro d i j T a b hi q; exact nf q
  · intro d i j T ok j' T' a b c hi q v
    have h3 := hh i
    obtain ⟨v1, hv⟩ := b.2 (by omega) rfl
    obtain ⟨v', hv'⟩ := c.2 (der_b hh b.1 (by omega)).2.1 q (v && v1)
    refine ⟨v', fun V => ?_⟩
    rw [run_a, hv]
    exact hv' V
  · intro d i j T a hi q; exact nf q
  · intro d i j T ok j' T' a b hi q
    obtain ⟨v, hv⟩ := a.2 hi rfl
    obtain ⟨v', hv'⟩ := b.2 (der_b hh a.1 hi).2.1 q v
    exact ⟨v', fun V => by rw [run_a, hv, hv']⟩
  · intro d i a hi _ v; exact ⟨v, fun V => rfl⟩
  · intro d i j T a b hi q; exact nf q
  · intro d i j T ok j' T' a b c hi q v
    have h3 := hh i
    obtain ⟨v1, hv⟩ := b.2 (by omega) rfl
    obtain ⟨v', hv'⟩ := c.2 (der_b hh b.1 (by omega)).2.1 q (v || v1)
    refine ⟨v', fun V => ?_⟩
    rw [run_a, hv]
    exact hv' V
/-- what a whole text holds -/
def vlF (f : Nat → Int) (m : Int) (T : List Int) : Bool := (run f m T []).headD false
theorem der_r {pt : Int} {h : Nat → Int} {n : Nat} (hh : HOK h n) (f : Nat → Int) (x : Int) {d i j : Nat} {T : List Int} (hd : DER pt h 3 d i true j T) (hi : i ≤ n) (V : List Bool) : run f x T V = vlF f x T :: V := by
  obtain ⟨v, hv⟩ := der_v hh f x hd hi rfl
  unfold vlF
  rw [hv, hv]
  rfl
