/-! plans of nights, without any machine -/
def cgN (x : Nat → Nat) (g : Nat) : Nat → Nat
  | 0 => 0
  | l + 1 => cgN x g l + (if x l = g then 1 else 0)
def brN (x : Nat → Nat) (n : Nat) : Nat → Nat
  | 0 => 0
  | l + 1 => brN x n l + (if x l < n then 1 else 0)
def hrN (x : Nat → Nat) (n : Nat) : Nat → Nat
  | 0 => 0
  | l + 1 => 6 * hrN x n l + (n - x l)
theorem cg_s (x : Nat → Nat) (g l : Nat) : cgN x g (l + 1) = cgN x g l + (if x l = g then 1 else 0) := rfl
theorem brn_s (x : Nat → Nat) (n l : Nat) : brN x n (l + 1) = brN x n l + (if x l < n then 1 else 0) := rfl
theorem hr_s (x : Nat → Nat) (n l : Nat) : hrN x n (l + 1) = 6 * hrN x n l + (n - x l) := rfl
theorem cg_c {x y : Nat → Nat} {l : Nat} (h : ∀ i, i < l → x i = y i) (g : Nat) : cgN x g l = cgN y g l := by
  induction l with
  | zero => rfl
  | succ l ih => rw [cg_s, cg_s, ih (fun i hi => h i (by omega)), h l (by omega)]
theorem brn_c {x y : Nat → Nat} {l : Nat} (h : ∀ i, i < l → x i = y i) (n : Nat) : brN x n l = brN y n l := by
  induction l with
  | zero => rfl
  | succ l ih => rw [brn_s, brn_s, ih (fun i hi => h i (by omega)), h l (by omega)]
theorem hr_c {x y : Nat → Nat} {l : Nat} (h : ∀ i, i < l → x i = y i) (n : Nat) : hrN x n l = hrN y n l := by
  induction l with
  | zero => rfl
  | succ l ih => rw [hr_s, hr_s, ih (fun i hi => h i (by omega)), h l (by omega)]
theorem brn_b (x : Nat → Nat) (n l : Nat) : brN x n l ≤ l := by
  induction l with
  | zero => exact Nat.le_refl _
  | succ l ih => rw [brn_s]; split <;> omega
theorem cg_b (x : Nat → Nat) (g l : Nat) : cgN x g l ≤ l := by
  induction l with
  | zero => exact Nat.le_refl _
  | succ l ih => rw [cg_s]; split <;> omega
theorem cg_m (x : Nat → Nat) (g : Nat) {a b : Nat} (h : a ≤ b) : cgN x g a ≤ cgN x g b := by
  induction h with
  | refl => exact Nat.le_refl _
  | step h ih => rw [cg_s]; omega
theorem hr_b (x : Nat → Nat) {n : Nat} (hn : n ≤ 5) (l : Nat) : hrN x n l < 6 ^ l := by
  induction l with
  | zero => exact show 0 < 1 by decide
  | succ l ih => rw [hr_s, Nat.pow_succ]; omega
theorem hr_i {x y : Nat → Nat} {n : Nat} (hn : n ≤ 5) : ∀ l, (∀ i, i < l → x i ≤ n ∧ y i ≤ n) → hrN x n l = hrN y n l → ∀ i, i < l → x i = y i := by
  intro l
  induction l with
  | zero => intro _ _ i hi; omega
  | succ l ih =>
    intro hb h i hi
    rw [hr_s, hr_s] at h
    have h1 := hb l (by omega)
    by_cases q : i = l
    · rw [q]; omega
    · exact ih (fun i hi => hb i (by omega)) (by omega) i (by omega)
/-- y comes ahead of x -/
def LEX (L : Nat) (y x : Nat → Nat) : Prop := ∃ k, k < L ∧ (∀ i, i < k → y i = x i) ∧ y k < x k
theorem hr_lex {x y : Nat → Nat} {n k : Nat} (hn : n ≤ 5) (h : ∀ i, i < k → y i = x i) (hk : y k < x k) (hx : x k ≤ n) (m : Nat) : hrN x n (k + 1 + m) + 1 ≤ hrN y n (k + 1 + m) := by
  induction m with
  | zero =>
    rw [Nat.add_zero, hr_s, hr_s, hr_c h]
    omega
  | succ m ih =>
    rw [show k + 1 + (m + 1) = (k + 1 + m) + 1 by omega, hr_s, hr_s]
    omega
def VAL (n L : Nat) (x : Nat → Nat) : Nat := 10077696 * brN x n L + 6 ^ (9 - L) * hrN x n L
theorem f69 {L : Nat} (hL : L ≤ 9) : 6 ^ (9 - L) * 6 ^ L = 10077696 := by
  rw [← Nat.pow_add, show 9 - L + L = 9 by omega]
theorem hr_g (x : Nat → Nat) {n L : Nat} (hn : n ≤ 5) (hL : L ≤ 9) : 6 ^ (9 - L) * hrN x n L < 10077696 := by
  rw [← f69 hL]
  exact Nat.mul_lt_mul_of_pos_left (hr_b x hn L) (Nat.pow_pos (by decide))
theorem VAL_lex {x y : Nat → Nat} {n L : Nat} (hn : n ≤ 5) (hL : L ≤ 9) (hx : ∀ i, i < L → x i ≤ n) (hb : brN x n L ≤ brN y n L) (hl : LEX L y x) : VAL n L x ≤ VAL n L y := by
  obtain ⟨k, hk, h1, h2⟩ := hl
  have h3 := hr_lex hn h1 h2 (hx k hk) (L - k - 1)
  rw [show k + 1 + (L - k - 1) = L by omega] at h3
  have h4 : 6 ^ (9 - L) * hrN x n L ≤ 6 ^ (9 - L) * hrN y n L := Nat.mul_le_mul_left _ (by omega)
  unfold VAL
  omega
theorem VAL_br {x y : Nat → Nat} {n L : Nat} (hn : n ≤ 5) (hL : L ≤ 9) (hb : brN x n L < brN y n L) : VAL n L x ≤ VAL n L y := by
  have h1 := hr_g x hn hL
  unfold VAL
  omega
/-- a plan of the lines below l -/
def VLN (cr : Nat → Nat → Bool) (H : Nat → Nat) (n c : Nat) (x : Nat → Nat) (L : Nat) : Prop := ∀ l, l < L → x l ≤ n ∧ (x l < n → cr l (x l) = true ∧ (∀ o, o < l → (H l).testBit o = true → x o ≤ x l) ∧ cgN x (x l) l < c)
def OPT (cr : Nat → Nat → Bool) (H : Nat → Nat) (n c L : Nat) (y : Nat → Nat) : Prop := VLN cr H n c y L ∧ ∀ x, VLN cr H n c x L → VAL n L x ≤ VAL n L y
theorem OPT_u {cr : Nat → Nat → Bool} {H : Nat → Nat} {n c L : Nat} (hn : n ≤ 5) (hL : L ≤ 9) {x y : Nat → Nat} (hx : OPT cr H n c L x) (hy : OPT cr H n c L y) : ∀ i, i < L → x i = y i := by
  have h1 := hx.2 y hy.1
  have h2 := hy.2 x hx.1
  have g1 := hr_g x hn hL
  have g2 := hr_g y hn hL
  have hp : 0 < 6 ^ (9 - L) := Nat.pow_pos (by decide)
  unfold VAL at h1 h2
  have e : 6 ^ (9 - L) * hrN x n L = 6 ^ (9 - L) * hrN y n L := by omega
  have e2 := Nat.eq_of_mul_eq_mul_left hp e
  exact hr_i hn L (fun i hi => ⟨(hx.1 i hi).1, (hy.1 i hi).1⟩) e2
theorem VLN_c {cr : Nat → Nat → Bool} {H : Nat → Nat} {n c l : Nat} {x y : Nat → Nat} (h : ∀ i, i < l → x i = y i) (hx : VLN cr H n c x l) : VLN cr H n c y l := by
  intro i hi
  obtain ⟨h1, h2⟩ := hx i hi
  rw [← h i hi]
  refine ⟨h1, fun h3 => ?_⟩
  obtain ⟨h4, h5, h6⟩ := h2 h3
  refine ⟨h4, fun o ho hb => by rw [← h o (by omega)]; exact h5 o ho hb, ?_⟩
  rw [cg_c (fun q hq => (h q (by omega)).symm)]
  exact h6
theorem VLN_cg {cr : Nat → Nat → Bool} {H : Nat → Nat} {n c L : Nat} {x : Nat → Nat} (h : VLN cr H n c x L) {g : Nat} (hg : g < n) : ∀ l, l ≤ L → cgN x g l ≤ c := by
  intro l
  induction l with
  | zero => intro _; exact Nat.zero_le _
  | succ l ih =>
    intro hl
    have h1 := ih (by omega)
    rw [cg_s]
    by_cases q : x l = g
    · have h2 := (h l (by omega)).2 (by omega)
      rw [q] at h2
      rw [if_pos q]
      omega
    · rw [if_neg q]
      omega
theorem br_sum (x : Nat → Nat) (m L : Nat) : brN x (m + 1) L = brN x m L + cgN x m L := by
  induction L with
  | zero => rfl
  | succ L ih =>
    rw [brn_s, brn_s, cg_s, ih]
    split <;> split <;> split <;> omega
theorem br_0' (x : Nat → Nat) (L : Nat) : brN x 0 L = 0 := by
  induction L with
  | zero => rfl
  | succ L ih => rw [brn_s, ih, if_neg (Nat.not_lt_zero _)]
theorem VLN_nc {cr : Nat → Nat → Bool} {H : Nat → Nat} {n c L : Nat} {x : Nat → Nat} (h : VLN cr H n c x L) {l : Nat} (hl : l ≤ L) : brN x n l ≤ n * c := by
  have key : ∀ m, m ≤ n → brN x m l ≤ m * c := by
    intro m
    induction m with
    | zero => intro _; rw [br_0']; omega
    | succ m ih =>
      intro hm
      have h1 := ih (by omega)
      have h2 := VLN_cg h (show m < n by omega) l hl
      rw [br_sum, Nat.succ_mul]
      omega
  exact key n (Nat.le_refl _)
/-- lines from i on that some night carries -/
def couN (cr : Nat → Nat → Bool) (n L : Nat) : Nat → Nat
  | 0 => 0
  | k + 1 => couN cr n L k + (if exN (fun g => cr (L - 1 - k) g) n = true then 1 else 0)
theorem cou_s (cr : Nat → Nat → Bool) (n L k : Nat) : couN cr n L (k + 1) = couN cr n L k + (if exN (fun g => cr (L - 1 - k) g) n = true then 1 else 0) := rfl
theorem cou_b (cr : Nat → Nat → Bool) (n L k : Nat) : couN cr n L k ≤ k := by
  induction k with
  | zero => exact Nat.le_refl _
  | succ k ih => rw [cou_s]; split <;> omega
theorem ex_i {P : Nat → Bool} {i n : Nat} (h : P i = true) (hi : i < n) : exN P n = true := by
  have : exN P (i + 1) = true := by rw [ex_s, h, Bool.or_true]
  exact ex_m this hi
theorem VLN_cou {cr : Nat → Nat → Bool} {H : Nat → Nat} {n c L : Nat} {x : Nat → Nat} (h : VLN cr H n c x L) : ∀ k, k ≤ L → brN x n L ≤ brN x n (L - k) + couN cr n L k := by
  intro k
  induction k with
  | zero => intro _; exact Nat.le_refl _
  | succ k ih =>
    intro hk
    have h1 := ih (by omega)
    rw [show L - k = (L - (k + 1)) + 1 by omega, brn_s] at h1
    rw [cou_s, show L - 1 - k = L - (k + 1) by omega]
    by_cases q : x (L - (k + 1)) < n
    · have h2 := ((h (L - (k + 1)) (by omega)).2 q).1
      rw [if_pos q] at h1
      rw [if_pos (ex_i (P := fun g => cr (L - (k + 1)) g) h2 q)]
      omega
    · rw [if_neg q] at h1
      omega
/-- the plan with l on night g -/
def upP (p : Nat → Nat) (l g i : Nat) : Nat := if i = l then g else p i
theorem upP_o {p : Nat → Nat} {l g : Nat} : ∀ i, i < l → upP p l g i = p i := fun i hi => by unfold upP; rw [if_neg (by omega)]
theorem upP_l (p : Nat → Nat) (l g : Nat) : upP p l g l = g := if_pos rfl
/-- l may be on night g -/
def MBN (cr : Nat → Nat → Bool) (H : Nat → Nat) (n c : Nat) (p : Nat → Nat) (l g : Nat) : Prop := g = n ∨ (cr l g = true ∧ cgN p g l < c ∧ ∀ o, o < l → (H l).testBit o = true → p o ≤ g)
theorem VLN_up {cr : Nat → Nat → Bool} {H : Nat → Nat} {n c l g : Nat} {p : Nat → Nat} (h : VLN cr H n c p l) (hg : g ≤ n) (hm : MBN cr H n c p l g) : VLN cr H n c (upP p l g) (l + 1) := by
  intro i hi
  by_cases q : i = l
  · subst q
    rw [upP_l]
    refine ⟨hg, fun h1 => ?_⟩
    rcases hm with hm | ⟨h2, h3, h4⟩
    · omega
    · refine ⟨h2, fun o ho hb => by rw [upP_o o ho]; exact h4 o ho hb, ?_⟩
      rw [cg_c upP_o]
      exact h3
  · exact VLN_c (fun j hj => (upP_o j hj).symm) h i (by omega)
theorem VLN_mb {cr : Nat → Nat → Bool} {H : Nat → Nat} {n c L l : Nat} {x p : Nat → Nat} (h : VLN cr H n c x L) (hl : l < L) (hp : ∀ i, i < l → x i = p i) : MBN cr H n c p l (x l) := by
  obtain ⟨h1, h2⟩ := h l hl
  rcases Nat.lt_or_ge (x l) n with q | q
  · obtain ⟨h3, h4, h5⟩ := h2 q
    refine Or.inr ⟨h3, ?_, fun o ho hb => by rw [← hp o ho]; exact h4 o ho hb⟩
    rw [← cg_c hp]
    exact h5
  · exact Or.inl (by omega)
theorem VLN_none (cr : Nat → Nat → Bool) (H : Nat → Nat) (n c L : Nat) : VLN cr H n c (fun _ => n) L := fun l _ => ⟨Nat.le_refl _, fun h => absurd h (Nat.lt_irrefl _)⟩
