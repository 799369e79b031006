/-! nights by sets, without any machine -/
def stP (P : Nat → Bool) : Nat → Nat
  | 0 => 0
  | n + 1 => if P n = true then stP P n ||| 2 ^ n else stP P n
theorem stP_b (P : Nat → Bool) (n : Nat) : stP P n < 2 ^ n ∧ ∀ s, (stP P n).testBit s = (decide (s < n) && P s) := by
  induction n with
  | zero => exact ⟨show (0 : Nat) < 1 by decide, fun s => by rw [show stP P 0 = 0 from rfl, Nat.zero_testBit, decide_eq_false (Nat.not_lt_zero s)]; rfl⟩
  | succ n ih =>
    have hp : 2 ^ (n + 1) = 2 ^ n * 2 := Nat.pow_succ ..
    have hs : stP P (n + 1) = if P n = true then stP P n ||| 2 ^ n else stP P n := rfl
    rw [hs]
    by_cases q : P n = true
    · rw [if_pos q]
      refine ⟨Nat.or_lt_two_pow (by omega) (by omega), fun s => ?_⟩
      rw [or_t, ih.2 s]
      by_cases e : s = n
      · rw [e, q, decide_eq_true rfl, Bool.or_true, decide_eq_true (Nat.lt_succ_self n)]
        rfl
      · rw [decide_eq_false (show ¬ n = s by omega), Bool.or_false]
        by_cases g : s < n
        · rw [decide_eq_true g, decide_eq_true (show s < n + 1 by omega)]
        · rw [decide_eq_false g, decide_eq_false (show ¬ s < n + 1 by omega)]
    · rw [if_neg q]
      refine ⟨by omega, fun s => ?_⟩
      rw [ih.2 s]
      by_cases e : s = n
      · have : P s = false := by rw [e]; simpa using q
        rw [this, Bool.and_false, Bool.and_false]
      · by_cases g : s < n
        · rw [decide_eq_true g, decide_eq_true (show s < n + 1 by omega)]
        · rw [decide_eq_false g, decide_eq_false (show ¬ s < n + 1 by omega)]
def pcN (z : Nat) : Nat := cbN (fun i => z.testBit i) 9
def rpN (P : Nat → Bool) : Nat → Nat
  | 0 => 0
  | n + 1 => rpN P n + (if P n = true then 6 ^ (8 - n) else 0)
theorem rp_s (P : Nat → Bool) (n : Nat) : rpN P (n + 1) = rpN P n + (if P n = true then 6 ^ (8 - n) else 0) := rfl
def rnN (z : Nat) : Nat := rpN (fun i => z.testBit i) 9
theorem rp_c {P P' : Nat → Bool} {n : Nat} (h : ∀ s, s < n → P s = P' s) : rpN P n = rpN P' n := by
  induction n with
  | zero => rfl
  | succ n ih => rw [rp_s, rp_s, ih (fun s hs => h s (by omega)), h n (by omega)]
theorem cb_hi {P : Nat → Bool} {n m : Nat} (h : ∀ s, n ≤ s → P s = false) (hm : n ≤ m) : cbN P m = cbN P n := by
  induction hm with
  | refl => rfl
  | @step m hm ih => rw [cb_s, ih, h m hm, if_neg (by decide)]; rfl
theorem rp_hi {P : Nat → Bool} {n m : Nat} (h : ∀ s, n ≤ s → P s = false) (hm : n ≤ m) : rpN P m = rpN P n := by
  induction hm with
  | refl => rfl
  | @step m hm ih => rw [rp_s, ih, h m hm, if_neg (by decide)]; rfl
theorem rp_b (P : Nat → Bool) (n : Nat) : rpN P n ≤ cbN P n * 6 ^ 8 := by
  induction n with
  | zero => exact Nat.zero_le _
  | succ n ih =>
    rw [rp_s, cb_s]
    split
    · have : 6 ^ (8 - n) ≤ 6 ^ 8 := Nat.pow_le_pow_right (by decide) (by omega)
      rw [Nat.add_mul]
      omega
    · exact ih
theorem pc_st {P : Nat → Bool} {L : Nat} (hL : L ≤ 9) : pcN (stP P L) = cbN P L ∧ rnN (stP P L) = rpN P L := by
  have h := (stP_b P L).2
  have hz : ∀ s, L ≤ s → (stP P L).testBit s = false := fun s hs => by rw [h s, decide_eq_false (by omega)]; rfl
  have hl : ∀ s, s < L → (stP P L).testBit s = P s := fun s hs => by rw [h s, decide_eq_true hs]; rfl
  unfold pcN rnN
  rw [cb_hi (P := fun i => (stP P L).testBit i) hz hL, rp_hi (P := fun i => (stP P L).testBit i) hz hL]
  exact ⟨cb_c hl, rp_c hl⟩
/-- what a plan counts from night g on -/
def WgN (x : Nat → Nat) (n g : Nat) : Nat → Nat
  | 0 => 0
  | l + 1 => WgN x n g l + (if g ≤ x l ∧ x l < n then 10077696 + (n - x l) * 6 ^ (8 - l) else 0)
theorem Wg_s (x : Nat → Nat) (n g l : Nat) : WgN x n g (l + 1) = WgN x n g l + (if g ≤ x l ∧ x l < n then 10077696 + (n - x l) * 6 ^ (8 - l) else 0) := rfl
theorem Wg_n (x : Nat → Nat) (n L : Nat) : WgN x n n L = 0 := by
  induction L with
  | zero => rfl
  | succ L ih => rw [Wg_s, ih, if_neg (by omega)]
theorem Wg_g (x : Nat → Nat) {n g : Nat} (hg : g < n) (L : Nat) : WgN x n g L = WgN x n (g + 1) L + (cbN (fun l => decide (x l = g)) L * 10077696 + (n - g) * rpN (fun l => decide (x l = g)) L) := by
  induction L with
  | zero =>
    show 0 = 0 + (0 * 10077696 + (n - g) * 0)
    omega
  | succ L ih =>
    rw [Wg_s, Wg_s, cb_s, rp_s, ih, Nat.add_mul, Nat.mul_add]
    by_cases q : x L = g
    · rw [decide_eq_true q, if_pos (show g ≤ x L ∧ x L < n by omega), if_neg (show ¬ (g + 1 ≤ x L ∧ x L < n) by omega), if_pos rfl, if_pos rfl, q]
      omega
    · rw [decide_eq_false q, if_neg (show ¬ false = true by decide), if_neg (show ¬ false = true by decide), Nat.mul_zero, Nat.zero_mul]
      by_cases r : g ≤ x L ∧ x L < n
      · rw [if_pos r, if_pos (show g + 1 ≤ x L ∧ x L < n by omega)]
        omega
      · rw [if_neg r, if_neg (show ¬ (g + 1 ≤ x L ∧ x L < n) by omega)]
        omega
theorem Wg_0 (x : Nat → Nat) {n : Nat} : ∀ {L : Nat}, L ≤ 9 → WgN x n 0 L = VAL n L x := by
  intro L
  unfold VAL
  induction L with
  | zero =>
    intro _
    show 0 = 10077696 * 0 + 6 ^ (9 - 0) * 0
    omega
  | succ L ih =>
    intro hL
    have h := ih (by omega)
    have e : 6 ^ (9 - L) = 6 * 6 ^ (9 - (L + 1)) := by
      rw [show 9 - L = (9 - (L + 1)) + 1 by omega, Nat.pow_succ, Nat.mul_comm]
    have e2 : 6 ^ (8 - L) = 6 ^ (9 - (L + 1)) := by rw [show 8 - L = 9 - (L + 1) by omega]
    rw [Wg_s, h, brn_s, hr_s, e, e2]
    generalize 6 ^ (9 - (L + 1)) = F
    have e3 : F * (6 * hrN x n L + (n - x L)) = 6 * F * hrN x n L + (n - x L) * F := by
      rw [Nat.mul_add, Nat.mul_comm F (n - x L), ← Nat.mul_assoc, Nat.mul_comm F 6]
    rw [e3]
    by_cases q : x L < n
    · rw [if_pos ⟨Nat.zero_le _, q⟩, if_pos q]
      omega
    · rw [if_neg (fun z => q z.2), if_neg q, show n - x L = 0 by omega, Nat.zero_mul]
      omega
/-- s may come on night g when A is ahead -/
def FEA (cf : Nat → Nat) (H : Nat → Nat) (c g A s : Nat) : Prop := (∀ i, s.testBit i = true → (cf g).testBit i = true ∧ A.testBit i = false) ∧ pcN s ≤ c ∧ ∀ i o, s.testBit i = true → (H i).testBit o = true → A.testBit o = true ∨ s.testBit o = true
/-- what s counts on night g -/
def svN (n g s : Nat) : Nat := pcN s * 10077696 + (n - g) * rnN s
def SUB (A B : Nat) : Prop := ∀ i, A.testBit i = true → B.testBit i = true
/-- lines that nights ahead of g carry -/
def caN (cf : Nat → Nat) : Nat → Nat
  | 0 => 0
  | g + 1 => caN cf g ||| cf g
theorem ca_i {cf : Nat → Nat} {g g' i : Nat} (h : (cf g').testBit i = true) (hg : g' < g) : (caN cf g).testBit i = true := by
  induction g with
  | zero => omega
  | succ g ih =>
    show (caN cf g ||| cf g).testBit i = true
    rw [Nat.testBit_or, Bool.or_eq_true]
    by_cases e : g' = g
    · rw [← e]; exact Or.inr h
    · exact Or.inl (ih (by omega))
/-- the values v and picks k are the best of night g -/
def DPR (cf : Nat → Nat) (H : Nat → Nat) (n c : Nat) (v k : Nat → Nat → Nat) (g A : Nat) : Prop := FEA cf H c g A (k g A) ∧ v g A = v (g + 1) (A ||| k g A) + svN n g (k g A) ∧ ∀ s, FEA cf H c g A s → v (g + 1) (A ||| s) + svN n g s ≤ v g A
section
variable {cf H : Nat → Nat} {cr : Nat → Nat → Bool} {n c L : Nat} {v k : Nat → Nat → Nat}
/-- lines ahead of g in a plan -/
def agN (x : Nat → Nat) (g L : Nat) : Nat := stP (fun l => decide (x l < g)) L
def sgN (x : Nat → Nat) (g L : Nat) : Nat := stP (fun l => decide (x l = g)) L
theorem ag_s (x : Nat → Nat) (g L : Nat) : agN x g L ||| sgN x g L = agN x (g + 1) L := by
  apply Nat.eq_of_testBit_eq
  intro i
  unfold agN sgN
  rw [Nat.testBit_or, (stP_b _ L).2, (stP_b _ L).2, (stP_b _ L).2, ← Bool.and_or_distrib_left]
  congr 1
  by_cases e : x i = g
  · rw [decide_eq_true e, Bool.or_true, decide_eq_true (by omega)]
  · rw [decide_eq_false e, Bool.or_false]
    by_cases q : x i < g
    · rw [decide_eq_true q, decide_eq_true (by omega)]
    · rw [decide_eq_false q, decide_eq_false (by omega)]
theorem cg_cb (x : Nat → Nat) (g : Nat) : ∀ m, cgN x g m = cbN (fun l => decide (x l = g)) m := by
  intro m
  induction m with
  | zero => rfl
  | succ m ih =>
    rw [cg_s, cb_s, ih]
    by_cases q : x m = g
    · rw [if_pos q, decide_eq_true q, if_pos rfl]
    · rw [if_neg q, decide_eq_false q, if_neg (by decide)]
theorem dp_up (hL : L ≤ 9) (hcf : ∀ g, g < n → ∀ i, (cf g).testBit i = (decide (i < L) && cr i g)) (hH : ∀ i o, (H i).testBit o = true → o < i) (hd : ∀ g, g < n → ∀ A, A < 512 → SUB A (caN cf g) → DPR cf H n c v k g A) {x : Nat → Nat} (hx : VLN cr H n c x L) : ∀ m, m ≤ n → WgN x n (n - m) L ≤ v (n - m) (agN x (n - m) L) := by
  intro m
  induction m with
  | zero =>
    intro _
    rw [Nat.sub_zero, Wg_n]
    exact Nat.zero_le _
  | succ m ih =>
    intro hm
    have h := ih (by omega)
    generalize hg : n - (m + 1) = g
    have hg1 : n - m = g + 1 := by omega
    have hgn : g < n := by omega
    rw [hg1] at h
    have h512 : agN x g L < 512 := Nat.lt_of_lt_of_le (stP_b _ L).1 (Nat.pow_le_pow_right (n := 2) (by decide) hL)
    have hsub : SUB (agN x g L) (caN cf g) := by
      intro i hi
      unfold agN at hi
      rw [(stP_b _ L).2, Bool.and_eq_true, decide_eq_true_eq, decide_eq_true_eq] at hi
      have := (hx i hi.1).2 (by omega)
      refine ca_i (g' := x i) ?_ hi.2
      rw [hcf _ (by omega), decide_eq_true hi.1, this.1]
      rfl
    have hf : FEA cf H c g (agN x g L) (sgN x g L) := by
      refine ⟨fun i hi => ?_, ?_, fun i o hi ho => ?_⟩
      · unfold sgN at hi
        rw [(stP_b _ L).2, Bool.and_eq_true, decide_eq_true_eq, decide_eq_true_eq] at hi
        have := (hx i hi.1).2 (by omega)
        refine ⟨?_, ?_⟩
        · rw [hcf _ hgn, decide_eq_true hi.1, ← hi.2, this.1]
          rfl
        · unfold agN
          rw [(stP_b _ L).2, hi.2, decide_eq_false (Nat.lt_irrefl g), Bool.and_false]
      · unfold sgN
        rw [(pc_st hL).1]
        have := VLN_cg hx hgn L (Nat.le_refl _)
        rw [← cg_cb x g L]
        exact this
      · unfold sgN at hi
        rw [(stP_b _ L).2, Bool.and_eq_true, decide_eq_true_eq, decide_eq_true_eq] at hi
        have h2 := (hx i hi.1).2 (by omega)
        have ho2 := hH i o ho
        have h3 := h2.2.1 o ho2 ho
        unfold agN sgN
        rw [(stP_b _ L).2, (stP_b _ L).2, decide_eq_true (show o < L by omega), Bool.true_and, Bool.true_and, decide_eq_true_eq, decide_eq_true_eq]
        omega
    have h1 := (hd g hgn _ h512 hsub).2.2 _ hf
    rw [ag_s] at h1
    have h2 := Wg_g x hgn L
    have h3 := pc_st (P := fun l => decide (x l = g)) hL
    unfold svN sgN at h1
    rw [h3.1, h3.2] at h1
    omega
/-- the sets that the picks bring ahead of night g -/
def aheN (k : Nat → Nat → Nat) : Nat → Nat
  | 0 => 0
  | g + 1 => aheN k g ||| k g (aheN k g)
/-- the plan that the first g picks make -/
def plaN (k : Nat → Nat → Nat) (n : Nat) : Nat → Nat → Nat
  | 0 => fun _ => n
  | g + 1 => fun l => if (k g (aheN k g)).testBit l = true then g else plaN k n g l
theorem pla_s (k : Nat → Nat → Nat) (n g l : Nat) : plaN k n (g + 1) l = if (k g (aheN k g)).testBit l = true then g else plaN k n g l := rfl
theorem ahe_ok (hcf9 : ∀ g, g < n → cf g < 512) (hd : ∀ g, g < n → ∀ A, A < 512 → SUB A (caN cf g) → DPR cf H n c v k g A) : ∀ g, g ≤ n → aheN k g < 512 ∧ SUB (aheN k g) (caN cf g) ∧ (∀ l, (aheN k g).testBit l = true ↔ plaN k n g l < g) ∧ (∀ l, plaN k n g l < g ∨ plaN k n g l = n) := by
  intro g
  induction g with
  | zero => intro _; exact ⟨show (0 : Nat) < 512 by decide, fun i hi => absurd hi (by rw [show aheN k 0 = 0 from rfl, Nat.zero_testBit]; decide), fun l => ⟨fun z => absurd z (by rw [show aheN k 0 = 0 from rfl, Nat.zero_testBit]; decide), fun z => absurd z (Nat.not_lt_zero _)⟩, fun l => Or.inr rfl⟩
  | succ g ih =>
    intro hg
    obtain ⟨h1, h2, h3, h4⟩ := ih (by omega)
    have hf := (hd g (by omega) _ h1 h2).1
    have hk : k g (aheN k g) < 512 := by
      apply Nat.lt_of_not_le
      intro z
      obtain ⟨i, hi, ht⟩ := Nat.exists_ge_and_testBit_of_ge_two_pow (n := 9) z
      have := (hf.1 i ht).1
      rw [Nat.testBit_lt_two_pow (Nat.lt_of_lt_of_le (hcf9 g (by omega)) (Nat.pow_le_pow_right (n := 2) (by decide) hi))] at this
      exact absurd this (by decide)
    refine ⟨Nat.or_lt_two_pow (n := 9) h1 hk, fun i hi => ?_, fun l => ?_, fun l => ?_⟩
    · have hi2 : (aheN k g ||| k g (aheN k g)).testBit i = true := hi
      rw [Nat.testBit_or, Bool.or_eq_true] at hi2
      show (caN cf g ||| cf g).testBit i = true
      rw [Nat.testBit_or, Bool.or_eq_true]
      rcases hi2 with z | z
      · exact Or.inl (h2 i z)
      · exact Or.inr (hf.1 i z).1
    · show (aheN k g ||| k g (aheN k g)).testBit l = true ↔ _
      rw [Nat.testBit_or, Bool.or_eq_true, pla_s]
      by_cases q : (k g (aheN k g)).testBit l = true
      · rw [if_pos q]
        exact ⟨fun _ => by omega, fun _ => Or.inr q⟩
      · rw [if_neg q]
        have := h4 l
        constructor
        · rintro (z | z)
          · have := (h3 l).1 z; omega
          · exact absurd z q
        · intro z
          exact Or.inl ((h3 l).2 (by omega))
    · rw [pla_s]
      have := h4 l
      split <;> omega
/-- the picks' plan is the best -/
theorem dp_opt (hL : L ≤ 9) (hn5 : n ≤ 5) (hcf : ∀ g, g < n → ∀ i, (cf g).testBit i = (decide (i < L) && cr i g)) (hcf9 : ∀ g, g < n → cf g < 512) (hH : ∀ i o, (H i).testBit o = true → o < i) (hd : ∀ g, g < n → ∀ A, A < 512 → SUB A (caN cf g) → DPR cf H n c v k g A) (hv : ∀ A, A < 512 → v n A = 0) : OPT cr H n c L (plaN k n n) := by
  have ha := ahe_ok hcf9 hd
  -- a line brought stays where it is
  have stay : ∀ l g m, g + m ≤ n → plaN k n g l < g → plaN k n (g + m) l = plaN k n g l := by
    intro l g m
    induction m with
    | zero => intro _ _; rfl
    | succ m ih =>
      intro hm hl
      have h1 := ih (by omega) hl
      rw [show g + (m + 1) = (g + m) + 1 by omega, pla_s]
      obtain ⟨a1, a2, a3, a4⟩ := ha (g + m) (by omega)
      have hf := (hd (g + m) (by omega) _ a1 a2).1
      have ht : (aheN k (g + m)).testBit l = true := (a3 l).2 (by omega)
      by_cases q : (k (g + m) (aheN k (g + m))).testBit l = true
      · have := (hf.1 l q).2
        rw [ht] at this
        exact absurd this (by decide)
      · rw [if_neg q]
        exact h1
  have fin : ∀ l g, g < n → ((k g (aheN k g)).testBit l = true ↔ plaN k n n l = g) := by
    intro l g hg
    have h1 : plaN k n (g + 1) l = if (k g (aheN k g)).testBit l = true then g else plaN k n g l := pla_s k n g l
    obtain ⟨a1, a2, a3, a4⟩ := ha g (by omega)
    have h4 := a4 l
    constructor
    · intro q
      rw [if_pos q] at h1
      have := stay l (g + 1) (n - (g + 1)) (by omega) (by omega)
      rw [show g + 1 + (n - (g + 1)) = n by omega] at this
      omega
    · intro q
      by_cases z : (k g (aheN k g)).testBit l = true
      · exact z
      · exfalso
        rw [if_neg z] at h1
        rcases h4 with h4 | h4
        · have := stay l g (n - g) (by omega) h4
          rw [show g + (n - g) = n by omega] at this
          omega
        · -- not brought up to g + 1, and on g in the end: later nights only
          have later : ∀ m, g + 1 + m ≤ n → plaN k n (g + 1 + m) l = n ∨ g + 1 ≤ plaN k n (g + 1 + m) l := by
            intro m
            induction m with
            | zero => intro _; exact Or.inl (by rw [Nat.add_zero, h1]; exact h4)
            | succ m ih =>
              intro hm
              have := ih (by omega)
              rw [show g + 1 + (m + 1) = (g + 1 + m) + 1 by omega, pla_s]
              split
              · exact Or.inr (by omega)
              · exact this
          have := later (n - (g + 1)) (by omega)
          rw [show g + 1 + (n - (g + 1)) = n by omega] at this
          omega
  have bits : ∀ g, g ≤ n → ∀ l, ((aheN k g).testBit l = true ↔ plaN k n n l < g) := by
    intro g hg l
    obtain ⟨a1, a2, a3, a4⟩ := ha g hg
    rw [a3 l]
    have h4 := a4 l
    constructor
    · intro q
      have := stay l g (n - g) (by omega) q
      rw [show g + (n - g) = n by omega] at this
      omega
    · intro q
      by_cases z : plaN k n g l < g
      · exact z
      · exfalso
        have e : (k (plaN k n n l) (aheN k (plaN k n n l))).testBit l = true := (fin l _ (by omega)).2 rfl
        have h5 : plaN k n (plaN k n n l + 1) l = plaN k n n l := by rw [pla_s, if_pos e]
        have := stay l (plaN k n n l + 1) (g - (plaN k n n l + 1)) (by omega) (by omega)
        rw [show plaN k n n l + 1 + (g - (plaN k n n l + 1)) = g by omega] at this
        omega
  have inL : ∀ l g, g < n → plaN k n n l = g → l < L ∧ cr l g = true := by
    intro l g hg hl
    obtain ⟨a1, a2, a3, a4⟩ := ha g (by omega)
    have hf := (hd g hg _ a1 a2).1
    have := (hf.1 l ((fin l g hg).2 hl)).1
    rw [hcf g hg, Bool.and_eq_true, decide_eq_true_eq] at this
    exact this
  have eqA : ∀ g, g ≤ n → aheN k g = agN (plaN k n n) g L := by
    intro g hg
    apply Nat.eq_of_testBit_eq
    intro i
    unfold agN
    rw [(stP_b _ L).2, Bool.eq_iff_iff, bits g hg i, Bool.and_eq_true, decide_eq_true_eq, decide_eq_true_eq]
    exact ⟨fun q => ⟨(inL i _ (by omega) rfl).1, q⟩, fun q => q.2⟩
  have eqS : ∀ g, g < n → k g (aheN k g) = sgN (plaN k n n) g L := by
    intro g hg
    apply Nat.eq_of_testBit_eq
    intro i
    unfold sgN
    rw [(stP_b _ L).2, Bool.eq_iff_iff, fin i g hg, Bool.and_eq_true, decide_eq_true_eq, decide_eq_true_eq]
    exact ⟨fun q => ⟨(inL i g hg q).1, q⟩, fun q => q.2⟩
  have pcs : ∀ g, g < n → ∀ l, l ≤ L → cgN (plaN k n n) g l ≤ pcN (k g (aheN k g)) := by
    intro g hg l hl
    rw [eqS g hg]
    unfold sgN
    rw [(pc_st hL).1]
    rw [cg_cb _ g l]
    exact cb_m _ hl
  refine ⟨fun l hl => ?_, fun x hx => ?_⟩
  · have h4 := (ha n (Nat.le_refl _)).2.2.2 l
    refine ⟨by omega, fun hln => ?_⟩
    have hg := hln
    obtain ⟨a1, a2, a3, a4⟩ := ha (plaN k n n l) (by omega)
    have hf := (hd _ hg _ a1 a2).1
    have hbit := (fin l _ hg).2 rfl
    refine ⟨(inL l _ hg rfl).2, fun o ho hb => ?_, ?_⟩
    · rcases hf.2.2 l o hbit hb with z | z
      · have := (bits _ (by omega) o).1 z
        omega
      · have := (fin o _ hg).1 z
        omega
    · have h5 := pcs _ hg (l + 1) (by omega)
      rw [cg_s, if_pos rfl] at h5
      have h6 := hf.2.1
      omega
  · have h1 := dp_up hL hcf hH hd hx n (Nat.le_refl _)
    rw [Nat.sub_self, Wg_0 x hL] at h1
    have h2 : ∀ m, m ≤ n → WgN (plaN k n n) n (n - m) L = v (n - m) (aheN k (n - m)) := by
      intro m
      induction m with
      | zero =>
        intro _
        rw [Nat.sub_zero, Wg_n, hv _ (ha n (Nat.le_refl _)).1]
      | succ m ih =>
        intro hm
        have h := ih (by omega)
        generalize hg : n - (m + 1) = g
        have hg1 : n - m = g + 1 := by omega
        rw [hg1] at h
        obtain ⟨a1, a2, _, _⟩ := ha g (by omega)
        have h3 := (hd g (by omega) _ a1 a2).2.1
        have h4 := Wg_g (plaN k n n) (show g < n by omega) L
        have h5 := pc_st (P := fun l => decide (plaN k n n l = g)) hL
        rw [h3, h4, h]
        show v (g + 1) (aheN k g ||| k g (aheN k g)) + _ = _
        unfold svN
        have e := eqS g (by omega)
        unfold sgN at e
        rw [e, h5.1, h5.2]
    have h3 := h2 n (Nat.le_refl _)
    rw [Nat.sub_self, Wg_0 _ hL] at h3
    rw [h3, show aheN k 0 = agN x 0 L from ?_]
    · exact h1
    · apply Nat.eq_of_testBit_eq
      intro i
      unfold agN
      rw [(stP_b _ L).2, decide_eq_false (Nat.not_lt_zero _), Bool.and_false]
      exact Nat.zero_testBit i
end
