/-! elect -/
/-- the side with the most votes (1 at least) that is not in x, -9 none -/
def soN (v : Nat → Int) (x : Nat) : Nat → Int
  | 0 => -9
  | n + 1 => if x.testBit n = false ∧ (if soN v x n < 0 then 0 else v (soN v x n).toNat) < v n then (n : Int) else soN v x n
theorem so_s (v : Nat → Int) (x n : Nat) : soN v x (n + 1) = if x.testBit n = false ∧ (if soN v x n < 0 then 0 else v (soN v x n).toNat) < v n then (n : Int) else soN v x n := rfl
theorem so_b (v : Nat → Int) (x n : Nat) : (soN v x n = -9 ∧ ∀ t, t < n → x.testBit t = false → v t ≤ 0) ∨ (0 ≤ soN v x n ∧ soN v x n < n ∧ x.testBit (soN v x n).toNat = false ∧ 0 < v (soN v x n).toNat ∧ ∀ t, t < n → x.testBit t = false → v t ≤ v (soN v x n).toNat) := by
  induction n with
  | zero => exact Or.inl ⟨rfl, fun t h => absurd h (Nat.not_lt_zero t)⟩
  | succ n ih =>
    rw [so_s]
    by_cases q : x.testBit n = false ∧ (if soN v x n < 0 then 0 else v (soN v x n).toNat) < v n
    · rw [if_pos q, tn]
      refine Or.inr ⟨by omega, by omega, q.1, ?_, fun t h1 h2 => ?_⟩
      · rcases ih with ⟨h, _⟩ | ⟨h, _, _, h3, _⟩
        · have := q.2
          rw [if_pos (by omega)] at this
          exact this
        · have := q.2
          rw [if_neg (by omega)] at this
          omega
      · by_cases e : t = n
        · rw [e]
          exact Int.le_refl _
        · rcases ih with ⟨h, h4⟩ | ⟨h, _, _, h3, h4⟩
          · have h5 := h4 t (by omega) h2
            have := q.2
            rw [if_pos (by omega)] at this
            omega
          · have h5 := h4 t (by omega) h2
            have := q.2
            rw [if_neg (by omega)] at this
            omega
    · rw [if_neg q]
      rcases ih with ⟨h, h4⟩ | ⟨h, h5, h6, h3, h4⟩
      · refine Or.inl ⟨h, fun t h1 h2 => ?_⟩
        by_cases e : t = n
        · subst e
          rw [if_pos (show soN v x t < 0 by omega)] at q
          rcases Int.lt_or_le 0 (v t) with g | g
          · exact absurd ⟨h2, g⟩ q
          · exact g
        · exact h4 t (by omega) h2
      · refine Or.inr ⟨h, by omega, h6, h3, fun t h1 h2 => ?_⟩
        by_cases e : t = n
        · subst e
          rw [if_neg (show ¬ soN v x t < 0 by omega)] at q
          rcases Int.lt_or_le (v (soN v x t).toNat) (v t) with g | g
          · exact absurd ⟨h2, g⟩ q
          · exact g
        · exact h4 t (by omega) h2
/-- the sides that are in after i have been taken -/
def siN (v : Nat → Int) : Nat → Nat
  | 0 => 0
  | i + 1 => if soN v (siN v i) 4 < 0 then siN v i else siN v i ||| 2 ^ (soN v (siN v i) 4).toNat
/-- the last that was taken, -1 none -/
def laN (v : Nat → Int) : Nat → Int
  | 0 => -1
  | i + 1 => if soN v (siN v i) 4 < 0 then laN v i else soN v (siN v i) 4
theorem si_s (v : Nat → Int) (i : Nat) : siN v (i + 1) = if soN v (siN v i) 4 < 0 then siN v i else siN v i ||| 2 ^ (soN v (siN v i) 4).toNat := rfl
theorem la_s (v : Nat → Int) (i : Nat) : laN v (i + 1) = if soN v (siN v i) 4 < 0 then laN v i else soN v (siN v i) 4 := rfl
theorem or_t (x b t : Nat) : (x ||| 2 ^ b).testBit t = (x.testBit t || decide (b = t)) := by
  rw [Nat.testBit_or, Nat.testBit_two_pow]
theorem si_16 (v : Nat → Int) (i : Nat) : siN v i < 16 := by
  induction i with
  | zero => show 0 < 16; omega
  | succ i ih =>
    rw [si_s]
    split
    · exact ih
    · have h := so_b v (siN v i) 4
      have h2 : 2 ^ (soN v (siN v i) 4).toNat < 2 ^ 4 := Nat.pow_lt_pow_right (by decide) (by omega)
      exact Nat.or_lt_two_pow (n := 4) ih h2
theorem pop_or (x b n : Nat) (h : x.testBit b = false) : pop (x ||| 2 ^ b) n = pop x n + (if b < n then 1 else 0) := by
  induction n with
  | zero => rfl
  | succ n ih =>
    rw [pop_s, pop_s, ih, or_t]
    by_cases q : b = n
    · subst q
      have e1 : (if b < b then (1 : Int) else 0) = 0 := if_neg (Nat.lt_irrefl b)
      have e2 : (if b < b + 1 then (1 : Int) else 0) = 1 := if_pos (Nat.lt_succ_self b)
      rw [h, e1, e2, decide_eq_true rfl]
      simp
    · rw [decide_eq_false q, Bool.or_false]
      split <;> split <;> split <;> omega
theorem pop_full {x n : Nat} (h : pop x n = n) : ∀ t, t < n → x.testBit t = true := by
  induction n with
  | zero => intro t ht; omega
  | succ n ih =>
    have hb := pop_b x n
    rw [pop_s] at h
    have h2 : x.testBit n = true := by
      cases hx : x.testBit n
      · rw [hx, if_neg (by decide)] at h
        omega
      · rfl
    rw [if_pos h2] at h
    intro t ht
    by_cases e : t = n
    · rw [e]; exact h2
    · exact ih (by omega) t (by omega)
/-- all taken so far were there, or none is left -/
theorem si_full (v : Nat → Int) (i : Nat) : pop (siN v i) 4 = i ∨ soN v (siN v i) 4 < 0 := by
  induction i with
  | zero => exact Or.inl (pop_0 4)
  | succ i ih =>
    have h := so_b v (siN v i) 4
    rw [si_s]
    by_cases q : soN v (siN v i) 4 < 0
    · rw [if_pos q]
      exact Or.inr q
    · rw [if_neg q]
      rcases ih with g | g
      · refine Or.inl ?_
        rw [pop_or _ _ _ (by exact (h.resolve_left (fun z => q (by omega))).2.2.1), g, if_pos (by omega)]
        omega
      · exact absurd g q
theorem si_top (v : Nat → Int) (i : Nat) : ∀ s t, s < 4 → t < 4 → (siN v i).testBit s = true → (siN v i).testBit t = false → v t ≤ v s := by
  induction i with
  | zero => intro s t _ _ h _; rw [show siN v 0 = 0 from rfl, Nat.zero_testBit] at h; exact absurd h (by decide)
  | succ i ih =>
    intro s t hs ht h1 h2
    have h := so_b v (siN v i) 4
    rw [si_s] at h1 h2
    by_cases q : soN v (siN v i) 4 < 0
    · rw [if_pos q] at h1 h2
      exact ih s t hs ht h1 h2
    · rw [if_neg q] at h1 h2
      rw [or_t] at h1 h2
      obtain ⟨g1, g2, g3, g4, g5⟩ := h.resolve_left (fun z => q (by omega))
      rw [Bool.or_eq_false_iff] at h2
      cases hx : (siN v i).testBit s
      · rw [hx, Bool.false_or, decide_eq_true_eq] at h1
        rw [← h1]
        exact g5 t ht h2.1
      · exact ih s t hs ht hx h2.1
/-- quarrelled -/
def quP (v : Nat → Int) (m : Nat) : Prop := 0 ≤ soN v (siN v m) 4 ∧ ∃ s, s < 4 ∧ (siN v m).testBit s = true ∧ v s = v (soN v (siN v m) 4).toNat
def quR (v : Nat → Int) (m : Nat) : Prop := m < 4 ∧ 0 ≤ soN v (siN v m) 4 ∧ 0 ≤ laN v m ∧ v (soN v (siN v m) 4).toNat = v (laN v m).toNat
theorem qu_eq (v : Nat → Int) (m : Nat) (hm : m ≤ 4) : quP v m ↔ quR v m := by
  have h := so_b v (siN v m) 4
  have hf := si_full v m
  constructor
  · rintro ⟨h0, s, hs, hb, he⟩
    obtain ⟨g1, g2, g3, g4, g5⟩ := h.resolve_left (fun z => by omega)
    have hpop : pop (siN v m) 4 = m := hf.resolve_right (by omega)
    have hm4 : m < 4 := by
      rcases Nat.lt_or_ge m 4 with q | q
      · exact q
      · obtain rfl : m = 4 := by omega
        have := pop_full hpop (soN v (siN v 4) 4).toNat (by omega)
        rw [this] at g3
        exact absurd g3 (by decide)
    cases m with
    | zero =>
      rw [show siN v 0 = 0 from rfl, Nat.zero_testBit] at hb
      exact absurd hb (by decide)
    | succ i =>
      have h2 := so_b v (siN v i) 4
      have hs1 := si_s v i
      have hl1 := la_s v i
      have q : ¬ soN v (siN v i) 4 < 0 := by
        intro q
        rw [if_pos q] at hs1
        rw [hs1] at h0
        omega
      rw [if_neg q] at hs1 hl1
      obtain ⟨k1, k2, k3, k4, k5⟩ := h2.resolve_left (fun z => q (by omega))
      refine ⟨hm4, h0, by omega, ?_⟩
      have e1 : v (soN v (siN v (i + 1)) 4).toNat ≤ v (laN v (i + 1)).toNat := by
        refine si_top v (i + 1) _ _ (by omega) (by omega) ?_ g3
        rw [hs1, hl1, or_t, decide_eq_true rfl, Bool.or_true]
      have e2 : v (laN v (i + 1)).toNat ≤ v s := by
        rw [hs1, or_t] at hb
        rw [hl1]
        cases hx : (siN v i).testBit s
        · rw [hx, Bool.false_or, decide_eq_true_eq] at hb
          rw [hb]
          exact Int.le_refl _
        · exact si_top v i _ _ hs (by omega) hx k3
      omega
  · rintro ⟨hm4, h0, hl, he⟩
    have key : ∀ i, 0 ≤ laN v i → (siN v i).testBit (laN v i).toNat = true ∧ laN v i < 4 := by
      intro i
      induction i with
      | zero => intro z; exact absurd z (by show ¬ (0 : Int) ≤ -1; decide)
      | succ i ih =>
        intro z
        have h2 := so_b v (siN v i) 4
        rw [la_s] at z ⊢
        rw [si_s]
        by_cases q : soN v (siN v i) 4 < 0
        · rw [if_pos q] at z ⊢
          rw [if_pos q]
          exact ih z
        · rw [if_neg q] at z ⊢
          rw [if_neg q, or_t, decide_eq_true rfl, Bool.or_true]
          exact ⟨rfl, by omega⟩
    have hk := key m hl
    exact ⟨h0, (laN v m).toNat, by omega, hk.1, he.symm⟩
