/-! which kinds of line stand -/
def kmN (τ : Wd) (z : Int) : Nat → Int
  | 0 => 0
  | n + 1 => if iand (ishr z n) 1 = 1 then ior (kmN τ z n) (ishl 1 (τ 183 n)) else kmN τ z n
theorem kmN_s (τ : Wd) (z : Int) (n : Nat) : kmN τ z (n + 1) = if iand (ishr z n) 1 = 1 then ior (kmN τ z n) (ishl 1 (τ 183 n)) else kmN τ z n := rfl
theorem km_bits : ∀ x : Nat, x < 8 → ∀ k : Nat, k < 3 → (0 ≤ ior x (ishl 1 k) ∧ ior x (ishl 1 k) < 8) ∧ (iand (ior x (ishl 1 k)) 1 = 1 ↔ iand x 1 = 1 ∨ k = 0) ∧ (iand (ior x (ishl 1 k)) 2 = 2 ↔ iand x 2 = 2 ∨ k = 1) := by decide +kernel
theorem km_i {x k : Int} (hx : 0 ≤ x ∧ x < 8) (hk : 0 ≤ k ∧ k ≤ 2) : (0 ≤ ior x (ishl 1 k) ∧ ior x (ishl 1 k) < 8) ∧ (iand (ior x (ishl 1 k)) 1 = 1 ↔ iand x 1 = 1 ∨ k = 0) ∧ (iand (ior x (ishl 1 k)) 2 = 2 ↔ iand x 2 = 2 ∨ k = 1) := by
  obtain ⟨a, rfl⟩ : ∃ a : Nat, x = (a : Int) := ⟨x.toNat, by omega⟩
  obtain ⟨b, rfl⟩ : ∃ b : Nat, k = (b : Int) := ⟨k.toNat, by omega⟩
  have h := km_bits a (by omega) b (by omega)
  refine ⟨h.1, h.2.1.trans ?_, h.2.2.trans ?_⟩
  · exact or_congr Iff.rfl (by omega)
  · exact or_congr Iff.rfl (by omega)
theorem kmN_b {τ : Wd} (hR : RNG τ) (z : Int) (n : Nat) : 0 ≤ kmN τ z n ∧ kmN τ z n < 8 := by
  induction n with
  | zero => show (0 : Int) ≤ 0 ∧ (0 : Int) < 8; omega
  | succ n ih =>
    rw [kmN_s]
    split
    · exact (km_i ih (hR.M_lKind n)).1
    · exact ih
theorem kmN_0 {τ : Wd} (hR : RNG τ) (z : Int) (n l : Nat) (h : ¬ iand (kmN τ z n) 1 = 1) (hl : l < n) (hz : iand (ishr z l) 1 = 1) : ¬ τ 183 l = 0 := by
  induction n with
  | zero => omega
  | succ n ih =>
    rw [kmN_s] at h
    by_cases q : iand (ishr z n) 1 = 1
    · rw [if_pos q, (km_i (kmN_b hR z n) (hR.M_lKind n)).2.1] at h
      by_cases e : l = n
      · subst e
        exact fun g => h (Or.inr g)
      · exact ih (fun g => h (Or.inl g)) (by omega)
    · rw [if_neg q] at h
      by_cases e : l = n
      · subst e
        exact absurd hz q
      · exact ih h (by omega)
theorem kmN_1 {τ : Wd} (hR : RNG τ) (z : Int) (n l : Nat) (h : ¬ iand (kmN τ z n) 2 = 2) (hl : l < n) (hz : iand (ishr z l) 1 = 1) : ¬ τ 183 l = 1 := by
  induction n with
  | zero => omega
  | succ n ih =>
    rw [kmN_s] at h
    by_cases q : iand (ishr z n) 1 = 1
    · rw [if_pos q, (km_i (kmN_b hR z n) (hR.M_lKind n)).2.2] at h
      by_cases e : l = n
      · subst e
        exact fun g => h (Or.inr g)
      · exact ih (fun g => h (Or.inl g)) (by omega)
    · rw [if_neg q] at h
      by_cases e : l = n
      · subst e
        exact absurd hz q
      · exact ih h (by omega)
