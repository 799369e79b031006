/-! the class picks the lines of a night -/
theorem sub_half {s o : Nat} (h : SUB s o) : SUB (s / 2) (o / 2) := fun i hi => by
  rw [← Nat.testBit_succ] at hi ⊢
  exact h (i + 1) hi
theorem sub_low {s o : Nat} (h : SUB s o) : s % 2 ≤ o % 2 := by
  have := h 0
  rw [Nat.testBit_zero, Nat.testBit_zero, decide_eq_true_eq, decide_eq_true_eq] at this
  omega
theorem sub_le {s : Nat} : ∀ {o : Nat}, SUB s o → s ≤ o := by
  induction s using Nat.strongRecOn with
  | _ s ih =>
    intro o h
    by_cases q : s = 0
    · omega
    · have h1 := ih (s / 2) (by omega) (sub_half h)
      have h2 := sub_low h
      omega
theorem and_half (a b : Nat) : (a &&& b) / 2 = a / 2 &&& b / 2 := by
  apply Nat.eq_of_testBit_eq
  intro i
  rw [Nat.testBit_and, ← Nat.testBit_succ, ← Nat.testBit_succ, ← Nat.testBit_succ, Nat.testBit_and]
theorem and_low (a b : Nat) : (a &&& b) % 2 = if a % 2 = 1 ∧ b % 2 = 1 then 1 else 0 := by
  have := Nat.testBit_and a b 0
  rw [Nat.testBit_zero, Nat.testBit_zero, Nat.testBit_zero, Bool.eq_iff_iff, Bool.and_eq_true, decide_eq_true_eq, decide_eq_true_eq, decide_eq_true_eq] at this
  split <;> omega
theorem and_sub {z o : Nat} (h : SUB z o) : z &&& o = z := by
  apply Nat.eq_of_testBit_eq
  intro i
  rw [Nat.testBit_and]
  cases q : z.testBit i
  · rfl
  · rw [h i q]; rfl
/-- the sets of o, from all down to none -/
theorem sub_prev {z : Nat} : ∀ {s o : Nat}, SUB s o → SUB z o → s < z → s ≤ (z - 1) &&& o := by
  induction z using Nat.strongRecOn with
  | _ z ih =>
    intro s o hs hz hl
    have e1 := and_half (z - 1) o
    have e2 := and_low (z - 1) o
    by_cases q : z % 2 = 1
    · rw [show (z - 1) / 2 = z / 2 by omega, and_sub (sub_half hz)] at e1
      omega
    · have h1 := ih (z / 2) (by omega) (sub_half hs) (sub_half hz) (by omega)
      rw [show (z - 1) / 2 = z / 2 - 1 by omega] at e1
      have h2 := sub_low hs
      by_cases r : o % 2 = 1
      · rw [if_pos ⟨by omega, r⟩] at e2
        omega
      · omega
theorem nd_0 {a b : Nat} (ha : a < 2147483648) : nd a b = 0 ↔ ∀ o, a.testBit o = true → b.testBit o = true := by
  constructor
  · intro h o ho
    have := nd_t (a := a) (b := b) ha o
    rw [h, Nat.zero_testBit, ho, Bool.true_and] at this
    cases q : b.testBit o
    · rw [q] at this
      exact absurd this (by decide)
    · rfl
  · intro h
    apply Nat.eq_of_testBit_eq
    intro o
    rw [nd_t ha, Nat.zero_testBit]
    cases q : a.testBit o
    · rfl
    · rw [h o q]; rfl
theorem pc_0 : pcN 0 = 0 := by decide
theorem rn_0 : rnN 0 = 0 := by decide
theorem sv_0 (n g : Nat) : svN n g 0 = 0 := by unfold svN; rw [pc_0, rn_0, Nat.mul_zero]
theorem pc_b (s : Nat) : pcN s ≤ 9 := cb_b _ 9
theorem er_b {n g : Nat} (hn : n ≤ 5) (s : Nat) : (n - g) * rnN s ≤ 75582720 := Nat.le_trans (Nat.mul_le_mul (show n - g ≤ 5 by omega) (rn_b s)) (by decide)
theorem sv_b {n g : Nat} (hn : n ≤ 5) (s : Nat) : svN n g s ≤ 166281984 := by
  have h1 := er_b (g := g) hn s
  have h2 := pc_b s
  unfold svN
  omega
theorem aR_val {w : Wd} {k : Nat} (hk : k < 6) {i : Int} {K : Int → Prop} (h : (0 ≤ i ∧ i < 512) ∧ K (w (90 + k) i.toNat)) : aR w none (90 + k) i K := by
  rcases (by omega : k = 0 ∨ k = 1 ∨ k = 2 ∨ k = 3 ∨ k = 4 ∨ k = 5) with rfl | rfl | rfl | rfl | rfl | rfl
  all_goals exact h
theorem aR_pik {w : Wd} {k : Nat} (hk : k < 5) {i : Int} {K : Int → Prop} (h : (0 ≤ i ∧ i < 512) ∧ K (w (97 + k) i.toNat)) : aR w none (97 + k) i K := by
  rcases (by omega : k = 0 ∨ k = 1 ∨ k = 2 ∨ k = 3 ∨ k = 4) with rfl | rfl | rfl | rfl | rfl
  all_goals exact h
theorem aW_val {k : Nat} (hk : k < 6) {i : Int} {K : Prop} (h : (0 ≤ i ∧ i < 512) ∧ K) : aW (90 + k) i K := by
  rcases (by omega : k = 0 ∨ k = 1 ∨ k = 2 ∨ k = 3 ∨ k = 4 ∨ k = 5) with rfl | rfl | rfl | rfl | rfl | rfl
  all_goals exact h
theorem aW_pik {k : Nat} (hk : k < 5) {i : Int} {K : Prop} (h : (0 ≤ i ∧ i < 512) ∧ K) : aW (97 + k) i K := by
  rcases (by omega : k = 0 ∨ k = 1 ∨ k = 2 ∨ k = 3 ∨ k = 4) with rfl | rfl | rfl | rfl | rfl
  all_goals exact h
section
variable {w : Wd} {cf H : Nat → Nat}
theorem FEA_sub {c g A s : Nat} (hcf : cf g < 2147483648) (h : FEA cf H c g A s) : SUB s (nd (cf g) A) := fun i hi => by
  rw [nd_t hcf, (h.1 i hi).1, (h.1 i hi).2]
  rfl
theorem pick_c {n c g A L : Nat} {V : Nat → Nat} (hL : L ≤ 9) (hP : PRE H w (2 ^ L)) (hg : g < n) (hn : n ≤ 5) (hcf : cf g < 2 ^ L) (hA : A < 512) (hV : ∀ s, SUB s (nd (cf g) A) → w (90 + (g + 1)) (A ||| s) = (V (A ||| s) : Int) ∧ V (A ||| s) ≤ 665127936) {K : Wd → Prop} (hK : ∀ b p : Nat, FEA cf H c g A p → b = V (A ||| p) + svN n g p → (∀ s, FEA cf H c g A s → V (A ||| s) + svN n g s ≤ b) → K (wst (wst w (90 + g) A (b : Int)) (97 + g) A (p : Int))) : Cal 2 142 [.inr (.inr 6), .inl (g : Int), .inl ((n : Int) - g), .inl (c : Int), .inl (A : Int), .inl ((nd (cf g) A : Nat) : Int)] w (rV K) := by
  have hp9 : 2 ^ L ≤ 2 ^ 9 := Nat.pow_le_pow_right (by decide) hL
  have hO := nd_le (cf g) A
  have e0 := sv_0 n g
  have hF : ∀ s, FEA cf H c g A s → SUB s (nd (cf g) A) := fun s => FEA_sub (by omega)
  have hOb : ∀ i, (nd (cf g) A).testBit i = true → (cf g).testBit i = true ∧ A.testBit i = false := by
    intro i hi
    rw [nd_t (by omega), Bool.and_eq_true] at hi
    exact ⟨hi.1, by simpa using hi.2⟩
  generalize nd (cf g) A = O at hV hO hF hOb
  have loop : ∀ z : Nat, SUB z O → ∀ b p : Nat, FEA cf H c g A p → b = V (A ||| p) + svN n g p → (∀ s, FEA cf H c g A s → s = 0 ∨ z < s → V (A ||| s) + svN n g s ≤ b) → Ev none (Cal 1) (cd 142) (rV K) (20, [some (.inr (.inr 6)), some (.inl (g : Int)), some (.inl ((n : Int) - g)), some (.inl (c : Int)), some (.inl (A : Int)), some (.inl (O : Int)), some (.inl (b : Int)), some (.inl (p : Int)), some (.inl (z : Int)), none, none], [], w) := by
    intro z
    induction z using Nat.strongRecOn with
    | _ z ih =>
      intro hz b p hp hb hs
      have hzO := sub_le hz
      refine bk_142_20 ?_
      by_cases z0 : z = 0
      · subst z0
        rw [if_neg (by omega)]
        refine ⟨by omega, aW_val (by omega) ⟨by omega, by omega, aW_pik (by omega) ⟨by omega, ?_⟩⟩⟩
        simp only [tn]
        exact hK b p hp hb (fun s hf => hs s hf (by omega))
      · have nx : ∀ b p : Nat, FEA cf H c g A p → b = V (A ||| p) + svN n g p → (∀ s, FEA cf H c g A s → s = 0 ∨ z < s → V (A ||| s) + svN n g s ≤ b) → (FEA cf H c g A z → V (A ||| z) + svN n g z ≤ b) → Ev none (Cal 1) (cd 142) (rV K) (20, [some (.inr (.inr 6)), some (.inl (g : Int)), some (.inl ((n : Int) - g)), some (.inl (c : Int)), some (.inl (A : Int)), some (.inl (O : Int)), some (.inl (b : Int)), some (.inl (p : Int)), some (.inl (((z - 1) &&& O : Nat) : Int)), none, none], [], w) := by
          intro b p hp hb hs hzz
          have hle : (z - 1) &&& O ≤ z - 1 := Nat.and_le_left
          refine ih _ (by omega) (fun i hi => ?_) b p hp hb (fun s hf hq => ?_)
          · rw [Nat.testBit_and, Bool.and_eq_true] at hi
            exact hi.2
          · rcases hq with hq | hq
            · exact hs s hf (Or.inl hq)
            · rcases Nat.lt_trichotomy s z with r | r | r
              · have := sub_prev (hF s hf) hz r
                omega
              · rw [r] at hf ⊢
                exact hzz hf
              · exact hs s hf (Or.inr r)
        have eN : iand (wr ((z : Int) - 1)) (O : Int) = (((z - 1) &&& O : Nat) : Int) := by
          rw [wr_id (by omega) (by omega), show (z : Int) - 1 = ((z - 1 : Nat) : Int) by omega, iand_n (by omega) (by omega)]
        rw [if_pos (by omega)]
        refine CalE.to (bitCount_ok (n := z) (by omega)) (by decide) ?_
        have hpb := pc_b z
        obtain ⟨⟨y, e102, hy, hyb⟩, e103⟩ := hP z (by omega)
        have hAz : A ||| z < 512 := Nat.or_lt_two_pow (n := 9) hA (by omega)
        simp only [pop_pc, eN, tn]
        rw [e102, e103, ior_n (a := A) (b := z) (by omega) (by omega), nand_n (by omega) (by omega)]
        refine ite_i (fun q => ?_) (fun q => ⟨by omega, ite_i (fun r => ?_) (fun r => ?_)⟩)
        · exact nx b p hp hb hs (fun hf => by have := hf.2.1; omega)
        · have r0 : nd y (A ||| z) = 0 := by omega
          rw [nd_0 (by omega)] at r0
          have hf : FEA cf H c g A z := ⟨fun i hi => hOb i (hz i hi), by omega, fun i o hi ho => by
            have := r0 o ((hyb o).2 ⟨i, hi, ho⟩)
            rw [Nat.testBit_or, Bool.or_eq_true] at this
            exact this⟩
          have hv := hV z hz
          have hv2 := er_b (g := g) hn z
          have hsv : svN n g z = pcN z * 10077696 + (n - g) * rnN z := rfl
          rw [wr_id (x := (g : Int) + 1) (by omega) (by omega), show ((g : Int) + 1).toNat = g + 1 by omega]
          refine ⟨by omega, aR_val (by omega) ⟨by omega, ⟨by omega, ?_⟩⟩⟩
          rw [show (n : Int) - g = ((n - g : Nat) : Int) by omega, ← Int.natCast_mul, tn, hv.1]
          generalize (n - g) * rnN z = X at hv2 hsv
          rw [wr_id (x := (X : Int)) (by omega) (by omega), wr_id (x := (pcN z : Int) * 10077696) (by omega) (by omega), wr_id (x := (V (A ||| z) : Int) + (pcN z : Int) * 10077696) (by omega) (by omega), wr_id (by omega) (by omega)]
          rw [show (V (A ||| z) : Int) + (pcN z : Int) * 10077696 + (X : Int) = ((V (A ||| z) + svN n g z : Nat) : Int) by omega, show ((n - g : Nat) : Int) = (n : Int) - g by omega]
          refine ite_i (fun s => ?_) (fun s => ?_)
          · refine nx _ z hf rfl (fun t ht h => ?_) (fun _ => Nat.le_refl _)
            have := hs t ht h
            omega
          · exact nx b p hp hb hs (fun _ => by omega)
        · refine nx b p hp hb hs (fun hf => absurd ?_ r)
          have : nd y (A ||| z) = 0 := by
            rw [nd_0 (by omega)]
            intro o ho
            obtain ⟨i, hi, ho2⟩ := (hyb o).1 ho
            rw [Nat.testBit_or, Bool.or_eq_true]
            exact hf.2.2 i o hi ho2
          omega
  have hv := hV 0 (fun i hi => absurd hi (by rw [Nat.zero_testBit]; decide))
  refine en_142 ?_
  rw [wr_id (x := (g : Int) + 1) (by omega) (by omega), show ((g : Int) + 1).toNat = g + 1 by omega]
  rw [Nat.or_zero] at hv
  refine ⟨by omega, aR_val (by omega) ⟨by omega, ?_⟩⟩
  rw [tn, hv.1]
  refine loop O (fun i hi => hi) (V A) 0 ⟨fun i hi => absurd hi (by rw [Nat.zero_testBit]; decide), by rw [pc_0]; omega, fun i o hi => absurd hi (by rw [Nat.zero_testBit]; decide)⟩ (by rw [Nat.or_zero, e0, Nat.add_zero]) (fun s hf hq => ?_)
  rcases hq with hq | hq
  · rw [hq, Nat.or_zero, e0]
    omega
  · have := sub_le (hF s hf)
    omega
end
