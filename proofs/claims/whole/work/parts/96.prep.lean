/-! the class makes ready: needs and ranks of sets; what a night carries -/
theorem pop_pc (z : Nat) : pop z 9 = (pcN z : Int) := by
  have h : ∀ n, pop z n = (cbN (fun i => z.testBit i) n : Int) := by
    intro n
    induction n with
    | zero => rfl
    | succ n ih =>
      rw [pop_s, cb_s, ih]
      split <;> omega
  exact h 9
theorem rp_add {P P' : Nat → Bool} {i : Nat} (hi : P i = false) (h : ∀ s, P' s = (P s || decide (s = i))) (n : Nat) : rpN P' n = rpN P n + (if i < n then 6 ^ (8 - i) else 0) := by
  induction n with
  | zero => rfl
  | succ n ih =>
    rw [rp_s, rp_s, ih, h n]
    by_cases q : n = i
    · rw [q, hi, if_neg (show ¬ i < i by omega), decide_eq_true (show i = i from rfl), if_pos (show (false || true) = true from rfl), if_neg (by decide), if_pos (show i < i + 1 by omega)]
    · rw [decide_eq_false q, Bool.or_false]
      by_cases r : i < n
      · rw [if_pos r, if_pos (show i < n + 1 by omega)]
        omega
      · rw [if_neg r, if_neg (show ¬ i < n + 1 by omega)]
        omega
theorem tb_hi {s i : Nat} (h : s < 2 ^ i) : s.testBit i = false := Nat.testBit_lt_two_pow h
theorem orp_b (s i q : Nat) : (s ||| 2 ^ i).testBit q = (s.testBit q || decide (q = i)) := by
  rw [or_t]
  congr 1
  by_cases e : q = i
  · rw [decide_eq_true e, decide_eq_true e.symm]
  · rw [decide_eq_false e, decide_eq_false (fun z => e z.symm)]
theorem rn_or {s i : Nat} (h : s < 2 ^ i) (hi : i < 9) : rnN (s ||| 2 ^ i) = rnN s + 6 ^ (8 - i) := by
  have := rp_add (P := fun q => s.testBit q) (P' := fun q => (s ||| 2 ^ i).testBit q) (tb_hi h) (orp_b s i) 9
  rw [if_pos hi] at this
  exact this
/-- y is what s needs -/
def NDP (H : Nat → Nat) (s : Nat) (y : Int) : Prop := ∃ z : Nat, y = (z : Int) ∧ z < 512 ∧ ∀ o, z.testBit o = true ↔ ∃ i, s.testBit i = true ∧ (H i).testBit o = true
theorem ND_0 (H : Nat → Nat) : NDP H 0 0 := ⟨0, rfl, by decide, fun o => ⟨fun z => absurd z (by rw [Nat.zero_testBit]; decide), fun ⟨i, hi, _⟩ => absurd hi (by rw [Nat.zero_testBit]; decide)⟩⟩
theorem ND_or {H : Nat → Nat} {s i : Nat} {y : Int} (h : NDP H s y) (hH : H i < 512) : NDP H (s ||| 2 ^ i) (ior y (H i)) := by
  obtain ⟨z, rfl, hz, h⟩ := h
  refine ⟨z ||| H i, ior_n (by omega) (by omega), Nat.or_lt_two_pow (n := 9) hz hH, fun o => ?_⟩
  rw [Nat.testBit_or, Bool.or_eq_true, h o]
  constructor
  · rintro (⟨q, q1, q2⟩ | q)
    · exact ⟨q, by rw [orp_b, q1]; rfl, q2⟩
    · exact ⟨i, by rw [orp_b, decide_eq_true rfl, Bool.or_true], q⟩
  · rintro ⟨q, q1, q2⟩
    rw [orp_b, Bool.or_eq_true, decide_eq_true_eq] at q1
    rcases q1 with q1 | q1
    · exact Or.inl ⟨q, q1, q2⟩
    · rw [q1] at q2
      exact Or.inr q2
theorem or_n2 {s i : Nat} (h : s < 2 ^ i) : s ||| 2 ^ i = 2 ^ i + s := by
  have := Nat.two_pow_add_eq_or_of_lt h 1
  rw [Nat.mul_one] at this
  rw [Nat.or_comm, this]
theorem idv6 : ∀ i, i < 9 → idv ((6 ^ (9 - i) : Nat) : Int) 6 = ((6 ^ (9 - (i + 1)) : Nat) : Int) := by decide +kernel
/-- needs and ranks of the sets of the first i lines -/
def PRE (H : Nat → Nat) (u : Wd) (N : Nat) : Prop := ∀ s, s < N → NDP H s (u 102 s) ∧ u 103 s = (rnN s : Int)
theorem rn_b (s : Nat) : rnN s ≤ 15116544 := by
  have h1 := rp_b (fun i => s.testBit i) 9
  have h2 := cb_b (fun i => s.testBit i) 9
  unfold rnN
  omega
section
variable {w κ τ : Wd}
theorem prepare_c (hc : pc w = κ) (hm : pm w = τ) (hE : EQ κ τ) (hR : RNG τ) {K : Wd → Prop} (hK : ∀ u, pc u = κ → pm u = τ → PRE (HgN τ) u (2 ^ nL τ) → K u) : Cal 1 140 [.inr (.inr 6), .inr (.inr 0)] w (rV K) := by
  have hL9 := nL_9 hR
  have hLe := hL9.2
  have hL := hL9.1
  generalize hLL : nL τ = L at hK hLe hL
  have key := Ev.inv (sc := none) (C := Cal 0) (cdk := cd 140) (Q := rV K) (N := L) (I := fun i t => ∃ v : Wd, t = (5, [some (.inr (.inr 6)), some (.inr (.inr 0)), some (.inl ((6 ^ (9 - i) : Nat) : Int)), some (.inl (i : Int)), none], [], v) ∧ pc v = κ ∧ pm v = τ ∧ PRE (HgN τ) v (2 ^ i)) (fun i hi t ht h => ?_) (fun t ht => ?_) 0 (Nat.zero_le _)
  · refine en_140 (key _ ⟨w, rfl, hc, hm, fun s hs => ?_⟩)
    obtain rfl : s = 0 := by omega
    have h2 := hE.plan0
    rw [mk_rd hc (show isC 102 0 = true from rfl), mk_rd hc (show isC 103 0 = true from rfl), h2.1, h2.2]
    exact ⟨ND_0 _, rfl⟩
  · obtain ⟨v, rfl, vc, vm, hv⟩ := ht
    refine bk_140_5 ?_
    have e : v 0 4 = (L : Int) := ((r0_4 vc).trans hE.Bill_size).trans hLe
    have hH := Hg_b hR i
    have hp9 : 2 ^ i ≤ 2 ^ 8 := Nat.pow_le_pow_right (by decide) (by omega)
    have h60 : 6 ^ (9 - (i + 1)) ≤ 6 ^ 8 := Nat.pow_le_pow_right (by decide) (by omega)
    have h61 : 0 < 6 ^ (9 - (i + 1)) := Nat.pow_pos (by decide)
    have h62 : 6 ^ 8 = 1679616 := by decide
    rw [e, if_pos (by omega), idv6 i (by omega)]
    refine ⟨by decide, ?_⟩
    have key2 := Ev.inv (sc := none) (C := Cal 0) (cdk := cd 140) (Q := rV K) (N := 2 ^ i) (I := fun r t => ∃ o : Wd, t = (21, [some (.inr (.inr 6)), some (.inr (.inr 0)), some (.inl ((6 ^ (9 - (i + 1)) : Nat) : Int)), some (.inl (i : Int)), some (.inl (r : Int))], [], o) ∧ pc o = κ ∧ pm o = τ ∧ PRE (HgN τ) o (2 ^ i + r)) (fun r hr t ht h2 => ?_) (fun t ht => ?_) 0 (Nat.zero_le _)
    · exact key2 _ ⟨v, rfl, vc, vm, hv⟩
    · obtain ⟨o, rfl, oc, om, ho⟩ := ht
      refine bk_140_21 ?_
      have e16 : o 16 i = (HgN τ i : Int) := ((r16 oc i).trans (hE.Bill_needs i)).trans hH.1
      have hor := or_n2 hr
      have h0 := ho r (by omega)
      have hrb := rn_b r
      rw [ishl_n i (by omega), if_pos (by omega), ior_n (a := r) (b := 2 ^ i) (by omega) (by omega), hor]
      simp only [tn]
      rw [e16]
      have e2 : wst o 102 (2 ^ i + r) (ior (o 102 r) (HgN τ i : Int)) 103 r = (rnN r : Int) := by
        rw [wst_ap, if_neg (fun z => absurd z.1 (by decide))]
        exact h0.2
      rw [e2, wr_id (x := (rnN r : Int) + ((6 ^ (9 - (i + 1)) : Nat) : Int)) (by omega) (by omega), wr_s (show r < 2000000 by omega)]
      have hfc : ∀ q c : Nat, 0 < q → (c = 102 ∨ c = 103) → isC c q = false := by
        intro q c hq hcc
        obtain ⟨p, rfl⟩ : ∃ p, q = p + 1 := ⟨q - 1, by omega⟩
        rcases hcc with rfl | rfl <;> rfl
      refine ⟨by omega, by omega, by omega, by omega, by omega, h2 _ ⟨_, rfl, ?_, ?_, fun s hs => ?_⟩⟩
      · rw [pc_out (hfc _ _ (by omega) (Or.inr rfl)), pc_out (hfc _ _ (by omega) (Or.inl rfl))]
        exact oc
      · rw [pm_out rfl, pm_out rfl]
        exact om
      · by_cases q : s = 2 ^ i + r
        · rw [q, wst_ap, if_neg (fun z => absurd z.1 (by decide)), wst_ap, if_pos ⟨rfl, rfl⟩, wst_ap, if_pos ⟨rfl, rfl⟩, ← hor, rn_or hr (by omega)]
          refine ⟨ND_or h0.1 (by omega), ?_⟩
          rw [show 9 - (i + 1) = 8 - i by omega]
          omega
        · rw [wst_ap, if_neg (fun z => absurd z.1 (by decide)), wst_ap, if_neg (fun z => q z.2), wst_ap, if_neg (fun z => q z.2), wst_ap, if_neg (fun z => q z.2)]
          exact ho s (by omega)
    · obtain ⟨o, rfl, oc, om, ho⟩ := ht
      refine bk_140_21 ?_
      rw [ishl_n i (by omega), if_neg (by omega), wr_s (show i < 2000000 by omega)]
      refine h _ ⟨o, rfl, oc, om, ?_⟩
      rw [Nat.pow_succ, Nat.mul_two]
      exact ho
  · obtain ⟨v, rfl, vc, vm, hv⟩ := ht
    refine bk_140_5 ?_
    have e : v 0 4 = (L : Int) := ((r0_4 vc).trans hE.Bill_size).trans hLe
    rw [e, if_neg (by omega)]
    exact hK v vc vm hv
theorem stP_s (P : Nat → Bool) (n : Nat) : stP P (n + 1) = if P n = true then stP P n ||| 2 ^ n else stP P n := rfl
theorem carriedAlone_c (hc : pc w = κ) (hE : EQ κ τ) (hR : RNG τ) {g : Nat} (hg : g < 5) : Cal 2 141 [.inr (.inr 1), .inl (g : Int), .inl (nL τ : Int), .inr (.inr 2)] w (rI fun y u => y = (stP (fun l => crB τ l g) (nL τ) : Int) ∧ u = w) := by
  have hL := (nL_9 hR).1
  generalize nL τ = L at hL
  generalize hQ : (rI fun y u => y = (stP (fun l => crB τ l g) L : Int) ∧ u = w) = Q
  have key := Ev.count (sc := none) (C := Cal 1) (cdk := cd 141) (Q := Q) (N := L) (S := fun i => (6, [some (.inr (.inr 1)), some (.inl (g : Int)), some (.inl (L : Int)), some (.inr (.inr 2)), some (.inl (stP (fun l => crB τ l g) i : Int)), some (.inl (i : Int)), none, none, none], [], w)) (fun i hi h => ?_) ?_ 0 (Nat.zero_le _)
  · exact en_141 key
  · refine bk_141_6 ?_
    rw [if_pos (by omega), if_pos (by omega)]
    have key2 := Ev.count (sc := none) (C := Cal 1) (cdk := cd 141) (Q := Q) (N := 8) (S := fun k => (25, [some (.inr (.inr 1)), some (.inl (g : Int)), some (.inl (L : Int)), some (.inr (.inr 2)), some (.inl (stP (fun l => crB τ l g) i : Int)), some (.inl (i : Int)), some (.inl (csN τ i g k)), some (.inl (k : Int)), none], [], w)) (fun k hk h2 => ?_) ?_ 0 (Nat.zero_le _)
    · exact key2
    · refine bk_141_25 ?_
      have hb := cs_b hR i g k
      have hs := cs_s τ i g k
      have h1 := thF_b hR k g 1
      have h0 := thF_b hR k g 0
      have hr := rdn_b hR k
      have e : w 31 k = τ 195 k := (r31 hc k).trans (hE.Knots_reads k)
      simp only [tn, e, hr.1, wr_s (show k < 2000000 by omega)]
      rw [if_pos (by omega)]
      refine ⟨by omega, ite_i (fun q => ?_) (fun q => ?_)⟩
      · rw [bit_n (by omega) (by omega)] at q
        rw [if_pos q] at hs
        refine ⟨by omega, aR_want hk ⟨by omega, ?_⟩⟩
        rw [tn, rd_want hc hE hk (by omega)]
        refine ite_i (fun r => ?_) (fun r => ite_i (fun s => ?_) (fun s => ?_))
        · rw [if_pos r] at hs
          refine CalE.to (present_ok hc hE hk hg) (by decide) ?_
          rw [wr_id (by omega) (by omega), ← hs]
          exact h2
        · rw [if_neg r, if_pos s] at hs
          refine CalE.to (present_ok hc hE hk hg) (by decide) ?_
          rw [wr_id (by omega) (by omega), Int.sub_eq_add_neg, ← hs]
          exact h2
        · rw [if_neg r, if_neg s, Int.add_zero] at hs
          rw [← hs]
          exact h2
      · rw [bit_n (by omega) (by omega)] at q
        rw [if_neg q, Int.add_zero] at hs
        rw [← hs]
        exact h2
    · refine bk_141_25 ?_
      have hs := stP_s (fun l => crB τ l g) i
      have hb := (stP_b (fun l => crB τ l g) i).1
      have hp9 : 2 ^ i ≤ 2 ^ 8 := Nat.pow_le_pow_right (by decide) (by omega)
      rw [if_neg (by omega), ishl_n i (by omega), wr_s (show i < 2000000 by omega)]
      refine ite_i (fun q => ?_) (fun q => ?_)
      · rw [ior_n (by omega) (by omega)]
        rw [if_pos (show crB τ i g = true from decide_eq_true q)] at hs
        rw [← hs]
        exact h
      · have e0 : ior (stP (fun l => crB τ l g) i : Int) 0 = (stP (fun l => crB τ l g) i : Int) := by
          have := ior_n (a := stP (fun l => crB τ l g) i) (b := 0) (by omega) (by decide)
          rw [Nat.or_zero] at this
          exact this
        rw [if_neg (show ¬ crB τ i g = true by rw [show crB τ i g = false from decide_eq_false q]; decide)] at hs
        rw [e0, ← hs]
        exact h
  · refine bk_141_6 ?_
    rw [if_neg (by omega), ← hQ]
    exact ⟨rfl, rfl⟩
end
