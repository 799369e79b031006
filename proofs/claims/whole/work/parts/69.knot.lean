/-! what knots want; how they divide -/
theorem and_2 : ∀ {a l : Nat}, a < 512 → l < 9 → (iand (a : Int) (ishl 1 (l : Int)) = 0 ↔ a.testBit l = false) := by
  have h : ∀ a : Nat, a < 512 → ∀ l : Nat, l < 9 → (iand (a : Int) (ishl 1 (l : Int)) = 0 ↔ a.testBit l = false) := by decide +kernel
  intro a l ha hl
  exact h a ha l hl
/-- the lines that stand are a small set -/
theorem stN_n {τ : Wd} (x : Int) (n : Nat) (hn : n ≤ 9) : ∃ z : Nat, stN τ x n = (z : Int) ∧ z < 2 ^ n := by
  induction n with
  | zero => exact ⟨0, rfl, by decide⟩
  | succ n ih =>
    obtain ⟨z, h1, h2⟩ := ih (by omega)
    have h3 : 2 ^ n ≤ 2 ^ 9 := Nat.pow_le_pow_right (by decide) (by omega)
    have h4 : 2 ^ (n + 1) = 2 ^ n * 2 := Nat.pow_succ ..
    rw [stN_s]
    split
    · split
      · refine ⟨z ||| 2 ^ n, ?_, Nat.or_lt_two_pow (by omega) (by omega)⟩
        rw [h1, ishl_n n (by omega), ior_n (by omega) (by omega)]
      · exact ⟨z, h1, by omega⟩
    · exact ⟨z, h1, by omega⟩
def nL (τ : Wd) : Nat := (τ 12 61).toNat
theorem nL_9 {τ : Wd} (hR : RNG τ) : nL τ ≤ 9 ∧ τ 12 61 = (nL τ : Int) := by
  have := hR.M_lines
  unfold nL
  omega
theorem p9 {n : Nat} (h : n ≤ 9) : 1 ≤ 2 ^ n ∧ 2 ^ n ≤ 512 := ⟨Nat.two_pow_pos n, Nat.pow_le_pow_right (n := 2) (by decide) h⟩
theorem stF_n {τ : Wd} (hR : RNG τ) (x : Int) : ∃ z : Nat, stF τ x = (z : Int) ∧ z < 2 ^ nL τ := stN_n x _ (nL_9 hR).1
theorem alF_n {τ : Wd} (hR : RNG τ) : alF τ = ((2 ^ nL τ - 1 : Nat) : Int) := by
  have h := nL_9 hR
  have h2 := p9 h.1
  unfold alF
  rw [h.2, ishl_n _ (by omega), wr_id (by omega) (by omega)]
  omega
def rdn (τ : Wd) (k : Nat) : Nat := (τ 195 k).toNat
theorem rdn_b {τ : Wd} (hR : RNG τ) (k : Nat) : τ 195 k = (rdn τ k : Int) ∧ rdn τ k < 512 := by
  have := hR.M_reads k
  unfold rdn
  omega
def wsN (τ : Wd) (k z : Nat) : Nat → Int
  | 0 => 0
  | n + 1 => wsN τ k z n + (if (z &&& rdn τ k).testBit n = true then τ 193 (9 * k + n) else 0)
theorem wsN_s (τ : Wd) (k z n : Nat) : wsN τ k z (n + 1) = wsN τ k z n + (if (z &&& rdn τ k).testBit n = true then τ 193 (9 * k + n) else 0) := rfl
theorem wsN_b {τ : Wd} (hR : RNG τ) (k z n : Nat) : -9 * (n : Int) ≤ wsN τ k z n ∧ wsN τ k z n ≤ 9 * (n : Int) := by
  induction n with
  | zero => exact ⟨Int.le_refl _, Int.le_refl _⟩
  | succ n ih =>
    have := hR.M_wants (9 * k + n)
    rw [wsN_s]
    split <;> omega
theorem wsN_h {τ : Wd} {k z n m : Nat} (h : z < 2 ^ n) (hm : n ≤ m) : wsN τ k z m = wsN τ k z n := by
  induction hm with
  | refl => rfl
  | @step m hm ih =>
    rw [wsN_s, ih, Nat.testBit_and, Nat.testBit_lt_two_pow (Nat.lt_of_lt_of_le h (Nat.pow_le_pow_right (by decide) hm)), Bool.false_and, if_neg (by decide), Int.add_zero]
def wsF (τ : Wd) (k z : Nat) : Int := wsN τ k z 9
/-- how many of a knot are there: the least (1), the most (0) -/
def thF (τ : Wd) (k g : Nat) (f : Int) : Int := min (if f = 0 then τ 197 (5 * k + g) else τ 196 (5 * k + g)) (kcnt (τ 180) k (τ 12 57).toNat)
theorem thF_b {τ : Wd} (hR : RNG τ) (k g : Nat) (f : Int) : 0 ≤ thF τ k g f ∧ thF τ k g f ≤ 40 := by
  have h1 := hR.M_mostThere (5 * k + g)
  have h2 := hR.M_leastThere (5 * k + g)
  have h3 := kcnt_b (τ 180) k (τ 12 57).toNat
  unfold thF
  split <;> omega
def mgN (τ : Wd) (z g : Nat) (b : Int) : Nat → Int
  | 0 => 0
  | n + 1 => mgN τ z g b n + (if τ 194 n < wsF τ n z then thF τ n g b else - thF τ n g (1 - b))
theorem mgN_s (τ : Wd) (z g : Nat) (b : Int) (n : Nat) : mgN τ z g b (n + 1) = mgN τ z g b n + (if τ 194 n < wsF τ n z then thF τ n g b else - thF τ n g (1 - b)) := rfl
theorem mgN_b {τ : Wd} (hR : RNG τ) (z g : Nat) (b : Int) (n : Nat) : -40 * (n : Int) ≤ mgN τ z g b n ∧ mgN τ z g b n ≤ 40 * (n : Int) := by
  induction n with
  | zero => exact ⟨Int.le_refl _, Int.le_refl _⟩
  | succ n ih =>
    have h1 := thF_b hR n g b
    have h2 := thF_b hR n g (1 - b)
    rw [mgN_s]
    split <;> omega
def mgF (τ : Wd) (z g : Nat) (b : Int) : Int := mgN τ z g b 8
theorem c8 {k : Nat} (h : k < 8) : k = 0 ∨ k = 1 ∨ k = 2 ∨ k = 3 ∨ k = 4 ∨ k = 5 ∨ k = 6 ∨ k = 7 := by omega
theorem aR_want {w : Wd} {k : Nat} (hk : k < 8) {i : Int} {K : Int → Prop} (h : (0 ≤ i ∧ i < 9) ∧ K (w (22 + k) i.toNat)) : aR w none (22 + k) i K := by
  rcases c8 hk with rfl | rfl | rfl | rfl | rfl | rfl | rfl | rfl
  all_goals exact h
theorem aR_leas {w : Wd} {k : Nat} (hk : k < 8) {i : Int} {K : Int → Prop} (h : (0 ≤ i ∧ i < 5) ∧ K (w (33 + k) i.toNat)) : aR w none (33 + k) i K := by
  rcases c8 hk with rfl | rfl | rfl | rfl | rfl | rfl | rfl | rfl
  all_goals exact h
theorem aR_most {w : Wd} {k : Nat} (hk : k < 8) {i : Int} {K : Int → Prop} (h : (0 ≤ i ∧ i < 5) ∧ K (w (42 + k) i.toNat)) : aR w none (42 + k) i K := by
  rcases c8 hk with rfl | rfl | rfl | rfl | rfl | rfl | rfl | rfl
  all_goals exact h
/-- the number of bits, as the library counts it -/
def bcI (x0 : Int) : Int := (iand (wr ((wr ((iand (wr ((wr ((iand (wr (x0 - (iand (iushr x0 1) 1431655765))) 858993459) + (iand (iushr (wr (x0 - (iand (iushr x0 1) 1431655765))) 2) 858993459))) + (iushr (wr ((iand (wr (x0 - (iand (iushr x0 1) 1431655765))) 858993459) + (iand (iushr (wr (x0 - (iand (iushr x0 1) 1431655765))) 2) 858993459))) 4))) 252645135) + (iushr (iand (wr ((wr ((iand (wr (x0 - (iand (iushr x0 1) 1431655765))) 858993459) + (iand (iushr (wr (x0 - (iand (iushr x0 1) 1431655765))) 2) 858993459))) + (iushr (wr ((iand (wr (x0 - (iand (iushr x0 1) 1431655765))) 858993459) + (iand (iushr (wr (x0 - (iand (iushr x0 1) 1431655765))) 2) 858993459))) 4))) 252645135) 8))) + (iushr (wr ((iand (wr ((wr ((iand (wr (x0 - (iand (iushr x0 1) 1431655765))) 858993459) + (iand (iushr (wr (x0 - (iand (iushr x0 1) 1431655765))) 2) 858993459))) + (iushr (wr ((iand (wr (x0 - (iand (iushr x0 1) 1431655765))) 858993459) + (iand (iushr (wr (x0 - (iand (iushr x0 1) 1431655765))) 2) 858993459))) 4))) 252645135) + (iushr (iand (wr ((wr ((iand (wr (x0 - (iand (iushr x0 1) 1431655765))) 858993459) + (iand (iushr (wr (x0 - (iand (iushr x0 1) 1431655765))) 2) 858993459))) + (iushr (wr ((iand (wr (x0 - (iand (iushr x0 1) 1431655765))) 858993459) + (iand (iushr (wr (x0 - (iand (iushr x0 1) 1431655765))) 2) 858993459))) 4))) 252645135) 8))) 16))) 63)
theorem bc_d : ∀ n : Nat, n < 512 → bcI (n : Int) = pop n 9 := by decide +kernel
theorem bitCount_ok {w : Wd} {n : Nat} (h : n < 512) : Cal 1 95 [.inl (n : Int)] w (rI fun y u => y = pop n 9 ∧ u = w) := by
  refine en_95 ?_
  exact ⟨bc_d n h, rfl⟩
section
variable {w κ τ : Wd} {T : Wd → Wd → Prop}
theorem rd_want (hc : pc w = κ) (hE : EQ κ τ) {k l : Nat} (hk : k < 8) (hl : l < 9) : w (22 + k) l = τ 193 (9 * k + l) := by
  have h : isC (22 + k) l = true := by
    rcases c8 hk with rfl | rfl | rfl | rfl | rfl | rfl | rfl | rfl
    all_goals rfl
  rw [mk_rd hc h]
  exact hE.want k l hk hl
theorem rd_leas (hc : pc w = κ) (hE : EQ κ τ) {k l : Nat} (hk : k < 8) (hl : l < 5) : w (33 + k) l = τ 196 (5 * k + l) := by
  have h : isC (33 + k) l = true := by
    rcases c8 hk with rfl | rfl | rfl | rfl | rfl | rfl | rfl | rfl
    all_goals rfl
  rw [mk_rd hc h]
  exact hE.leas k l hk hl
theorem rd_most (hc : pc w = κ) (hE : EQ κ τ) {k l : Nat} (hk : k < 8) (hl : l < 5) : w (42 + k) l = τ 197 (5 * k + l) := by
  have h : isC (42 + k) l = true := by
    rcases c8 hk with rfl | rfl | rfl | rfl | rfl | rfl | rfl | rfl
    all_goals rfl
  rw [mk_rd hc h]
  exact hE.most k l hk hl
theorem wish_ok (hc : pc w = κ) (hE : EQ κ τ) (hR : RNG τ) {k z : Nat} (hk : k < 8) (hz : z < 512) : Cal 1 133 [.inr (.inr 1), .inl k, .inl z] w (rI fun y u => y = wsF τ k z ∧ u = w) := by
  generalize hQ : (rI fun y u => y = wsF τ k z ∧ u = w) = Q
  have key := Ev.count (sc := none) (C := Cal 0) (cdk := cd 133) (Q := Q) (N := 9) (S := fun i => (5, [some (.inr (.inr 1)), some (.inl (k : Int)), some (.inl (z : Int)), some (.inl (wsN τ k z i)), some (.inl (i : Int))], [], w)) (fun i hi h => ?_) ?_ 0 (Nat.zero_le _)
  · exact en_133 key
  · refine bk_133_5 ?_
    have hb := wsN_b hR k z i
    have hw := hR.M_wants (9 * k + i)
    have hr := rdn_b hR k
    have e : w 31 k = τ 195 k := (r31 hc k).trans (hE.Knots_reads k)
    have hle : z &&& rdn τ k ≤ z := Nat.and_le_left
    rw [if_pos (by omega)]
    refine ⟨by omega, ?_⟩
    simp only [tn, e, hr.1]
    rw [iand_n (by omega) (by omega), wr_s (show i < 2000000 by omega)]
    refine ite_i (fun q => ?_) (fun q => ?_)
    · rw [and_2 (by omega) hi] at q
      refine h.cast ?_
      rw [wsN_s, q, if_neg (by decide), Int.add_zero]
    · rw [and_2 (by omega) hi, Bool.not_eq_false] at q
      refine ⟨by omega, aR_want hk ⟨by omega, ?_⟩⟩
      rw [tn, rd_want hc hE hk hi, wr_id (by omega) (by omega)]
      refine h.cast ?_
      rw [wsN_s, if_pos q]
  · refine bk_133_5 ?_
    rw [if_neg (by omega), ← hQ]
    exact ⟨rfl, rfl⟩
theorem present_ok (hc : pc w = κ) (hE : EQ κ τ) {k g : Nat} (hk : k < 8) (hg : g < 5) {f : Int} : Cal 1 134 [.inr (.inr 1), .inl k, .inl g, .inl f, .inr (.inr 2)] w (rI fun y u => y = thF τ k g f ∧ u = w) := by
  have e : w 51 k = kcnt (τ 180) k (τ 12 57).toNat := (r51 hc k).trans (hE.inKn k)
  refine en_134 ?_
  simp only [tn, e]
  unfold thF
  refine ite_i (fun q => ?_) (fun q => ?_)
  · refine ⟨by omega, aR_most hk ⟨by omega, by omega, ?_⟩⟩
    rw [tn, rd_most hc hE hk hg, if_pos q]
    exact ⟨rfl, rfl⟩
  · refine ⟨by omega, aR_leas hk ⟨by omega, by omega, ?_⟩⟩
    rw [tn, rd_leas hc hE hk hg, if_neg q]
    exact ⟨rfl, rfl⟩
theorem margin_ok (hc : pc w = κ) (hE : EQ κ τ) (hR : RNG τ) {z g : Nat} (hz : z < 512) (hg : g < 5) {b : Int} (hb : b = 0 ∨ b = 1) : Cal 2 132 [.inr (.inr 1), .inl z, .inl g, .inl b, .inr (.inr 2)] w (rI fun y u => y = mgF τ z g b ∧ u = w) := by
  generalize hQ : (rI fun y u => y = mgF τ z g b ∧ u = w) = Q
  have key := Ev.count (sc := none) (C := Cal 1) (cdk := cd 132) (Q := Q) (N := 8) (S := fun i => (6, [some (.inr (.inr 1)), some (.inl (z : Int)), some (.inl (g : Int)), some (.inl b), some (.inr (.inr 2)), some (.inl (mgN τ z g b i)), some (.inl (i : Int)), none, none], [], w)) (fun i hi h => ?_) ?_ 0 (Nat.zero_le _)
  · exact en_132 key
  · refine bk_132_6 ?_
    rw [if_pos (by omega)]
    refine CalE.to (wish_ok hc hE hR hi hz) (by decide) ?_
    refine ⟨by omega, ?_⟩
    have e : w 30 i = τ 194 i := (r30 hc i).trans (hE.Knots_bars i)
    have h1 := thF_b hR i g b
    have h2 := thF_b hR i g (1 - b)
    have h3 := mgN_b hR z g b i
    simp only [tn, e]
    rw [wr_s (show i < 2000000 by omega)]
    have hs := mgN_s τ z g b i
    refine ite_i (fun q => ?_) (fun q => ?_)
    · rw [if_pos q] at hs
      rcases hb with rfl | rfl
      · rw [if_neg (by decide)]
        refine CalE.to (present_ok hc hE hi hg) (by decide) ?_
        rw [wr_id (by omega) (by omega), ← hs]
        exact h
      · rw [if_pos rfl]
        refine CalE.to (present_ok hc hE hi hg) (by decide) ?_
        rw [wr_id (by omega) (by omega), ← hs]
        exact h
    · rw [if_neg q] at hs
      rcases hb with rfl | rfl
      · rw [if_pos rfl]
        refine CalE.to (present_ok hc hE hi hg) (by decide) ?_
        rw [show (1 : Int) - 0 = 1 from rfl] at hs h2
        rw [wr_id (x := - _) (by omega) (by omega), wr_id (by omega) (by omega), ← hs]
        exact h
      · rw [if_neg (by decide)]
        refine CalE.to (present_ok hc hE hi hg) (by decide) ?_
        rw [show (1 : Int) - 1 = 0 from rfl] at hs h2
        rw [wr_id (x := - _) (by omega) (by omega), wr_id (by omega) (by omega), ← hs]
        exact h
  · refine bk_132_6 ?_
    rw [if_neg (by omega), ← hQ]
    exact ⟨rfl, rfl⟩
theorem manyIn_ok (hm : pm w = τ) (hR : RNG τ) {k : Nat} : Cal 1 230 [.inr (.inr 12), .inl k] w (rI fun y u => y = kcnt (τ 180) k (τ 12 57).toNat ∧ u = w) := by
  have hb := hR.M_members
  generalize hQ : (rI fun y u => y = kcnt (τ 180) k (τ 12 57).toNat ∧ u = w) = Q
  have key := Ev.count (sc := none) (C := Cal 0) (cdk := cd 230) (Q := Q) (N := (τ 12 57).toNat) (S := fun i => (4, [some (.inr (.inr 12)), some (.inl (k : Int)), some (.inl (kcnt (τ 180) k i)), some (.inl (i : Int))], [], w)) (fun i hi h => ?_) ?_ 0 (Nat.zero_le _)
  · exact en_230 key
  · refine bk_230_4 ?_
    have h3 := kcnt_b (τ 180) k i
    simp only [r12_57 hm, r180 hm, tn, wr_s (show i < 2000000 by omega)]
    rw [if_pos (by omega), wr_id (x := _ + 1) (by omega) (by omega), wr_id (x := _ + 0) (by omega) (by omega)]
    refine ⟨by omega, ?_⟩
    have hs : kcnt (τ 180) k (i + 1) = kcnt (τ 180) k i + (if τ 180 i = (k : Int) then 1 else 0) := rfl
    refine ite_i (fun q => ?_) (fun q => ?_)
    · rw [if_pos q] at hs
      rw [← hs]
      exact h
    · rw [if_neg q] at hs
      rw [← hs]
      exact h
  · refine bk_230_4 ?_
    simp only [r12_57 hm]
    rw [if_neg (by omega), ← hQ]
    exact ⟨rfl, rfl⟩
theorem leastOf_ok (hm : pm w = τ) (hR : RNG τ) {k g : Nat} (hk : k < 8) (hg : g < 5) : Cal 2 229 [.inr (.inr 12), .inl k, .inl g] w (rI fun y u => y = thF τ k g 1 ∧ u = w) := by
  refine en_229 ?_
  refine CalE.to (manyIn_ok hm hR) (by decide) ?_
  rw [wr_id (x := 5 * (k : Int)) (by omega) (by omega), wr_id (by omega) (by omega), show 5 * (k : Int) + (g : Int) = ((5 * k + g : Nat) : Int) by omega]
  simp only [tn, r196 hm]
  have e : thF τ k g 1 = min (τ 196 (5 * k + g)) (kcnt (τ 180) k (τ 12 57).toNat) := by
    unfold thF
    rw [if_neg (by decide)]
  rw [e]
  refine ⟨by omega, ?_⟩
  refine ite_i (fun q => ?_) (fun q => ?_)
  · exact ⟨by omega, by omega, rfl⟩
  · exact ⟨by omega, rfl⟩
theorem mostOf_ok (hm : pm w = τ) (hR : RNG τ) {k g : Nat} (hk : k < 8) (hg : g < 5) : Cal 2 231 [.inr (.inr 12), .inl k, .inl g] w (rI fun y u => y = thF τ k g 0 ∧ u = w) := by
  refine en_231 ?_
  refine CalE.to (manyIn_ok hm hR) (by decide) ?_
  rw [wr_id (x := 5 * (k : Int)) (by omega) (by omega), wr_id (by omega) (by omega), show 5 * (k : Int) + (g : Int) = ((5 * k + g : Nat) : Int) by omega]
  simp only [tn, r197 hm]
  have e : thF τ k g 0 = min (τ 197 (5 * k + g)) (kcnt (τ 180) k (τ 12 57).toNat) := by
    unfold thF
    rw [if_pos rfl]
  rw [e]
  refine ⟨by omega, ?_⟩
  refine ite_i (fun q => ?_) (fun q => ?_)
  · exact ⟨by omega, by omega, rfl⟩
  · exact ⟨by omega, rfl⟩
theorem saysYes_ok (hm : pm w = τ) (hR : RNG τ) {k : Nat} (hk : k < 8) {x : Int} {z : Nat} (hz : stF τ x = (z : Int)) : Cal 2 228 [.inr (.inr 12), .inl k, .inl x] w (rI fun y u => y = b2 (τ 194 k < wsF τ k z) ∧ u = w) := by
  have hL := nL_9 hR
  have hp := p9 hL.1
  obtain ⟨z', h1, h2⟩ := stF_n hR x
  obtain rfl : z' = z := by omega
  generalize hQ : (rI fun y u => y = b2 (τ 194 k < wsF τ k z') ∧ u = w) = Q
  have hr := rdn_b hR k
  have hle : z' &&& rdn τ k ≤ z' := Nat.and_le_left
  have key := Ev.count (sc := none) (C := Cal 1) (cdk := cd 228) (Q := Q) (N := nL τ) (S := fun i => (19, [some (.inr (.inr 12)), some (.inl (k : Int)), none, some (.inl ((z' &&& rdn τ k : Nat) : Int)), some (.inl (wsN τ k z' i)), some (.inl (i : Int))], [], w)) (fun i hi h => ?_) ?_ 0 (Nat.zero_le _)
  · refine en_228 ?_
    refine CalE.to (mstanding_ok hm hR) (by decide) ?_
    refine ⟨by omega, ?_⟩
    simp only [tn, r195 hm, h1, hr.1]
    rw [iand_n (by omega) (by omega)]
    exact key
  · refine bk_228_19 ?_
    have hb := wsN_b hR k z' i
    have hw := hR.M_wants (9 * k + i)
    rw [wr_id (x := 9 * (k : Int)) (by omega) (by omega), wr_id (x := 9 * (k : Int) + (i : Int)) (by omega) (by omega), show 9 * (k : Int) + (i : Int) = ((9 * k + i : Nat) : Int) by omega]
    simp only [tn, r12_61 hm, r193 hm, wr_s (show i < 2000000 by omega)]
    rw [if_pos (by omega)]
    refine ite_i (fun q => ?_) (fun q => ?_)
    · rw [bit_n (by omega) (by omega)] at q
      refine ⟨by omega, ?_⟩
      rw [wr_id (by omega) (by omega)]
      refine h.cast ?_
      rw [wsN_s, if_pos q]
    · rw [bit_n (by omega) (by omega)] at q
      rw [wr_id (by omega) (by omega)]
      refine h.cast ?_
      rw [wsN_s, if_neg q]
  · refine bk_228_19 ?_
    simp only [tn, r12_61 hm, r194 hm]
    rw [if_neg (by omega), ← hQ]
    refine ⟨by omega, ?_⟩
    have e : wsF τ k z' = wsN τ k z' (nL τ) := wsN_h h2 hL.1
    unfold b2
    rw [e]
    refine ite_i (fun q => ?_) (fun q => ?_)
    · rw [if_pos q]
      exact ⟨by decide, rfl, rfl⟩
    · rw [if_neg q]
      exact ⟨by decide, rfl, rfl⟩
theorem division_ok (hm : pm w = τ) (hR : RNG τ) {x : Int} {z g : Nat} (hz : stF τ x = (z : Int)) (hg : g < 5) {b : Int} (hb : b = 0 ∨ b = 1) : Cal 3 227 [.inr (.inr 12), .inl x, .inl g, .inl b] w (rI fun y u => y = mgF τ z g b ∧ u = w) := by
  generalize hQ : (rI fun y u => y = mgF τ z g b ∧ u = w) = Q
  have key := Ev.count (sc := none) (C := Cal 2) (cdk := cd 227) (Q := Q) (N := 8) (S := fun i => (6, [some (.inr (.inr 12)), some (.inl x), some (.inl (g : Int)), some (.inl b), some (.inl (mgN τ z g b i)), some (.inl (i : Int)), none, none], [], w)) (fun i hi h => ?_) ?_ 0 (Nat.zero_le _)
  · exact en_227 key
  · refine bk_227_6 ?_
    rw [if_pos (by omega)]
    have h1 := thF_b hR i g b
    have h2 := thF_b hR i g (1 - b)
    have h3 := mgN_b hR z g b i
    have hs := mgN_s τ z g b i
    refine CalB (saysYes_ok hm hR hi hz) (by decide) (fun q => ?_) (fun q => ?_)
    · rw [if_pos q] at hs
      rcases hb with rfl | rfl
      · rw [if_neg (by decide)]
        refine CalE.to (mostOf_ok hm hR hi hg) (by decide) ?_
        rw [if_neg (by decide), wr_id (by omega) (by omega), wr_s (show i < 2000000 by omega), ← hs]
        exact h
      · rw [if_pos rfl]
        refine CalE.to (leastOf_ok hm hR hi hg) (by decide) ?_
        rw [if_neg (by decide), wr_id (by omega) (by omega), wr_s (show i < 2000000 by omega), ← hs]
        exact h
    · rw [if_neg q] at hs
      rcases hb with rfl | rfl
      · rw [if_pos rfl]
        refine CalE.to (leastOf_ok hm hR hi hg) (by decide) ?_
        rw [show (1 : Int) - 0 = 1 from rfl] at hs h2
        rw [if_pos rfl, wr_id (x := - _) (by omega) (by omega), wr_id (by omega) (by omega), wr_s (show i < 2000000 by omega), ← hs]
        exact h
      · rw [if_neg (by decide)]
        refine CalE.to (mostOf_ok hm hR hi hg) (by decide) ?_
        rw [show (1 : Int) - 1 = 0 from rfl] at hs h2
        rw [if_pos rfl, wr_id (x := - _) (by omega) (by omega), wr_id (by omega) (by omega), wr_s (show i < 2000000 by omega), ← hs]
        exact h
  · refine bk_227_6 ?_
    rw [if_neg (by omega), ← hQ]
    exact ⟨rfl, rfl⟩
end
