/-! the list -/
def rkN (τ : Wd) (p j k : Int) : Nat → Int
  | 0 => 0
  | n + 1 => rkN τ p j k n + (if scF τ n j k 0 < scF τ p j k 0 ∨ scF τ n j k 0 = scF τ p j k 0 ∧ (n : Int) < p then 1 else 0)
theorem rkN_s (τ : Wd) (p j k : Int) (n : Nat) : rkN τ p j k (n + 1) = rkN τ p j k n + (if scF τ n j k 0 < scF τ p j k 0 ∨ scF τ n j k 0 = scF τ p j k 0 ∧ (n : Int) < p then 1 else 0) := rfl
theorem rkN_b (τ : Wd) (p j k : Int) : ∀ n : Nat, 0 ≤ rkN τ p j k n ∧ rkN τ p j k n ≤ n
  | 0 => ⟨Int.le_refl _, Int.le_refl _⟩
  | n + 1 => by
    have := rkN_b τ p j k n
    rw [rkN_s]
    split <;> omega
/-- RANK -/
def rkF (τ : Wd) (p j k : Int) : Int := rkN τ p j k (τ 12 1).toNat
/-- least and greatest RANK -/
def lrN (τ : Wd) (p j k : Int) : Nat → Int
  | 0 => 0
  | n + 1 => lrN τ p j k n + (if scF τ n j k 1 < scF τ p j k (-1) then 1 else 0)
def grN (τ : Wd) (p j k : Int) : Nat → Int
  | 0 => 0
  | n + 1 => grN τ p j k n + (if ¬ (n : Int) = p ∧ scF τ n j k (-1) ≤ scF τ p j k 1 then 1 else 0)
theorem lrN_s (τ : Wd) (p j k : Int) (n : Nat) : lrN τ p j k (n + 1) = lrN τ p j k n + (if scF τ n j k 1 < scF τ p j k (-1) then 1 else 0) := rfl
theorem grN_s (τ : Wd) (p j k : Int) (n : Nat) : grN τ p j k (n + 1) = grN τ p j k n + (if ¬ (n : Int) = p ∧ scF τ n j k (-1) ≤ scF τ p j k 1 then 1 else 0) := rfl
theorem lrN_b (τ : Wd) (p j k : Int) : ∀ n : Nat, 0 ≤ lrN τ p j k n ∧ lrN τ p j k n ≤ n
  | 0 => ⟨Int.le_refl _, Int.le_refl _⟩
  | n + 1 => by
    have := lrN_b τ p j k n
    rw [lrN_s]
    split <;> omega
theorem grN_b (τ : Wd) (p j k : Int) : ∀ n : Nat, 0 ≤ grN τ p j k n ∧ grN τ p j k n ≤ n
  | 0 => ⟨Int.le_refl _, Int.le_refl _⟩
  | n + 1 => by
    have := grN_b τ p j k n
    rw [grN_s]
    split <;> omega
def lrF (τ : Wd) (p j k : Int) : Int := lrN τ p j k (τ 12 1).toNat
def grF (τ : Wd) (p j k : Int) : Int := grN τ p j k (τ 12 1).toNat
theorem scF_b {τ : Wd} (hR : RNG τ) (p j k b : Int) (hb : -1 ≤ b ∧ b ≤ 1) : 0 ≤ scF τ p j k b ∧ scF τ p j k b ≤ 3000000 := by
  have := scN_b hR p j k b hb 2
  unfold scF
  omega
/-- what the class's list holds -/
def DL (τ : Wd) (j k : Int) (u : Wd) : Prop := u 7 11 = τ 12 1 ∧ ∀ q : Nat, (q : Int) < τ 12 1 → u 110 q = valF τ (rolF τ q 0 j k) ∧ u 111 q = scF τ q j k 0 ∧ u 112 q = scF τ q j k (-1) ∧ u 113 q = scF τ q j k 1
section
variable {w κ τ : Wd}
theorem mRankOf_ok (hm : pm w = τ) (hR : RNG τ) {p j k : Int} : Cal 3 170 [.inr (.inr 12), .inl p, .inl j, .inl k] w (rI fun y u => y = rkF τ p j k ∧ u = w) := by
  have hb := hR.M_places
  generalize hQ : (rI fun y u => y = rkF τ p j k ∧ u = w) = Q
  have key := Ev.count (sc := none) (C := Cal 2) (cdk := cd 170) (Q := Q) (N := (τ 12 1).toNat) (S := fun i => (16, [some (.inr (.inr 12)), some (.inl p), some (.inl j), some (.inl k), some (.inl (rkN τ p j k i)), some (.inl (scF τ p j k 0)), some (.inl (i : Int)), none], [], w)) (fun i hi h => ?_) ?_ 0 (Nat.zero_le _)
  · refine en_170 ?_
    refine CalE.to (scoreOf_ok hm hR (by omega)) (by decide) ?_
    exact key
  · refine bk_170_16 ?_
    have h3 := rkN_b τ p j k i
    simp only [r12_1 hm, tn, wr_s (show i < 2000000 by omega)]
    rw [if_pos (by omega)]
    refine CalE.to (scoreOf_ok hm hR (by omega)) (by decide) ?_
    rw [wr_id (by omega) (by omega), wr_id (by omega) (by omega)]
    repeat' (first | split | (refine And.intro (by first | omega | exact Or.inl trivial | exact Or.inr trivial | exact ⟨trivial, trivial⟩ | fail) ?_) | fail)
    all_goals refine h.cast ?_
    all_goals (simp [rkN_s, *] <;> omega)
  · refine bk_170_16 ?_
    simp only [r12_1 hm]
    rw [if_neg (by omega)]
    subst hQ
    exact ⟨rfl, rfl⟩
theorem rankOf_ok (hR : RNG τ) {p j k : Int} (hp : 0 ≤ p ∧ p < τ 12 1) (hL : DL τ j k w) : Cal 1 32 [.inr (.inr 7), .inl p] w (rI fun y u => y = rkF τ p j k ∧ u = w) := by
  have hb := hR.M_places
  obtain ⟨q, rfl⟩ : ∃ q : Nat, p = (q : Int) := ⟨p.toNat, by omega⟩
  generalize hQ : (rI fun y u => y = rkF τ q j k ∧ u = w) = Q
  have key := Ev.count (sc := none) (C := Cal 0) (cdk := cd 32) (Q := Q) (N := (τ 12 1).toNat) (S := fun i => (4, [some (.inr (.inr 7)), some (.inl q), some (.inl (rkN τ q j k i)), some (.inl (i : Int)), none], [], w)) (fun i hi h => ?_) ?_ 0 (Nat.zero_le _)
  · exact en_32 key
  · refine bk_32_4 ?_
    have h3 := rkN_b τ q j k i
    have h4 := (hL.2 i (by omega)).2.1
    have h5 := (hL.2 q (by omega)).2.1
    simp only [hL.1, tn, h4, h5, wr_s (show i < 2000000 by omega)]
    rw [if_pos (by omega)]
    rw [wr_id (by omega) (by omega)]
    repeat' (first | split | (refine And.intro (by first | omega | exact Or.inl trivial | exact Or.inr trivial | exact ⟨trivial, trivial⟩ | fail) ?_) | fail)
    all_goals refine h.cast ?_
    all_goals (simp [rkN_s, *] <;> omega)
  · refine bk_32_4 ?_
    simp only [hL.1]
    rw [if_neg (by omega)]
    subst hQ
    exact ⟨rfl, rfl⟩
theorem leastRankOf_ok (hR : RNG τ) {p j k : Int} (hp : 0 ≤ p ∧ p < τ 12 1) (hL : DL τ j k w) : Cal 1 33 [.inr (.inr 7), .inl p] w (rI fun y u => y = lrF τ p j k ∧ u = w) := by
  have hb := hR.M_places
  obtain ⟨q, rfl⟩ : ∃ q : Nat, p = (q : Int) := ⟨p.toNat, by omega⟩
  generalize hQ : (rI fun y u => y = lrF τ q j k ∧ u = w) = Q
  have key := Ev.count (sc := none) (C := Cal 0) (cdk := cd 33) (Q := Q) (N := (τ 12 1).toNat) (S := fun i => (4, [some (.inr (.inr 7)), some (.inl q), some (.inl (lrN τ q j k i)), some (.inl (i : Int))], [], w)) (fun i hi h => ?_) ?_ 0 (Nat.zero_le _)
  · exact en_33 key
  · refine bk_33_4 ?_
    have h3 := lrN_b τ q j k i
    have h4 := (hL.2 i (by omega)).2.2.2
    have h5 := (hL.2 q (by omega)).2.2.1
    simp only [hL.1, tn, h4, h5, wr_s (show i < 2000000 by omega)]
    rw [if_pos (by omega)]
    rw [wr_id (by omega) (by omega)]
    repeat' (first | split | (refine And.intro (by first | omega | exact Or.inl trivial | exact Or.inr trivial | exact ⟨trivial, trivial⟩ | fail) ?_) | fail)
    all_goals refine h.cast ?_
    all_goals (simp [lrN_s, *] <;> omega)
  · refine bk_33_4 ?_
    simp only [hL.1]
    rw [if_neg (by omega)]
    subst hQ
    exact ⟨rfl, rfl⟩
theorem greatestRankOf_ok (hR : RNG τ) {p j k : Int} (hp : 0 ≤ p ∧ p < τ 12 1) (hL : DL τ j k w) : Cal 1 34 [.inr (.inr 7), .inl p] w (rI fun y u => y = grF τ p j k ∧ u = w) := by
  have hb := hR.M_places
  obtain ⟨q, rfl⟩ : ∃ q : Nat, p = (q : Int) := ⟨p.toNat, by omega⟩
  generalize hQ : (rI fun y u => y = grF τ q j k ∧ u = w) = Q
  have key := Ev.count (sc := none) (C := Cal 0) (cdk := cd 34) (Q := Q) (N := (τ 12 1).toNat) (S := fun i => (4, [some (.inr (.inr 7)), some (.inl q), some (.inl (grN τ q j k i)), some (.inl (i : Int))], [], w)) (fun i hi h => ?_) ?_ 0 (Nat.zero_le _)
  · exact en_34 key
  · refine bk_34_4 ?_
    have h3 := grN_b τ q j k i
    have h4 := (hL.2 i (by omega)).2.2.1
    have h5 := (hL.2 q (by omega)).2.2.2
    simp only [hL.1, tn, h4, h5, wr_s (show i < 2000000 by omega)]
    rw [if_pos (by omega)]
    rw [wr_id (by omega) (by omega)]
    repeat' (first | split | (refine And.intro (by first | omega | exact Or.inl trivial | exact Or.inr trivial | exact ⟨trivial, trivial⟩ | fail) ?_) | fail)
    all_goals refine h.cast ?_
    all_goals (simp [grN_s, *] <;> omega)
  · refine bk_34_4 ?_
    simp only [hL.1]
    rw [if_neg (by omega)]
    subst hQ
    exact ⟨rfl, rfl⟩
end
