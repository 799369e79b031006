/-! the text in force, the reference's; rolls -/
section
variable {w κ τ : Wd}
theorem oldOn_ok (hm : pm w = τ) (hR : RNG τ) {p d : Int} : Cal 1 190 [.inr (.inr 12), .inl p, .inl d] w (rI fun y u => y = oldF τ p d ∧ u = w) := by
  have hb := hR.M_olds
  generalize hQ : (rI fun y u => y = oldF τ p d ∧ u = w) = Q
  have key := Ev.count (sc := none) (C := Cal 0) (cdk := cd 190) (Q := Q) (N := (τ 12 46).toNat) (S := fun i => (5, [some (.inr (.inr 12)), some (.inl p), some (.inl d), some (.inl (oldN τ p d i)), some (.inl (i : Int))], [], w)) (fun i hi h => ?_) ?_ 0 (Nat.zero_le _)
  · exact en_190 key
  · refine bk_190_5 ?_
    have h3 := oldN_b τ p d i
    simp only [r12_46 hm, r173 hm, r175 hm, tn, wr_s (show i < 2000000 by omega)]
    rw [if_pos (by omega)]
    repeat' (first | split | (refine And.intro (by first | omega | exact Or.inl trivial | exact Or.inr trivial | exact ⟨trivial, trivial⟩ | fail) ?_) | fail)
    all_goals refine h.cast ?_
    all_goals (simp [oldN_s, *] <;> omega)
  · refine bk_190_5 ?_
    have h3 := oldN_b τ p d (τ 12 46).toNat
    simp only [r12_46 hm, r174 hm]
    rw [if_neg (by omega)]
    subst hQ
    unfold oldF
    repeat' (first | split | (refine And.intro (by first | omega | exact Or.inl trivial | exact Or.inr trivial | exact ⟨trivial, trivial⟩ | fail) ?_) | fail)
    all_goals (first | rfl | (refine And.intro ?_ rfl; first | rfl | omega | (simp [*] <;> fail) | (simp [*]; omega) | fail) | fail)
def rolN (τ : Wd) (p t j k : Int) : Nat → Int
  | 0 => -1
  | n + 1 => if τ 147 n = p ∧ τ 148 n = t ∧ τ 149 n ≤ j ∧ τ 152 n ≤ k ∧ (rolN τ p t j k n < 0 ∨ τ 149 (rolN τ p t j k n).toNat ≤ τ 149 n) then (n : Int) else rolN τ p t j k n
theorem rolN_s (τ : Wd) (p t j k : Int) (n : Nat) : rolN τ p t j k (n + 1) = if τ 147 n = p ∧ τ 148 n = t ∧ τ 149 n ≤ j ∧ τ 152 n ≤ k ∧ (rolN τ p t j k n < 0 ∨ τ 149 (rolN τ p t j k n).toNat ≤ τ 149 n) then (n : Int) else rolN τ p t j k n := rfl
theorem rolN_b (τ : Wd) (p t j k : Int) : ∀ n, -1 ≤ rolN τ p t j k n ∧ rolN τ p t j k n < n
  | 0 => ⟨Int.le_refl _, by unfold rolN; omega⟩
  | n + 1 => by
    have := rolN_b τ p t j k n
    rw [rolN_s]
    split <;> omega
/-- the roll that counts, -1 none -/
def rolF (τ : Wd) (p t j k : Int) : Int := rolN τ p t j k (τ 12 5).toNat
theorem rolF_b {τ : Wd} (hR : RNG τ) (p t j k : Int) : -1 ≤ rolF τ p t j k ∧ rolF τ p t j k < τ 12 5 := by
  have := rolN_b τ p t j k (τ 12 5).toNat
  have := hR.M_rolls
  unfold rolF
  omega
theorem rollOn_ok (hm : pm w = τ) (hR : RNG τ) {p t j k : Int} : Cal 1 165 [.inr (.inr 12), .inl p, .inl t, .inl j, .inl k] w (rI fun y u => y = rolF τ p t j k ∧ u = w) := by
  have hb := hR.M_rolls
  generalize hQ : (rI fun y u => y = rolF τ p t j k ∧ u = w) = Q
  have key := Ev.count (sc := none) (C := Cal 0) (cdk := cd 165) (Q := Q) (N := (τ 12 5).toNat) (S := fun i => (6, [some (.inr (.inr 12)), some (.inl p), some (.inl t), some (.inl j), some (.inl k), some (.inl (rolN τ p t j k i)), some (.inl (i : Int)), none], [], w)) (fun i hi h => ?_) ?_ 0 (Nat.zero_le _)
  · exact en_165 key
  · refine bk_165_6 ?_
    have h3 := rolN_b τ p t j k i
    simp only [r12_5 hm, r147 hm, r148 hm, r149 hm, r152 hm, tn, wr_s (show i < 2000000 by omega)]
    rw [if_pos (by omega)]
    repeat' (first | split | (refine And.intro (by first | omega | exact Or.inl trivial | exact Or.inr trivial | exact ⟨trivial, trivial⟩ | fail) ?_) | fail)
    all_goals refine h.cast ?_
    all_goals (simp [rolN_s, *] <;> omega)
  · refine bk_165_6 ?_
    simp only [r12_5 hm]
    rw [if_neg (by omega)]
    subst hQ
    exact ⟨rfl, rfl⟩
/-- the class's roll: index or -9, its day or -1 -/
def ciN (τ : Wd) (p t j k : Int) (n : Nat) : Int := if rolN τ p t j k n < 0 then -9 else rolN τ p t j k n
def cdN (τ : Wd) (p t j k : Int) (n : Nat) : Int := if rolN τ p t j k n < 0 then -1 else τ 149 (rolN τ p t j k n).toNat
theorem c_s {τ : Wd} (hR : RNG τ) (p t j k : Int) (n : Nat) : (ciN τ p t j k (n + 1) = if τ 147 n = p ∧ τ 148 n = t ∧ τ 149 n ≤ j ∧ τ 152 n ≤ k ∧ cdN τ p t j k n ≤ τ 149 n then (n : Int) else ciN τ p t j k n) ∧ (cdN τ p t j k (n + 1) = if τ 147 n = p ∧ τ 148 n = t ∧ τ 149 n ≤ j ∧ τ 152 n ≤ k ∧ cdN τ p t j k n ≤ τ 149 n then τ 149 n else cdN τ p t j k n) := by
  have h2 := hR.M_rDay n
  have h5 : -1 ≤ τ 149 n := by omega
  have hn : ¬ ((n : Int) < 0) := by omega
  have hc : τ 147 n = p ∧ τ 148 n = t ∧ τ 149 n ≤ j ∧ τ 152 n ≤ k ∧ (rolN τ p t j k n < 0 ∨ τ 149 (rolN τ p t j k n).toNat ≤ τ 149 n) ↔ τ 147 n = p ∧ τ 148 n = t ∧ τ 149 n ≤ j ∧ τ 152 n ≤ k ∧ cdN τ p t j k n ≤ τ 149 n := by
    unfold cdN
    by_cases q : rolN τ p t j k n < 0
    · simp [q, h5]
    · simp [q]
  by_cases q : τ 147 n = p ∧ τ 148 n = t ∧ τ 149 n ≤ j ∧ τ 152 n ≤ k ∧ cdN τ p t j k n ≤ τ 149 n
  · have e : rolN τ p t j k (n + 1) = (n : Int) := by rw [rolN_s, if_pos (hc.mpr q)]
    rw [if_pos q, if_pos q]
    simp only [ciN, cdN, e, if_neg hn, tn, and_self]
  · have e : rolN τ p t j k (n + 1) = rolN τ p t j k n := by rw [rolN_s, if_neg (fun z => q (hc.mp z))]
    rw [if_neg q, if_neg q]
    simp only [ciN, cdN, e, and_self]
theorem find_ok (hc : pc w = κ) (hm : pm w = τ) (hE : EQ κ τ) (hR : RNG τ) {p t x j k : Int} (hx : x = 2 * p + t) (ht : 0 ≤ t ∧ t ≤ 1) : Cal 1 24 [.inr (.inr 7), .inl x, .inl j, .inl k] w (rI fun y u => y = (if rolF τ p t j k < 0 then -9 else rolF τ p t j k) ∧ u = w) := by
  have hb := hR.M_rolls
  generalize hQ : (rI fun y u => y = (if rolF τ p t j k < 0 then -9 else rolF τ p t j k) ∧ u = w) = Q
  have key := Ev.count (sc := none) (C := Cal 0) (cdk := cd 24) (Q := Q) (N := (τ 12 5).toNat) (S := fun i => (10, [some (.inr (.inr 7)), some (.inl x), some (.inl j), some (.inl k), some (.inl (ciN τ p t j k i)), some (.inl (cdN τ p t j k i)), some (.inl (i : Int)), none], [], w)) (fun i hi h => ?_) ?_ 0 (Nat.zero_le _)
  · exact en_24 key
  · refine bk_24_10 ?_
    have hw := hR.M_rWhat i
    simp only [r7_5 hc, hE.Rolls_size, r104 hc, hE.subj, r105 hc, hE.Rolls_asOf, r106 hc, hE.Rolls_toldOn, tn, wr_s (show i < 2000000 by omega)]
    have hs : 2 * τ 147 i + τ 148 i = x ↔ τ 147 i = p ∧ τ 148 i = t := by omega
    simp only [hs]
    rw [if_pos (by omega)]
    repeat' (first | split | (refine And.intro (by first | omega | exact Or.inl trivial | exact Or.inr trivial | exact ⟨trivial, trivial⟩ | fail) ?_) | fail)
    all_goals refine h.cast ?_
    all_goals (simp [(c_s hR p t j k i).1, (c_s hR p t j k i).2, *] <;> omega)
  · refine bk_24_10 ?_
    simp only [r7_5 hc, hE.Rolls_size]
    rw [if_neg (by omega)]
    subst hQ
    exact ⟨rfl, rfl⟩
/-- the number of a roll (0 without), and by how much it may be wrong -/
def valF (τ : Wd) (r : Int) : Int := if r < 0 then 0 else τ 150 r.toNat
def wroF (τ : Wd) (r : Int) : Int := if r < 0 then 0 else τ 151 r.toNat
theorem valueOf_ok (hc : pc w = κ) (hE : EQ κ τ) (hR : RNG τ) {r : Int} (h : r < τ 12 5) : Cal 1 26 [.inr (.inr 7), .inl r] w (rI fun y u => y = valF τ r ∧ u = w) := by
  refine en_26 ?_
  have hb := hR.M_rolls
  simp only [r7_5 hc, hE.Rolls_size, r107 hc, hE.Rolls_values]
  unfold valF
  repeat' (first | split | (refine And.intro (by first | omega | exact Or.inl trivial | exact Or.inr trivial | exact ⟨trivial, trivial⟩ | fail) ?_) | fail)
  all_goals (first | rfl | (refine And.intro ?_ rfl; first | rfl | omega | (simp [*] <;> fail) | (simp [*]; omega) | fail) | fail)
theorem wrongOf_ok (hc : pc w = κ) (hE : EQ κ τ) (hR : RNG τ) {r : Int} (h : r < τ 12 5) : Cal 1 25 [.inr (.inr 7), .inl r] w (rI fun y u => y = wroF τ r ∧ u = w) := by
  refine en_25 ?_
  have hb := hR.M_rolls
  simp only [r7_5 hc, hE.Rolls_size, r108 hc, hE.Rolls_wrongs]
  unfold wroF
  repeat' (first | split | (refine And.intro (by first | omega | exact Or.inl trivial | exact Or.inr trivial | exact ⟨trivial, trivial⟩ | fail) ?_) | fail)
  all_goals (first | rfl | (refine And.intro ?_ rfl; first | rfl | omega | (simp [*] <;> fail) | (simp [*]; omega) | fail) | fail)
end
