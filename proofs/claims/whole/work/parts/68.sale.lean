/-! the first of a kind, as a relation; seats sold twice -/
def FST (P : Nat → Prop) (N : Nat) (y : Int) : Prop := (y = -9 ∧ ∀ s, s < N → ¬ P s) ∨ (∃ n : Nat, n < N ∧ y = (n : Int) ∧ P n ∧ ∀ s, s < n → ¬ P s)
theorem FST_u {P P' : Nat → Prop} {N : Nat} {x y : Int} (hx : FST P N x) (hy : FST P' N y) (h : ∀ s, s < N → (P s ↔ P' s)) : x = y := by
  rcases hx with ⟨rfl, h1⟩ | ⟨n, hn, rfl, h1, h2⟩
  · rcases hy with ⟨rfl, _⟩ | ⟨m, hm, rfl, h3, _⟩
    · rfl
    · exact absurd ((h m hm).2 h3) (h1 m hm)
  · rcases hy with ⟨rfl, h3⟩ | ⟨m, hm, rfl, h3, h4⟩
    · exact absurd ((h n hn).1 h1) (h3 n hn)
    · rcases Nat.lt_trichotomy n m with q | q | q
      · exact absurd ((h n hn).1 h1) (h4 n q)
      · rw [q]
      · exact absurd ((h m hm).2 h3) (h2 m q)
def svC (τ : Wd) (s : Nat) (d : Int) (a : Nat) : Prop := τ 176 a = τ 176 s ∧ τ 177 a ≤ d ∧ d ≤ τ 178 a
def cnN (τ : Wd) (s : Nat) (d : Int) : Nat → Int
  | 0 => 0
  | n + 1 => cnN τ s d n + (if τ 176 n = τ 176 s ∧ τ 177 n ≤ d ∧ d ≤ τ 178 n then 1 else 0)
theorem cnN_s (τ : Wd) (s : Nat) (d : Int) (n : Nat) : cnN τ s d (n + 1) = cnN τ s d n + (if τ 176 n = τ 176 s ∧ τ 177 n ≤ d ∧ d ≤ τ 178 n then 1 else 0) := rfl
theorem cnN_b (τ : Wd) (s : Nat) (d : Int) (n : Nat) : 0 ≤ cnN τ s d n ∧ cnN τ s d n ≤ n := by
  induction n with
  | zero => exact ⟨Int.le_refl _, Int.le_refl _⟩
  | succ n ih => rw [cnN_s]; split <;> omega
theorem cnN_1 (τ : Wd) (s : Nat) (d : Int) (n : Nat) : 1 ≤ cnN τ s d n ↔ ∃ a, a < n ∧ svC τ s d a := by
  induction n with
  | zero => exact ⟨fun h => absurd h (by show ¬ (1 : Int) ≤ 0; omega), fun ⟨a, h, _⟩ => absurd h (Nat.not_lt_zero a)⟩
  | succ n ih =>
    have hb := cnN_b τ s d n
    rw [cnN_s]
    constructor
    · intro h
      by_cases q : svC τ s d n
      · exact ⟨n, by omega, q⟩
      · unfold svC at q
        rw [if_neg q] at h
        obtain ⟨a, ha, hc⟩ := ih.1 (by omega)
        exact ⟨a, by omega, hc⟩
    · rintro ⟨a, ha, hc⟩
      by_cases e : a = n
      · subst e
        unfold svC at hc
        rw [if_pos hc]
        omega
      · have := ih.2 ⟨a, by omega, hc⟩
        split <;> omega
theorem cnN_2 (τ : Wd) (s : Nat) (d : Int) (n : Nat) : 2 ≤ cnN τ s d n ↔ ∃ a b, a < n ∧ b < a ∧ svC τ s d a ∧ svC τ s d b := by
  induction n with
  | zero => exact ⟨fun h => absurd h (by show ¬ (2 : Int) ≤ 0; omega), fun ⟨a, _, h, _⟩ => absurd h (Nat.not_lt_zero a)⟩
  | succ n ih =>
    have hb := cnN_b τ s d n
    rw [cnN_s]
    constructor
    · intro h
      by_cases q : svC τ s d n
      · have q2 := q
        unfold svC at q2
        rw [if_pos q2] at h
        obtain ⟨b, hb, hc⟩ := (cnN_1 τ s d n).1 (by omega)
        exact ⟨n, b, by omega, hb, q, hc⟩
      · unfold svC at q
        rw [if_neg q] at h
        obtain ⟨a, b, ha, hb, hc⟩ := ih.1 (by omega)
        exact ⟨a, b, by omega, hb, hc⟩
    · rintro ⟨a, b, ha, hba, hc, hd⟩
      by_cases e : a = n
      · subst e
        have h1 := (cnN_1 τ s d a).2 ⟨b, hba, hd⟩
        unfold svC at hc
        rw [if_pos hc]
        omega
      · have := ih.2 ⟨a, b, by omega, hba, hc, hd⟩
        split <;> omega
/-- too many, as the class has it -/
def tooC (τ : Wd) (m : Int) (s : Nat) : Prop := ∃ i, i < s + 1 ∧ svC τ s (τ 177 i) s ∧ τ 176 i = τ 176 s ∧ m ≤ cnN τ s (τ 177 i) s
def ovl (τ : Wd) (s a b : Nat) : Prop := max (τ 177 s) (max (τ 177 a) (τ 177 b)) ≤ min (τ 178 s) (min (τ 178 a) (τ 178 b))
def botR (τ : Wd) (m : Int) (s a b : Nat) : Prop := τ 176 a = τ 176 s ∧ τ 176 b = τ 176 s ∧ (m = 1 → a = b) ∧ (¬ m = 1 → ¬ a = b)
/-- too many, as the reference has it -/
def tooR (τ : Wd) (m : Int) (s : Nat) : Prop := m = 0 ∨ ∃ a b, a < s ∧ b < a + 1 ∧ botR τ m s a b ∧ ovl τ s a b
theorem too_eq {τ : Wd} (hR : RNG τ) {m : Int} (hm : 0 ≤ m ∧ m ≤ 2) (s : Nat) : tooC τ m s ↔ tooR τ m s := by
  have hs := hR.M_sFrom s
  obtain rfl | rfl | rfl : m = 0 ∨ m = 1 ∨ m = 2 := by omega
  · exact ⟨fun _ => Or.inl rfl, fun _ => ⟨s, by omega, ⟨rfl, by omega, by omega⟩, rfl, (cnN_b τ s _ s).1⟩⟩
  · constructor
    · rintro ⟨i, hi, ⟨_, h1, h2⟩, _, h4⟩
      obtain ⟨a, ha, h5, h6, h7⟩ := (cnN_1 τ s _ s).1 h4
      refine Or.inr ⟨a, a, ha, by omega, ⟨h5, h5, fun _ => rfl, fun h => absurd rfl h⟩, ?_⟩
      unfold ovl
      omega
    · rintro (h | ⟨a, b, ha, hb, ⟨h1, h2, h3, _⟩, h5⟩)
      · omega
      · obtain rfl := h3 rfl
        unfold ovl at h5
        by_cases q : τ 177 s ≤ τ 177 a
        · exact ⟨a, by omega, ⟨rfl, by omega, by omega⟩, h1, (cnN_1 τ s _ s).2 ⟨a, ha, h1, by omega, by omega⟩⟩
        · exact ⟨s, by omega, ⟨rfl, by omega, by omega⟩, rfl, (cnN_1 τ s _ s).2 ⟨a, ha, h1, by omega, by omega⟩⟩
  · constructor
    · rintro ⟨i, hi, ⟨_, h1, h2⟩, _, h4⟩
      obtain ⟨a, b, ha, hba, ⟨h5, h6, h7⟩, h8, h9, h10⟩ := (cnN_2 τ s _ s).1 h4
      refine Or.inr ⟨a, b, ha, by omega, ⟨h5, h8, fun h => absurd h (by decide), fun _ => by omega⟩, ?_⟩
      unfold ovl
      omega
    · rintro (h | ⟨a, b, ha, hb, ⟨h1, h2, _, h3⟩, h5⟩)
      · omega
      · have hne := h3 (by decide)
        unfold ovl at h5
        have k : ∀ i, i < s + 1 → τ 176 i = τ 176 s → τ 177 s ≤ τ 177 i → τ 177 a ≤ τ 177 i → τ 177 b ≤ τ 177 i → τ 177 i ≤ min (τ 178 s) (min (τ 178 a) (τ 178 b)) → tooC τ 2 s := fun i hi hp g1 g2 g3 g4 => ⟨i, hi, ⟨rfl, by omega, by omega⟩, hp, (cnN_2 τ s _ s).2 ⟨a, b, ha, by omega, ⟨h1, by omega, by omega⟩, h2, by omega, by omega⟩⟩
        by_cases q1 : τ 177 a ≤ τ 177 s ∧ τ 177 b ≤ τ 177 s
        · exact k s (by omega) rfl (by omega) (by omega) (by omega) (by omega)
        · by_cases q2 : τ 177 b ≤ τ 177 a
          · exact k a (by omega) h1 (by omega) (by omega) (by omega) (by omega)
          · exact k b (by omega) h2 (by omega) (by omega) (by omega) (by omega)
section
variable {w κ τ : Wd} {T : Wd → Wd → Prop}
theorem covers_ok (hc : pc w = κ) (hE : EQ κ τ) {s : Nat} {d : Int} (hs : s < 30) : Cal 1 86 [.inr (.inr 8), .inl s, .inl d] w (rI fun y u => y = b2 (τ 177 s ≤ d ∧ d ≤ τ 178 s) ∧ u = w) := by
  refine en_86 ?_
  simp only [r115 hc, hE.Sales_froms, r116 hc, hE.Sales_tos, tn]
  try unfold b2
  repeat' (first | split | (refine And.intro (by first | omega | exact Or.inl trivial | exact Or.inr trivial | exact ⟨trivial, trivial⟩ | fail) ?_) | fail)
  all_goals (first | rfl | exact ⟨rfl, rfl⟩ | exact ⟨by omega, rfl⟩ | fail)
theorem countAhead_ok (hc : pc w = κ) (hE : EQ κ τ) {s : Nat} {d : Int} (hs : s < 30) : Cal 2 87 [.inr (.inr 8), .inl s, .inl d] w (rI fun y u => y = cnN τ s d s ∧ u = w) := by
  generalize hQ : (rI fun y u => y = cnN τ s d s ∧ u = w) = Q
  have key := Ev.count (sc := none) (C := Cal 1) (cdk := cd 87) (Q := Q) (N := s) (S := fun i => (5, [some (.inr (.inr 8)), some (.inl (s : Int)), some (.inl d), some (.inl (cnN τ s d i)), some (.inl (i : Int))], [], w)) (fun i hi h => ?_) ?_ 0 (Nat.zero_le _)
  · exact en_87 key
  · refine bk_87_5 ?_
    have hb := cnN_b τ s d i
    simp only [r114 hc, hE.Sales_sold, tn, wr_s (show i < 2000000 by omega)]
    rw [if_pos (by omega), wr_id (x := cnN τ s d i + 1) (by omega) (by omega)]
    refine ⟨by omega, by omega, ?_⟩
    refine ite_i (fun q => ?_) (fun q => ?_)
    · refine CalB (covers_ok hc hE (by omega)) (by decide) (fun r => ?_) (fun r => ?_)
      · rw [if_neg (by decide)]
        refine h.cast ?_
        rw [cnN_s, if_pos ⟨q, r⟩]
      · rw [if_pos rfl]
        refine h.cast ?_
        rw [cnN_s, if_neg (fun z => r z.2), Int.add_zero]
    · refine h.cast ?_
      rw [cnN_s, if_neg (fun z => q z.1), Int.add_zero]
  · refine bk_87_5 ?_
    rw [if_neg (by omega), ← hQ]
    exact ⟨rfl, rfl⟩
theorem isTooMany_ok (hc : pc w = κ) (hE : EQ κ τ) {s : Nat} {m : Int} (hs : s < 30) : Cal 3 85 [.inr (.inr 8), .inl s, .inl m] w (rI fun y u => ((y = 0 ∧ ¬ tooC τ m s) ∨ (y = 1 ∧ tooC τ m s)) ∧ u = w) := by
  generalize hQ : (rI fun y u => ((y = 0 ∧ ¬ tooC τ m s) ∨ (y = 1 ∧ tooC τ m s)) ∧ u = w) = Q
  have key := Ev.inv (sc := none) (C := Cal 2) (cdk := cd 85) (Q := Q) (N := s + 1) (I := fun i t => t = (2, [some (.inr (.inr 8)), some (.inl (s : Int)), some (.inl m), some (.inl (i : Int))], [], w) ∧ ∀ j, j < i → ¬ (svC τ s (τ 177 j) s ∧ τ 176 j = τ 176 s ∧ m ≤ cnN τ s (τ 177 j) s)) (fun i hi t ht h => ?_) (fun t ht => ?_) 0 (Nat.zero_le _)
  · exact en_85 (key _ ⟨rfl, fun j hj => absurd hj (Nat.not_lt_zero j)⟩)
  · obtain ⟨rfl, hn⟩ := ht
    refine bk_85_2 ?_
    simp only [r114 hc, hE.Sales_sold, r115 hc, hE.Sales_froms, tn, wr_s (show i < 2000000 by omega)]
    rw [if_neg (by omega)]
    refine ⟨by omega, by omega, ?_⟩
    have nx : ¬ (svC τ s (τ 177 i) s ∧ τ 176 i = τ 176 s ∧ m ≤ cnN τ s (τ 177 i) s) → Ev none (Cal 2) (cd 85) Q (2, [some (.inr (.inr 8)), some (.inl (s : Int)), some (.inl m), some (.inl ((i + 1 : Nat) : Int))], [], w) := fun g => h _ ⟨rfl, fun j hj => by
      rcases Nat.lt_or_ge j i with z | z
      · exact hn j z
      · obtain rfl : j = i := by omega
        exact g⟩
    refine ite_i (fun q => ?_) (fun q => ?_)
    · refine ⟨by omega, ?_⟩
      refine CalB (covers_ok hc hE hs) (by decide) (fun r => ?_) (fun r => ?_)
      · rw [if_neg (by decide)]
        simp only [r115 hc, hE.Sales_froms, tn]
        refine ⟨by omega, ?_⟩
        refine CalE.to (countAhead_ok hc hE hs) (by decide) ?_
        refine ite_i (fun z => ?_) (fun z => ?_)
        · exact nx (fun g => by omega)
        · refine ⟨by decide, ?_⟩
          rw [← hQ]
          exact ⟨Or.inr ⟨rfl, i, hi, ⟨rfl, r⟩, q, by omega⟩, rfl⟩
      · rw [if_pos rfl]
        exact nx (fun g => r g.1.2)
    · exact nx (fun g => q g.2.1)
  · obtain ⟨rfl, hn⟩ := ht
    refine bk_85_2 ?_
    rw [if_pos (by omega), ← hQ]
    refine ⟨by decide, Or.inl ⟨rfl, ?_⟩, rfl⟩
    rintro ⟨i, hi, g⟩
    exact hn i hi g
theorem firstTooMany_ok (hc : pc w = κ) (hE : EQ κ τ) (hR : RNG τ) {p m : Int} : Cal 4 84 [.inr (.inr 8), .inl p, .inl m] w (rI fun y u => FST (fun s => τ 176 s = p ∧ tooC τ m s) (τ 12 50).toNat y ∧ u = w) := by
  have hb := hR.M_sales
  generalize hQ : (rI fun y u => FST (fun s => τ 176 s = p ∧ tooC τ m s) (τ 12 50).toNat y ∧ u = w) = Q
  have key := Ev.inv (sc := none) (C := Cal 3) (cdk := cd 84) (Q := Q) (N := (τ 12 50).toNat) (I := fun i t => t = (2, [some (.inr (.inr 8)), some (.inl p), some (.inl m), some (.inl (i : Int))], [], w) ∧ ∀ j, j < i → ¬ (τ 176 j = p ∧ tooC τ m j)) (fun i hi t ht h => ?_) (fun t ht => ?_) 0 (Nat.zero_le _)
  · exact en_84 (key _ ⟨rfl, fun j hj => absurd hj (Nat.not_lt_zero j)⟩)
  · obtain ⟨rfl, hn⟩ := ht
    refine bk_84_2 ?_
    simp only [r114 hc, hE.Sales_sold, r8_3 hc, hE.Sales_size, tn, wr_s (show i < 2000000 by omega)]
    rw [if_pos (by omega)]
    refine ⟨by omega, ?_⟩
    have nx : ¬ (τ 176 i = p ∧ tooC τ m i) → Ev none (Cal 3) (cd 84) Q (2, [some (.inr (.inr 8)), some (.inl p), some (.inl m), some (.inl ((i + 1 : Nat) : Int))], [], w) := fun g => h _ ⟨rfl, fun j hj => by
      rcases Nat.lt_or_ge j i with z | z
      · exact hn j z
      · obtain rfl : j = i := by omega
        exact g⟩
    refine ite_i (fun q => ?_) (fun q => ?_)
    · refine CalI.to (isTooMany_ok hc hE (by omega)) (by decide) ?_
      rintro y u ⟨⟨rfl, r⟩ | ⟨rfl, r⟩, rfl⟩
      · rw [if_pos rfl]
        exact nx (fun g => r g.2)
      · rw [if_neg (by decide), ← hQ]
        exact ⟨Or.inr ⟨i, hi, rfl, ⟨q, r⟩, hn⟩, rfl⟩
    · exact nx (fun g => q g.1)
  · obtain ⟨rfl, hn⟩ := ht
    refine bk_84_2 ?_
    simp only [r8_3 hc, hE.Sales_size]
    rw [if_neg (by omega), ← hQ]
    exact ⟨Or.inl ⟨rfl, hn⟩, rfl⟩
theorem sh_170 (hm : pm w = τ) {d : Nat} {Q : Option AV → Wd → Prop} {s a b : Nat} {m s0 f t : Int} (hs : s < 30) (hb : b < 30) (h0 : (s0 = 0 ∨ ¬ f ≤ min t (τ 178 s)) → Ev none (Cal d) (cd 197) Q (16, [some (.inr (.inr 12)), some (.inl (s : Int)), some (.inl m), some (.inl (a : Int)), some (.inl ((b + 1 : Nat) : Int)), none, none, none], [], w)) (h1 : ¬ s0 = 0 → f ≤ min t (τ 178 s) → Q (some (.inl 1)) w) : Ev none (Cal d) (cd 197) Q (170, [some (.inr (.inr 12)), some (.inl (s : Int)), some (.inl m), some (.inl (a : Int)), some (.inl (b : Int)), some (.inl s0), none, some (.inl t)], [.inl f], w) := by
  refine bk_197_170 ?_
  simp only [r178 hm, tn, wr_s (show b < 2000000 by omega)]
  refine ⟨by omega, ?_⟩
  repeat' (first | split | (refine And.intro (by first | omega | exact Or.inl trivial | exact Or.inr trivial | exact ⟨trivial, trivial⟩ | fail) ?_) | fail)
  all_goals (first | exact h0 (by omega) | exact h1 (by omega) (by omega))
theorem sh_78 (hm : pm w = τ) {d : Nat} {Q : Option AV → Wd → Prop} {s a b : Nat} {m s0 : Int} (hs : s < 30) (ha : a < 30) (hb : b < 30) (h0 : (s0 = 0 ∨ ¬ ovl τ s a b) → Ev none (Cal d) (cd 197) Q (16, [some (.inr (.inr 12)), some (.inl (s : Int)), some (.inl m), some (.inl (a : Int)), some (.inl ((b + 1 : Nat) : Int)), none, none, none], [], w)) (h1 : ¬ s0 = 0 → ovl τ s a b → Q (some (.inl 1)) w) : Ev none (Cal d) (cd 197) Q (78, [some (.inr (.inr 12)), some (.inl (s : Int)), some (.inl m), some (.inl (a : Int)), some (.inl (b : Int)), none, none, none], [.inl s0], w) := by
  refine bk_197_78 ?_
  simp only [r177 hm, r178 hm, tn]
  unfold ovl at h0 h1
  repeat' (first | split | (refine And.intro (by first | omega | exact Or.inl trivial | exact Or.inr trivial | exact ⟨trivial, trivial⟩ | fail) ?_) | fail)
  all_goals (refine sh_170 hm hs hb (fun g => h0 ?_) (fun g1 g2 => h1 g1 ?_))
  all_goals omega
theorem shares_ok (hm : pm w = τ) {s : Nat} {m : Int} (hs : s < 30) : Cal 1 197 [.inr (.inr 12), .inl s, .inl m] w (rI fun y u => ((y = 0 ∧ ¬ tooR τ m s) ∨ (y = 1 ∧ tooR τ m s)) ∧ u = w) := by
  generalize hQ : (rI fun y u => ((y = 0 ∧ ¬ tooR τ m s) ∨ (y = 1 ∧ tooR τ m s)) ∧ u = w) = Q
  refine en_197 ?_
  refine ite_i (fun q => ?_) (fun q => ?_)
  · refine ⟨by decide, ?_⟩
    rw [← hQ]
    exact ⟨Or.inr ⟨rfl, Or.inl q⟩, rfl⟩
  · have key := Ev.inv (sc := none) (C := Cal 0) (cdk := cd 197) (Q := Q) (N := s) (I := fun i t => t = (8, [some (.inr (.inr 12)), some (.inl (s : Int)), some (.inl m), some (.inl (i : Int)), none, none, none, none], [], w) ∧ ∀ a b, a < i → b < a + 1 → ¬ (botR τ m s a b ∧ ovl τ s a b)) (fun i hi t ht h => ?_) (fun t ht => ?_) 0 (Nat.zero_le _)
    · exact key _ ⟨rfl, fun a b h => absurd h (Nat.not_lt_zero a)⟩
    · obtain ⟨rfl, hn⟩ := ht
      refine bk_197_8 ?_
      rw [if_pos (by omega)]
      have key2 := Ev.inv (sc := none) (C := Cal 0) (cdk := cd 197) (Q := Q) (N := i + 1) (I := fun j t => t = (16, [some (.inr (.inr 12)), some (.inl (s : Int)), some (.inl m), some (.inl (i : Int)), some (.inl (j : Int)), none, none, none], [], w) ∧ ∀ b, b < j → ¬ (botR τ m s i b ∧ ovl τ s i b)) (fun j hj t ht h2 => ?_) (fun t ht => ?_) 0 (Nat.zero_le _)
      · exact key2 _ ⟨rfl, fun b h => absurd h (Nat.not_lt_zero b)⟩
      · obtain ⟨rfl, hn2⟩ := ht
        refine bk_197_16 ?_
        simp only [r176 hm, tn]
        rw [if_neg (by omega)]
        have nx : ∀ s0 : Int, (s0 = 1 ∧ botR τ m s i j) ∨ (s0 = 0 ∧ ¬ botR τ m s i j) → Ev none (Cal 0) (cd 197) Q (78, [some (.inr (.inr 12)), some (.inl (s : Int)), some (.inl m), some (.inl (i : Int)), some (.inl (j : Int)), none, none, none], [.inl s0], w) := by
          intro s0 h0
          refine sh_78 hm hs (by omega) (by omega) (fun g => h2 _ ⟨rfl, fun b hb => ?_⟩) (fun g1 g2 => ?_)
          · rcases Nat.lt_or_ge b j with z | z
            · exact hn2 b z
            · obtain rfl : b = j := by omega
              intro g3
              rcases h0 with ⟨rfl, _⟩ | ⟨_, h0⟩
              · rcases g with g | g
                · omega
                · exact g g3.2
              · exact h0 g3.1
          · rcases h0 with ⟨_, h0⟩ | ⟨h0, _⟩
            · rw [← hQ]
              exact ⟨Or.inr ⟨rfl, Or.inr ⟨i, j, hi, hj, h0, g2⟩⟩, rfl⟩
            · exact absurd h0 g1
        refine ⟨by omega, by omega, ?_⟩
        unfold botR at nx
        repeat' (first | split | (refine And.intro (by first | omega | exact Or.inl trivial | exact Or.inr trivial | exact ⟨trivial, trivial⟩ | fail) ?_) | fail)
        all_goals (refine nx _ ?_)
        all_goals omega
      · obtain ⟨rfl, hn2⟩ := ht
        refine bk_197_16 ?_
        rw [if_pos (by omega), wr_s (by omega)]
        refine h _ ⟨rfl, fun a b ha hb => ?_⟩
        rcases Nat.lt_or_ge a i with z | z
        · exact hn a b z hb
        · obtain rfl : a = i := by omega
          exact hn2 b hb
    · obtain ⟨rfl, hn⟩ := ht
      refine bk_197_8 ?_
      rw [if_neg (by omega), ← hQ]
      refine ⟨by decide, Or.inl ⟨rfl, ?_⟩, rfl⟩
      rintro (g | ⟨a, b, ha, hb, g⟩)
      · exact q g
      · exact hn a b ha hb g
theorem mtwice_l (hm : pm w = τ) (hR : RNG τ) {p : Nat} (hp : p < 16) {d : Nat} (hd : 1 ≤ d) {Q : Option AV → Wd → Prop} (hQ : ∀ y, FST (fun s => τ 176 s = p ∧ tooR τ (τ 144 p) s) (τ 12 50).toNat y → Q (some (.inl y)) w) : Ev none (Cal d) (cd 196) Q (16, [some (.inr (.inr 12)), some (.inl (p : Int)), some (.inl 0)], [], w) := by
  have hb := hR.M_sales
  have key := Ev.inv (sc := none) (C := Cal d) (cdk := cd 196) (Q := Q) (N := (τ 12 50).toNat) (I := fun i t => t = (16, [some (.inr (.inr 12)), some (.inl (p : Int)), some (.inl (i : Int))], [], w) ∧ ∀ j, j < i → ¬ (τ 176 j = p ∧ tooR τ (τ 144 p) j)) (fun i hi t ht h => ?_) (fun t ht => ?_) 0 (Nat.zero_le _)
  · exact key _ ⟨rfl, fun j hj => absurd hj (Nat.not_lt_zero j)⟩
  · obtain ⟨rfl, hn⟩ := ht
    refine bk_196_16 ?_
    simp only [r176 hm, r12_50 hm, r144 hm, tn, wr_s (show i < 2000000 by omega)]
    rw [if_pos (by omega)]
    refine ⟨by omega, ?_⟩
    have nx : ¬ (τ 176 i = p ∧ tooR τ (τ 144 p) i) → Ev none (Cal d) (cd 196) Q (16, [some (.inr (.inr 12)), some (.inl (p : Int)), some (.inl ((i + 1 : Nat) : Int))], [], w) := fun g => h _ ⟨rfl, fun j hj => by
      rcases Nat.lt_or_ge j i with z | z
      · exact hn j z
      · obtain rfl : j = i := by omega
        exact g⟩
    refine ite_i (fun q => ?_) (fun q => ?_)
    · refine ⟨by omega, ?_⟩
      refine CalI.to (shares_ok hm (by omega)) hd ?_
      rintro y u ⟨⟨rfl, r⟩ | ⟨rfl, r⟩, rfl⟩
      · rw [if_pos rfl]
        exact nx (fun g => r g.2)
      · rw [if_neg (by decide)]
        exact hQ _ (Or.inr ⟨i, hi, rfl, ⟨q, r⟩, hn⟩)
    · exact nx (fun g => q g.1)
  · obtain ⟨rfl, hn⟩ := ht
    refine bk_196_16 ?_
    simp only [r12_50 hm]
    rw [if_neg (by omega)]
    exact hQ _ (Or.inl ⟨rfl, hn⟩)
theorem both_twice (hT : TFr T) (hO : OKW T w) {a : Int} : Cal 12 83 [.inr (.inr 11), .inl a] w (rI fun x u => Cal 12 196 [.inr (.inr 12), .inl a] u (rI fun y v => x = y ∧ OKW T v)) := by
  have hO2 := hO
  obtain ⟨κ, hc⟩ : ∃ κ, pc w = κ := ⟨_, rfl⟩
  obtain ⟨τ, hm⟩ : ∃ τ, pm w = τ := ⟨_, rfl⟩
  unfold OKW at hO
  rw [hc, hm] at hO
  obtain ⟨hE, hR, ht⟩ := id hO
  have hp := hR.M_places
  refine en_83 ?_
  refine CalB (placesHas_ok hc hE) (by decide) (fun q => ?_) (fun q => ?_)
  · rw [if_neg (by decide)]
    obtain ⟨p, rfl⟩ : ∃ p : Nat, a = (p : Int) := ⟨a.toNat, by omega⟩
    refine ⟨by omega, ?_⟩
    have e : w 79 p = τ 144 p := (r79 hc p).trans (hE.Places_seats p)
    simp only [tn, e]
    refine CalI.to (firstTooMany_ok hc hE hR) (by decide) ?_
    rintro x u ⟨hx, rfl⟩
    refine en_196 ?_
    refine CalT (isPlace_ok hm hR) (by decide) (by omega) ?_
    rw [if_neg (by decide)]
    refine mtwice_l hm hR (by omega) (by decide) (fun y hy => ⟨FST_u hx hy (fun s _ => and_congr Iff.rfl (too_eq hR (hR.M_sends p) s)), hO2⟩)
  · rw [if_pos rfl]
    refine CalI.to (refuse_ok hc hm (by omega)) (by decide) ?_; rintro _ u ⟨rfl, uc, um⟩;
    refine en_196 ?_
    refine CalF (isPlace_ok um hR) (by decide) (by omega) ?_
    rw [if_pos rfl]
    exact CalK (fin_rf hT hO uc um (by omega) rfl) (by decide)
end
