/-! the smallest methods -/
theorem CalB {n d k : Nat} {as : List AV} {w : Wd} {P : Prop} [Decidable P] {K : Int → Wd → Prop} (h : Cal n k as w (rI fun y u => y = b2 P ∧ u = w)) (hn : n ≤ d) (h1 : P → K 1 w) (h0 : ¬ P → K 0 w) : Cal d k as w (rI K) := CalE.to h hn (by
  unfold b2
  split
  · exact h1 (by assumption)
  · exact h0 (by assumption))
theorem CalT {n d k : Nat} {as : List AV} {w : Wd} {P : Prop} [Decidable P] {K : Int → Wd → Prop} (h : Cal n k as w (rI fun y u => y = b2 P ∧ u = w)) (hn : n ≤ d) (hp : P) (h1 : K 1 w) : Cal d k as w (rI K) := CalB h hn (fun _ => h1) (fun q => absurd hp q)
theorem CalF {n d k : Nat} {as : List AV} {w : Wd} {P : Prop} [Decidable P] {K : Int → Wd → Prop} (h : Cal n k as w (rI fun y u => y = b2 P ∧ u = w)) (hn : n ≤ d) (hp : ¬ P) (h1 : K 0 w) : Cal d k as w (rI K) := CalB h hn (fun q => absurd q hp) (fun _ => h1)
section LEAF
variable {w κ τ : Wd} {a b c : Int}
theorem in_ok : Cal 1 160 [.inl a, .inl b, .inl c] w (rI fun y u => y = b2 (b ≤ a ∧ a ≤ c) ∧ u = w) := by
  refine en_160 ?_
  try unfold b2
  repeat' (first | split | (refine And.intro (by first | omega | exact Or.inl trivial | exact Or.inr trivial | exact ⟨trivial, trivial⟩ | fail) ?_) | fail)
  all_goals (first | rfl | exact ⟨rfl, rfl⟩ | exact ⟨by omega, rfl⟩ | fail)
theorem bounds_ok : Cal 1 167 [.inl a, .inl b, .inl c] w (rI fun y u => y = (if a < b then -4 else if c < a then -6 else 0) ∧ u = w) := by
  refine en_167 ?_
  try unfold b2
  repeat' (first | split | (refine And.intro (by first | omega | exact Or.inl trivial | exact Or.inr trivial | exact ⟨trivial, trivial⟩ | fail) ?_) | fail)
  all_goals (first | rfl | exact ⟨rfl, rfl⟩ | exact ⟨by omega, rfl⟩ | fail)
theorem wrongDays_ok : Cal 1 164 [.inl a, .inl b] w (rI fun y u => y = (if a < 0 ∨ b < 0 then -4 else if 2000 < a ∨ 2000 < b then -6 else 0) ∧ u = w) := by
  refine en_164 ?_
  try unfold b2
  repeat' (first | split | (refine And.intro (by first | omega | exact Or.inl trivial | exact Or.inr trivial | exact ⟨trivial, trivial⟩ | fail) ?_) | fail)
  all_goals (first | rfl | exact ⟨rfl, rfl⟩ | exact ⟨by omega, rfl⟩ | fail)
theorem wrongNights_ok : Cal 1 236 [.inl a, .inl b] w (rI fun y u => y = (if a < 1 ∨ b < 1 then -4 else if 5 < a ∨ 9 < b then -6 else 0) ∧ u = w) := by
  refine en_236 ?_
  try unfold b2
  repeat' (first | split | (refine And.intro (by first | omega | exact Or.inl trivial | exact Or.inr trivial | exact ⟨trivial, trivial⟩ | fail) ?_) | fail)
  all_goals (first | rfl | exact ⟨rfl, rfl⟩ | exact ⟨by omega, rfl⟩ | fail)
theorem isWithin_ok : Cal 1 20 [.inl a, .inl b] w (rI fun y u => y = b2 (0 ≤ a ∧ a ≤ b) ∧ u = w) := by
  refine en_20 ?_
  try unfold b2
  repeat' (first | split | (refine And.intro (by first | omega | exact Or.inl trivial | exact Or.inr trivial | exact ⟨trivial, trivial⟩ | fail) ?_) | fail)
  all_goals (first | rfl | exact ⟨rfl, rfl⟩ | exact ⟨by omega, rfl⟩ | fail)
theorem isPatronOrNone_ok : Cal 1 16 [.inl a] w (rI fun y u => y = b2 (-1 ≤ a ∧ a ≤ 5) ∧ u = w) := by
  refine en_16 ?_
  try unfold b2
  repeat' (first | split | (refine And.intro (by first | omega | exact Or.inl trivial | exact Or.inr trivial | exact ⟨trivial, trivial⟩ | fail) ?_) | fail)
  all_goals (first | rfl | exact ⟨rfl, rfl⟩ | exact ⟨by omega, rfl⟩ | fail)
theorem rIsKnot_ok : Cal 2 99 [.inl a] w (rI fun y u => y = b2 (0 ≤ a ∧ a ≤ 7) ∧ u = w) := by
  refine en_99 ?_
  refine CalE.to isWithin_ok (by decide) ?_
  exact ⟨by unfold b2; omega, rfl, rfl⟩
theorem rIsNight_ok : Cal 2 130 [.inl a] w (rI fun y u => y = b2 (0 ≤ a ∧ a ≤ 4) ∧ u = w) := by
  refine en_130 ?_
  refine CalE.to isWithin_ok (by decide) ?_
  exact ⟨by unfold b2; omega, rfl, rfl⟩
theorem mIsKnot_ok : Cal 2 206 [.inl a] w (rI fun y u => y = b2 (0 ≤ a ∧ a ≤ 7) ∧ u = w) := by
  refine en_206 ?_
  refine CalE.to in_ok (by decide) ?_
  exact ⟨by unfold b2; omega, rfl, rfl⟩
theorem mIsNight_ok : Cal 2 225 [.inl a] w (rI fun y u => y = b2 (0 ≤ a ∧ a ≤ 4) ∧ u = w) := by
  refine en_225 ?_
  refine CalE.to in_ok (by decide) ?_
  exact ⟨by unfold b2; omega, rfl, rfl⟩
theorem placesHas_ok (hc : pc w = κ) (hE : EQ κ τ) : Cal 1 19 [.inr (.inr 5), .inl a] w (rI fun y u => y = b2 (0 ≤ a ∧ a < τ 12 1) ∧ u = w) := by
  refine en_19 ?_
  simp only [r5_4 hc, hE.Places_size]
  try unfold b2
  repeat' (first | split | (refine And.intro (by first | omega | exact Or.inl trivial | exact Or.inr trivial | exact ⟨trivial, trivial⟩ | fail) ?_) | fail)
  all_goals (first | rfl | exact ⟨rfl, rfl⟩ | exact ⟨by omega, rfl⟩ | fail)
theorem peopleHas_ok (hc : pc w = κ) (hE : EQ κ τ) : Cal 1 39 [.inr (.inr 3), .inl a] w (rI fun y u => y = b2 (0 ≤ a ∧ a < τ 12 13) ∧ u = w) := by
  refine en_39 ?_
  simp only [r3_5 hc, hE.People_size]
  try unfold b2
  repeat' (first | split | (refine And.intro (by first | omega | exact Or.inl trivial | exact Or.inr trivial | exact ⟨trivial, trivial⟩ | fail) ?_) | fail)
  all_goals (first | rfl | exact ⟨rfl, rfl⟩ | exact ⟨by omega, rfl⟩ | fail)
theorem textsHas_ok (hc : pc w = κ) (hE : EQ κ τ) : Cal 1 73 [.inr (.inr 10), .inl a] w (rI fun y u => y = b2 (0 ≤ a ∧ a < τ 12 31) ∧ u = w) := by
  refine en_73 ?_
  simp only [r10_2 hc, hE.Texts_size]
  try unfold b2
  repeat' (first | split | (refine And.intro (by first | omega | exact Or.inl trivial | exact Or.inr trivial | exact ⟨trivial, trivial⟩ | fail) ?_) | fail)
  all_goals (first | rfl | exact ⟨rfl, rfl⟩ | exact ⟨by omega, rfl⟩ | fail)
theorem petHas_ok (hc : pc w = κ) (hE : EQ κ τ) : Cal 1 91 [.inr (.inr 4), .inl a] w (rI fun y u => y = b2 (0 ≤ a ∧ a < τ 12 32) ∧ u = w) := by
  refine en_91 ?_
  simp only [r4_2 hc, hE.Petitions_size]
  try unfold b2
  repeat' (first | split | (refine And.intro (by first | omega | exact Or.inl trivial | exact Or.inr trivial | exact ⟨trivial, trivial⟩ | fail) ?_) | fail)
  all_goals (first | rfl | exact ⟨rfl, rfl⟩ | exact ⟨by omega, rfl⟩ | fail)
theorem billHas_ok (hc : pc w = κ) (hE : EQ κ τ) : Cal 1 114 [.inr (.inr 0), .inl a] w (rI fun y u => y = b2 (0 ≤ a ∧ a < τ 12 61) ∧ u = w) := by
  refine en_114 ?_
  simp only [r0_4 hc, hE.Bill_size]
  try unfold b2
  repeat' (first | split | (refine And.intro (by first | omega | exact Or.inl trivial | exact Or.inr trivial | exact ⟨trivial, trivial⟩ | fail) ?_) | fail)
  all_goals (first | rfl | exact ⟨rfl, rfl⟩ | exact ⟨by omega, rfl⟩ | fail)
theorem isPlace_ok (hm : pm w = τ) (hR : RNG τ) : Cal 2 162 [.inr (.inr 12), .inl a] w (rI fun y u => y = b2 (0 ≤ a ∧ a < τ 12 1) ∧ u = w) := by
  refine en_162 ?_
  have := hR.M_places
  refine CalE.to in_ok (by decide) ?_
  simp only [r12_1 hm]
  rw [wr_id (by omega) (by omega)]
  exact ⟨by unfold b2; omega, by unfold b2; split <;> split <;> omega, rfl⟩
theorem isPerson_ok (hm : pm w = τ) (hR : RNG τ) : Cal 2 174 [.inr (.inr 12), .inl a] w (rI fun y u => y = b2 (0 ≤ a ∧ a < τ 12 13) ∧ u = w) := by
  refine en_174 ?_
  have := hR.M_people
  refine CalE.to in_ok (by decide) ?_
  simp only [r12_13 hm]
  rw [wr_id (by omega) (by omega)]
  exact ⟨by unfold b2; omega, by unfold b2; split <;> split <;> omega, rfl⟩
theorem isText_ok (hm : pm w = τ) (hR : RNG τ) : Cal 2 188 [.inr (.inr 12), .inl a] w (rI fun y u => y = b2 (0 ≤ a ∧ a < τ 12 31) ∧ u = w) := by
  refine en_188 ?_
  have := hR.M_texts
  refine CalE.to in_ok (by decide) ?_
  simp only [r12_31 hm]
  rw [wr_id (by omega) (by omega)]
  exact ⟨by unfold b2; omega, by unfold b2; split <;> split <;> omega, rfl⟩
theorem isPetitionAt_ok (hm : pm w = τ) (hR : RNG τ) : Cal 2 201 [.inr (.inr 12), .inl a] w (rI fun y u => y = b2 (0 ≤ a ∧ a < τ 12 32) ∧ u = w) := by
  refine en_201 ?_
  have := hR.M_petitions
  refine CalE.to in_ok (by decide) ?_
  simp only [r12_32 hm]
  rw [wr_id (by omega) (by omega)]
  exact ⟨by unfold b2; omega, by unfold b2; split <;> split <;> omega, rfl⟩
theorem isLine_ok (hm : pm w = τ) (hR : RNG τ) : Cal 2 214 [.inr (.inr 12), .inl a] w (rI fun y u => y = b2 (0 ≤ a ∧ a < τ 12 61) ∧ u = w) := by
  refine en_214 ?_
  have := hR.M_lines
  refine CalE.to in_ok (by decide) ?_
  simp only [r12_61 hm]
  rw [wr_id (by omega) (by omega)]
  exact ⟨by unfold b2; omega, by unfold b2; split <;> split <;> omega, rfl⟩
/-- a refusal counted -/
def rfC (w : Wd) (g : Int) : Wd := wst w 141 (-g - 1).toNat (wr (w 141 (-g - 1).toNat + 1))
def rfM (w : Wd) (g : Int) : Wd := wst w 166 (-g).toNat (wr (w 166 (-g).toNat + 1))
theorem refuse_ok (hc : pc w = κ) (hm : pm w = τ) {g : Int} (hg : -6 ≤ g ∧ g ≤ -1) : Cal 1 14 [.inr (.inr 11), .inl g] w (rI fun y u => y = g ∧ pc u = rfC κ g ∧ pm u = τ) := by
  refine en_14 ?_
  rw [wr_id (x := -g) (by omega) (by omega), wr_id (x := -g - 1) (by omega) (by omega), if_neg (by omega), if_neg (by omega)]
  refine ⟨⟨by omega, by omega⟩, ⟨by omega, by omega⟩, rfl, ?_, ?_⟩
  · rw [pc_in rfl, hc, r141 hc]
    rfl
  · rw [pm_out rfl, hm]
theorem refuseApart_ok (hc : pc w = κ) (hm : pm w = τ) {g : Int} (hg : -6 ≤ g ∧ g ≤ -1) : Cal 2 121 [.inr (.inr 11), .inl g] w (rI fun y u => y = 1000000000 - g ∧ pc u = rfC κ g ∧ pm u = τ) := by
  refine en_121 ?_
  refine CalI.to (refuse_ok hc hm hg) (by decide) ?_
  rintro _ u ⟨rfl, uc, um⟩
  exact ⟨wr_id (by omega) (by omega), uc, um⟩
theorem mrefuse_ok (hm : pm w = τ) {x g : Int} (hg : -6 ≤ g ∧ g ≤ -1) (hx : x = g) : Cal 1 158 [.inr (.inr 12), .inl x] w (rI fun y u => y = g ∧ pc u = pc w ∧ pm u = rfM τ g) := by
  subst hx
  refine en_158 ?_
  rw [wr_id (x := -x) (by omega) (by omega)]
  refine ⟨⟨by omega, by omega⟩, ⟨by omega, by omega⟩, rfl, ?_, ?_⟩
  · rw [pc_out rfl]
  · rw [pm_in rfl, hm, r166 hm]
    rfl
theorem mrefuseFar_ok (hm : pm w = τ) {x g : Int} (hg : -6 ≤ g ∧ g ≤ -1) (hx : x = g) : Cal 1 219 [.inr (.inr 12), .inl x] w (rI fun y u => y = 1000000000 - g ∧ pc u = pc w ∧ pm u = rfM τ g) := by
  subst hx
  refine en_219 ?_
  rw [wr_id (x := -x) (by omega) (by omega), wr_id (x := 1000000000 - x) (by omega) (by omega)]
  refine ⟨⟨by omega, by omega⟩, ⟨by omega, by omega⟩, rfl, ?_, ?_⟩
  · rw [pc_out rfl]
  · rw [pm_in rfl, hm, r166 hm]
    rfl
end LEAF
