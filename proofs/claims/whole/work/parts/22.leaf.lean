/-! the smallest methods -/
section LEAF
variable {w : Wd} {a b c : Int}
theorem in_ok : Cal 1 160 [.inl a, .inl b, .inl c] w (rI fun y u => y = b2 (b ≤ a ∧ a ≤ c) ∧ u = w) := by
  refine en_160 ?_
  try unfold b2
  repeat' (first | split | (refine And.intro (by omega) ?_) | fail)
  all_goals (first | rfl | exact ⟨rfl, rfl⟩ | exact ⟨by omega, rfl⟩ | fail)
theorem bounds_ok : Cal 1 167 [.inl a, .inl b, .inl c] w (rI fun y u => y = (if a < b then -4 else if c < a then -6 else 0) ∧ u = w) := by
  refine en_167 ?_
  try unfold b2
  repeat' (first | split | (refine And.intro (by omega) ?_) | fail)
  all_goals (first | rfl | exact ⟨rfl, rfl⟩ | exact ⟨by omega, rfl⟩ | fail)
theorem wrongDays_ok : Cal 1 164 [.inl a, .inl b] w (rI fun y u => y = (if a < 0 ∨ b < 0 then -4 else if 2000 < a ∨ 2000 < b then -6 else 0) ∧ u = w) := by
  refine en_164 ?_
  try unfold b2
  repeat' (first | split | (refine And.intro (by omega) ?_) | fail)
  all_goals (first | rfl | exact ⟨rfl, rfl⟩ | exact ⟨by omega, rfl⟩ | fail)
theorem isWithin_ok : Cal 1 20 [.inl a, .inl b] w (rI fun y u => y = b2 (0 ≤ a ∧ a ≤ b) ∧ u = w) := by
  refine en_20 ?_
  try unfold b2
  repeat' (first | split | (refine And.intro (by omega) ?_) | fail)
  all_goals (first | rfl | exact ⟨rfl, rfl⟩ | exact ⟨by omega, rfl⟩ | fail)
theorem placesHas_ok : Cal 1 19 [.inr (.inr 5), .inl a] w (rI fun y u => y = b2 (0 ≤ a ∧ a < w 5 4) ∧ u = w) := by
  refine en_19 ?_
  try unfold b2
  repeat' (first | split | (refine And.intro (by omega) ?_) | fail)
  all_goals (first | rfl | exact ⟨rfl, rfl⟩ | exact ⟨by omega, rfl⟩ | fail)
end LEAF
