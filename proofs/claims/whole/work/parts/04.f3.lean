theorem ok_a156 : ∀ k, k < 12 → cond (caM (k + 156)) (chM (k + 156)) true = true := by decide +kernel
theorem ok_b156 : ∀ k, k < 12 → ∀ pc, pc < clM (k + 156) → okE (k + 156) pc = true := by decide +kernel
theorem ok_a168 : ∀ k, k < 11 → cond (caM (k + 168)) (chM (k + 168)) true = true := by decide +kernel
theorem ok_b168 : ∀ k, k < 11 → ∀ pc, pc < clM (k + 168) → okE (k + 168) pc = true := by decide +kernel
theorem ok_a179 : ∀ k, k < 13 → cond (caM (k + 179)) (chM (k + 179)) true = true := by decide +kernel
theorem ok_b179 : ∀ k, k < 13 → ∀ pc, pc < clM (k + 179) → okE (k + 179) pc = true := by decide +kernel
theorem ok_a192 : ∀ k, k < 11 → cond (caM (k + 192)) (chM (k + 192)) true = true := by decide +kernel
theorem ok_b192 : ∀ k, k < 11 → ∀ pc, pc < clM (k + 192) → okE (k + 192) pc = true := by decide +kernel
