theorem ok_a0 : ∀ k, k < 24 → cond (caM (k + 0)) (chM (k + 0)) true = true := by decide +kernel
theorem ok_b0 : ∀ k, k < 24 → ∀ pc, pc < clM (k + 0) → okE (k + 0) pc = true := by decide +kernel
theorem ok_a24 : ∀ k, k < 19 → cond (caM (k + 24)) (chM (k + 24)) true = true := by decide +kernel
theorem ok_b24 : ∀ k, k < 19 → ∀ pc, pc < clM (k + 24) → okE (k + 24) pc = true := by decide +kernel
theorem ok_a43 : ∀ k, k < 26 → cond (caM (k + 43)) (chM (k + 43)) true = true := by decide +kernel
theorem ok_b43 : ∀ k, k < 26 → ∀ pc, pc < clM (k + 43) → okE (k + 43) pc = true := by decide +kernel
theorem ok_a69 : ∀ k, k < 18 → cond (caM (k + 69)) (chM (k + 69)) true = true := by decide +kernel
theorem ok_b69 : ∀ k, k < 18 → ∀ pc, pc < clM (k + 69) → okE (k + 69) pc = true := by decide +kernel
