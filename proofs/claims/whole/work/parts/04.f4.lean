theorem ok_a203 : ∀ k, k < 14 → cond (caM (k + 203)) (chM (k + 203)) true = true := by decide +kernel
theorem ok_b203 : ∀ k, k < 14 → ∀ pc, pc < clM (k + 203) → okE (k + 203) pc = true := by decide +kernel
theorem ok_a217 : ∀ k, k < 12 → cond (caM (k + 217)) (chM (k + 217)) true = true := by decide +kernel
theorem ok_b217 : ∀ k, k < 12 → ∀ pc, pc < clM (k + 217) → okE (k + 217) pc = true := by decide +kernel
theorem ok_a229 : ∀ k, k < 13 → cond (caM (k + 229)) (chM (k + 229)) true = true := by decide +kernel
theorem ok_b229 : ∀ k, k < 13 → ∀ pc, pc < clM (k + 229) → okE (k + 229) pc = true := by decide +kernel
theorem ok_a242 : ∀ k, k < 5 → cond (caM (k + 242)) (chM (k + 242)) true = true := by decide +kernel
theorem ok_b242 : ∀ k, k < 5 → ∀ pc, pc < clM (k + 242) → okE (k + 242) pc = true := by decide +kernel
