theorem ok_a87 : ∀ k, k < 20 → cond (caM (k + 87)) (chM (k + 87)) true = true := by decide +kernel
theorem ok_b87 : ∀ k, k < 20 → ∀ pc, pc < clM (k + 87) → okE (k + 87) pc = true := by decide +kernel
theorem ok_a107 : ∀ k, k < 22 → cond (caM (k + 107)) (chM (k + 107)) true = true := by decide +kernel
theorem ok_b107 : ∀ k, k < 22 → ∀ pc, pc < clM (k + 107) → okE (k + 107) pc = true := by decide +kernel
theorem ok_a129 : ∀ k, k < 16 → cond (caM (k + 129)) (chM (k + 129)) true = true := by decide +kernel
theorem ok_b129 : ∀ k, k < 16 → ∀ pc, pc < clM (k + 129) → okE (k + 129) pc = true := by decide +kernel
theorem ok_a145 : ∀ k, k < 11 → cond (caM (k + 145)) (chM (k + 145)) true = true := by decide +kernel
theorem ok_b145 : ∀ k, k < 11 → ∀ pc, pc < clM (k + 145) → okE (k + 145) pc = true := by decide +kernel
