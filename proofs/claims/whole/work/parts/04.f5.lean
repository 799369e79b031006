theorem ok_a247 : ∀ k, k < 1 → cond (caM (k + 247)) (chM (k + 247)) true = true := by decide +kernel
theorem ok_l0 : ∀ pc, pc < 100 → okE 247 (pc + 0) = true := by decide +kernel
theorem ok_l100 : ∀ pc, pc < 100 → okE 247 (pc + 100) = true := by decide +kernel
theorem ok_l200 : ∀ pc, pc < 100 → okE 247 (pc + 200) = true := by decide +kernel
theorem ok_l300 : ∀ pc, pc < 100 → okE 247 (pc + 300) = true := by decide +kernel
theorem ok_l400 : ∀ pc, pc < 100 → okE 247 (pc + 400) = true := by decide +kernel
theorem ok_l500 : ∀ pc, pc < 100 → okE 247 (pc + 500) = true := by decide +kernel
theorem ok_l600 : ∀ pc, pc < 100 → okE 247 (pc + 600) = true := by decide +kernel
theorem ok_l700 : ∀ pc, pc < 100 → okE 247 (pc + 700) = true := by decide +kernel
theorem ok_l800 : ∀ pc, pc < 100 → okE 247 (pc + 800) = true := by decide +kernel
theorem ok_l900 : ∀ pc, pc < 100 → okE 247 (pc + 900) = true := by decide +kernel
theorem ok_l1000 : ∀ pc, pc < 100 → okE 247 (pc + 1000) = true := by decide +kernel
theorem ok_l1100 : ∀ pc, pc < 100 → okE 247 (pc + 1100) = true := by decide +kernel
theorem ok_l1200 : ∀ pc, pc < 100 → okE 247 (pc + 1200) = true := by decide +kernel
theorem ok_l1300 : ∀ pc, pc < 100 → okE 247 (pc + 1300) = true := by decide +kernel
theorem ok_l1400 : ∀ pc, pc < 100 → okE 247 (pc + 1400) = true := by decide +kernel
theorem ok_l1500 : ∀ pc, pc < 100 → okE 247 (pc + 1500) = true := by decide +kernel
theorem ok_l1600 : ∀ pc, pc < 100 → okE 247 (pc + 1600) = true := by decide +kernel
theorem ok_l1700 : ∀ pc, pc < 100 → okE 247 (pc + 1700) = true := by decide +kernel
theorem ok_l1800 : ∀ pc, pc < 100 → okE 247 (pc + 1800) = true := by decide +kernel
theorem ok_l1900 : ∀ pc, pc < 22 → okE 247 (pc + 1900) = true := by decide +kernel
theorem ok_b247 : ∀ k, k < 1 → ∀ pc, pc < clM (k + 247) → okE (k + 247) pc = true := by
  intro k hk pc hpc
  obtain rfl : k = 0 := by omega
  have hpc : pc < 1922 := hpc
  rw [Nat.zero_add]
  by_cases h0 : pc < 100
  · exact ok_l0 pc h0
  by_cases h100 : pc < 200
  · have := ok_l100 (pc - 100) (by omega)
    rwa [Nat.sub_add_cancel (by omega)] at this
  by_cases h200 : pc < 300
  · have := ok_l200 (pc - 200) (by omega)
    rwa [Nat.sub_add_cancel (by omega)] at this
  by_cases h300 : pc < 400
  · have := ok_l300 (pc - 300) (by omega)
    rwa [Nat.sub_add_cancel (by omega)] at this
  by_cases h400 : pc < 500
  · have := ok_l400 (pc - 400) (by omega)
    rwa [Nat.sub_add_cancel (by omega)] at this
  by_cases h500 : pc < 600
  · have := ok_l500 (pc - 500) (by omega)
    rwa [Nat.sub_add_cancel (by omega)] at this
  by_cases h600 : pc < 700
  · have := ok_l600 (pc - 600) (by omega)
    rwa [Nat.sub_add_cancel (by omega)] at this
  by_cases h700 : pc < 800
  · have := ok_l700 (pc - 700) (by omega)
    rwa [Nat.sub_add_cancel (by omega)] at this
  by_cases h800 : pc < 900
  · have := ok_l800 (pc - 800) (by omega)
    rwa [Nat.sub_add_cancel (by omega)] at this
  by_cases h900 : pc < 1000
  · have := ok_l900 (pc - 900) (by omega)
    rwa [Nat.sub_add_cancel (by omega)] at this
  by_cases h1000 : pc < 1100
  · have := ok_l1000 (pc - 1000) (by omega)
    rwa [Nat.sub_add_cancel (by omega)] at this
  by_cases h1100 : pc < 1200
  · have := ok_l1100 (pc - 1100) (by omega)
    rwa [Nat.sub_add_cancel (by omega)] at this
  by_cases h1200 : pc < 1300
  · have := ok_l1200 (pc - 1200) (by omega)
    rwa [Nat.sub_add_cancel (by omega)] at this
  by_cases h1300 : pc < 1400
  · have := ok_l1300 (pc - 1300) (by omega)
    rwa [Nat.sub_add_cancel (by omega)] at this
  by_cases h1400 : pc < 1500
  · have := ok_l1400 (pc - 1400) (by omega)
    rwa [Nat.sub_add_cancel (by omega)] at this
  by_cases h1500 : pc < 1600
  · have := ok_l1500 (pc - 1500) (by omega)
    rwa [Nat.sub_add_cancel (by omega)] at this
  by_cases h1600 : pc < 1700
  · have := ok_l1600 (pc - 1600) (by omega)
    rwa [Nat.sub_add_cancel (by omega)] at this
  by_cases h1700 : pc < 1800
  · have := ok_l1700 (pc - 1700) (by omega)
    rwa [Nat.sub_add_cancel (by omega)] at this
  by_cases h1800 : pc < 1900
  · have := ok_l1800 (pc - 1800) (by omega)
    rwa [Nat.sub_add_cancel (by omega)] at this
  have := ok_l1900 (pc - 1900) (by omega)
  rwa [Nat.sub_add_cancel (by omega)] at this
