def lenI : Instr → Nat
  | .bipush _ => 2
  | .sipush _ => 3
  | .ldc _ => 2
  | .ldc_w _ => 3
  | .ldc2_w _ => 3
  | .iload _ => 2
  | .aload _ => 2
  | .istore _ => 2
  | .iinc _ _ => 3
  | .getfield _ => 3
  | .putfield _ => 3
  | .goto _ => 3
  | .ifCond _ _ => 3
  | .if_icmp _ _ => 3
  | .invokevirtual _ => 3
  | .invokestatic _ => 3
  | .invokespecial _ => 3
  | .new _ => 3
  | .newarray _ => 2
  | .multianewarray _ _ => 4
  | _ => 1
noncomputable def okL (k pc : Nat) : Bool := cond (Nat.beq (cd k pc).2.1 0) true (isSw (cd k pc).1 || (skM k || Nat.beq (cd k pc).2.1 (lenI (cd k pc).1)))
theorem okL_1 : ∀ k, k < 120 → ∀ pc, pc < clM k → okL k pc = true := by decide +kernel
theorem okL_2 : ∀ k, k < 127 → ∀ pc, pc < clM (k + 120) → okL (k + 120) pc = true := by decide +kernel
theorem okL_3 : ∀ pc, pc < clM 247 → okL 247 pc = true := by decide +kernel
theorem okL_ok (k : Nat) (hk : k < 248) : ∀ pc, pc < clM k → okL k pc = true := by
  by_cases h1 : k < 120
  · exact okL_1 k h1
  · by_cases h2 : k < 247
    · have := okL_2 (k - 120) (by omega)
      rwa [Nat.sub_add_cancel (by omega)] at this
    · obtain rfl : k = 247 := by omega
      exact okL_3
