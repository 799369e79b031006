/-! the cells at the start -/
def sd0 (j : Nat) : Int := if j = 1 ∨ j = 5 then 1 else if j = 2 then 2 else if j = 3 then 3 else 0
def wt0 (j : Nat) : Int := if j < 2 then 1 else 0
def w0 : Wd := fun k => cond (Nat.beq k 82 || Nat.beq k 165) sd0 (cond (Nat.beq k 109 || Nat.beq k 153) wt0 (fun _ => 0))
theorem sd0_in (j : Nat) : 0 ≤ sd0 j ∧ sd0 j ≤ 3 := by
  unfold sd0
  split
  · omega
  · split
    · omega
    · split <;> omega
theorem wt0_in (j : Nat) : 0 ≤ wt0 j ∧ wt0 j ≤ 1 := by
  unfold wt0
  split <;> omega
theorem w0_wf : wfW w0 := by
  intro a i
  unfold w0 in32
  have h1 := sd0_in i
  have h2 := wt0_in i
  cases (Nat.beq a 82 || Nat.beq a 165) with
  | true =>
    show -2147483648 ≤ sd0 i ∧ sd0 i < 2147483648
    omega
  | false =>
    cases (Nat.beq a 109 || Nat.beq a 153) with
    | true =>
      show -2147483648 ≤ wt0 i ∧ wt0 i < 2147483648
      omega
    | false =>
      show -2147483648 ≤ (0 : Int) ∧ (0 : Int) < 2147483648
      omega
theorem pow2_pos : ∀ j : Nat, (0 : Int) < 2 ^ j
  | 0 => by decide
  | j + 1 => by
    have h := pow2_pos j
    rw [Int.pow_succ]
    omega
theorem w0_EQ : EQ (pc w0) (pm w0) := ⟨rfl, rfl, rfl, rfl, rfl, rfl, rfl, rfl, rfl, rfl, rfl, rfl, rfl, fun _ => rfl, fun _ => rfl, fun _ => rfl, fun _ => rfl, fun _ => rfl, fun _ => rfl, fun _ => rfl, fun _ => rfl, fun _ => rfl, fun _ => rfl, fun _ => rfl, fun _ => rfl, fun _ => rfl, fun _ => rfl, fun _ => rfl, fun _ => rfl, fun _ => rfl, fun _ => rfl, fun _ => rfl, fun _ => rfl, fun _ => rfl, fun _ => rfl, fun _ => rfl, fun _ => rfl, fun _ => rfl, fun _ => rfl, fun _ => rfl, fun _ => rfl, fun _ => rfl, fun _ => rfl, fun _ => rfl, fun _ => rfl, fun _ => rfl, fun _ => rfl, fun _ => rfl, fun _ => rfl, fun _ => Or.inl ⟨rfl, (by decide : (0 : Int) ≤ 0), (by decide : (0 : Int) ≤ 2000)⟩, fun _ => rfl, fun _ _ => rfl, fun _ _ => rfl, fun _ _ => rfl, fun _ _ => rfl, fun _ _ => rfl, fun _ _ => rfl, fun _ _ => rfl, fun _ _ => rfl, fun _ _ => rfl, fun _ _ => rfl, fun _ _ => rfl, fun _ _ => rfl, fun _ _ => rfl, fun _ _ => rfl, fun _ _ => rfl, fun _ _ => rfl, fun _ _ => rfl, fun _ _ => rfl, fun _ _ => rfl, fun _ _ => rfl, fun _ _ => rfl, fun _ _ => rfl, fun _ _ => rfl, fun _ _ => rfl, fun _ _ => rfl, fun _ _ => rfl, fun _ _ => rfl, fun _ _ => rfl, fun _ _ => rfl, fun _ _ => rfl, fun _ _ => rfl, fun _ _ => rfl, fun _ _ => rfl, fun _ _ => rfl, ⟨rfl, rfl⟩⟩
theorem w0_RNG : RNG (pm w0) := ⟨⟨(by decide : (0 : Int) ≤ 0), (by decide : (0 : Int) ≤ 2000)⟩, ⟨(by decide : (0 : Int) ≤ 0), (by decide : (0 : Int) ≤ 16)⟩, fun j => ⟨(by decide : (0 : Int) ≤ 0), (by decide : (0 : Int) ≤ 2)⟩, fun j => ⟨(by decide : (-1 : Int) ≤ 0), (by decide : (0 : Int) ≤ 5)⟩, fun j => ⟨(by decide : (0 : Int) ≤ 0), (by decide : (0 : Int) ≤ 999)⟩, fun j => sd0_in j, ⟨(by decide : (0 : Int) ≤ 0), (by decide : (0 : Int) ≤ 120)⟩, fun j => ⟨(by decide : (0 : Int) ≤ 0), (by decide : (0 : Int) ≤ 2000)⟩, fun j => ⟨(by decide : (0 : Int) ≤ 0), (by decide : (0 : Int) ≤ 2000)⟩, fun j => ⟨(by decide : (0 : Int) ≤ 0), (by decide : (0 : Int) ≤ 9999)⟩, fun j => ⟨(by decide : (0 : Int) ≤ 0), (by decide : (0 : Int) ≤ 999)⟩, fun j => ⟨(wt0_in j).1, Int.le_trans (wt0_in j).2 (by decide)⟩, fun j => ⟨(by decide : (0 : Int) ≤ 0), (by decide : (0 : Int) ≤ 15)⟩, fun j => ⟨(by decide : (0 : Int) ≤ 0), (by decide : (0 : Int) ≤ 1)⟩, ⟨(by decide : (0 : Int) ≤ 0), (by decide : (0 : Int) ≤ 40)⟩, fun j => ⟨(by decide : (0 : Int) ≤ 0), (by decide : (0 : Int) ≤ 15)⟩, fun j => ⟨(by decide : (-2000 : Int) ≤ 0), (by decide : (0 : Int) ≤ 2000)⟩, fun j => ⟨(by decide : (0 : Int) ≤ 0), (by decide : (0 : Int) ≤ 3)⟩, fun j => ⟨(by decide : (-1 : Int) ≤ 0), (by decide : (0 : Int) ≤ 5)⟩, fun j => ⟨(by decide : (0 : Int) ≤ 0), (by decide : (0 : Int) ≤ 1)⟩, ⟨(by decide : (0 : Int) ≤ 0), (by decide : (0 : Int) ≤ 80)⟩, fun j => ⟨(by decide : (0 : Int) ≤ 0), (by decide : (0 : Int) ≤ 39)⟩, fun j => ⟨(by decide : (0 : Int) ≤ 0), (by decide : (0 : Int) ≤ 15)⟩, fun j => ⟨(by decide : (0 : Int) ≤ 0), (by decide : (0 : Int) ≤ 2)⟩, fun j => ⟨fun h => absurd (show (0 : Int) = 1 from h) (by decide), fun h => absurd (show (0 : Int) = 2 from h) (by decide)⟩, fun j => ⟨(by decide : (-2000 : Int) ≤ 0), (by decide : (0 : Int) ≤ 2000)⟩, ⟨(by decide : (0 : Int) ≤ 0), (by decide : (0 : Int) ≤ 40)⟩, fun j => ⟨(by decide : (0 : Int) ≤ 0), (by decide : (0 : Int) ≤ 255)⟩, ⟨(by decide : (0 : Int) ≤ 0), (by decide : (0 : Int) ≤ 20)⟩, ⟨(by decide : (0 : Int) ≤ 0), (by decide : (0 : Int) ≤ 10)⟩, fun j => ⟨(by decide : (0 : Int) ≤ 0), (by decide : (0 : Int) ≤ 40)⟩, ⟨(by decide : (0 : Int) ≤ 0), (by decide : (0 : Int) ≤ 40)⟩, fun j => ⟨(by decide : (0 : Int) ≤ 0), (by decide : (0 : Int) ≤ 15)⟩, fun j => ⟨(by decide : (0 : Int) ≤ 0), (by decide : (0 : Int) ≤ 2000)⟩, fun j h => absurd (show (j : Int) < 0 from h) (by omega), ⟨(by decide : (0 : Int) ≤ 0), (by decide : (0 : Int) ≤ 30)⟩, fun j => ⟨(by decide : (0 : Int) ≤ 0), (by decide : (0 : Int) ≤ 15)⟩, fun j => ⟨(by decide : (0 : Int) ≤ 0), (by decide : (0 : Int) ≤ 0), (by decide : (0 : Int) ≤ 9999)⟩, fun j => ⟨(by decide : (0 : Int) ≤ 0), (by decide : (0 : Int) ≤ 2)⟩, ⟨(by decide : (0 : Int) ≤ 0), (by decide : (0 : Int) ≤ 40)⟩, fun j => ⟨(by decide : (0 : Int) ≤ 0), (by decide : (0 : Int) ≤ 7)⟩, fun j => ⟨(by decide : (-9 : Int) ≤ 0), (by decide : (0 : Int) ≤ 9)⟩, ⟨(by decide : (0 : Int) ≤ 0), (by decide : (0 : Int) ≤ 9)⟩, fun j => ⟨(by decide : (0 : Int) ≤ 0), (by decide : (0 : Int) ≤ 2)⟩, fun j => ⟨(by decide : (0 : Int) ≤ 0), (by decide : (0 : Int) ≤ 2)⟩, fun j => ⟨(by decide : (0 : Int) ≤ 0), (by decide : (0 : Int) ≤ 9999)⟩, fun j => ⟨(by decide : (0 : Int) ≤ 0), pow2_pos j⟩, fun j h => absurd (show (j : Int) < 0 from h) (by omega), fun j => ⟨(by decide : (-9 : Int) ≤ 0), (by decide : (0 : Int) ≤ 9)⟩, fun j => ⟨(by decide : (-99 : Int) ≤ 0), (by decide : (0 : Int) ≤ 99)⟩, fun j => ⟨(by decide : (0 : Int) ≤ 0), (by decide : (0 : Int) ≤ 511)⟩, fun j => ⟨(by decide : (0 : Int) ≤ 0), (by decide : (0 : Int) ≤ 40)⟩, fun j => ⟨(by decide : (0 : Int) ≤ 0), (by decide : (0 : Int) ≤ 40)⟩, ⟨(by decide : (0 : Int) ≤ 0), (by decide : (0 : Int) ≤ 20)⟩⟩
theorem w0_TXT : TXT (pc w0) (pm w0) := ⟨fun j => ⟨(by decide : (0 : Int) ≤ 0), (by decide : (0 : Int) ≤ 255)⟩, fun t h => absurd (show (t : Int) < 0 from h) (by omega), fun p h => absurd (show (p : Int) < 0 from h) (by omega), fun p h => rfl⟩
theorem w0_OK : OKW TXT w0 := ⟨w0_EQ, w0_RNG, w0_TXT⟩
