/-! the text in force -/
def oldN (τ : Wd) (p d : Int) : Nat → Int
  | 0 => -1
  | n + 1 => if τ 173 n = p ∧ τ 175 n ≤ d ∧ (oldN τ p d n < 0 ∨ τ 175 (oldN τ p d n).toNat ≤ τ 175 n) then (n : Int) else oldN τ p d n
theorem oldN_s (τ : Wd) (p d : Int) (n : Nat) : oldN τ p d (n + 1) = if τ 173 n = p ∧ τ 175 n ≤ d ∧ (oldN τ p d n < 0 ∨ τ 175 (oldN τ p d n).toNat ≤ τ 175 n) then (n : Int) else oldN τ p d n := rfl
theorem oldN_b (τ : Wd) (p d : Int) : ∀ n, -1 ≤ oldN τ p d n ∧ oldN τ p d n < n
  | 0 => ⟨Int.le_refl _, by unfold oldN; omega⟩
  | n + 1 => by
    have := oldN_b τ p d n
    unfold oldN
    split <;> omega
/-- the text of place p on day d, -1 none -/
def oldF (τ : Wd) (p d : Int) : Int := if oldN τ p d (τ 12 46).toNat < 0 then -1 else τ 174 (oldN τ p d (τ 12 46).toNat).toNat
def otN (τ : Wd) (p d : Int) (n : Nat) : Int := if oldN τ p d n < 0 then -9 else τ 174 (oldN τ p d n).toNat
def odN (τ : Wd) (p d : Int) (n : Nat) : Int := if oldN τ p d n < 0 then -1 else τ 175 (oldN τ p d n).toNat
theorem od_s {τ : Wd} (hR : RNG τ) (p d : Int) (n : Nat) : odN τ p d (n + 1) = if τ 173 n = p ∧ τ 175 n ≤ d ∧ odN τ p d n ≤ τ 175 n then τ 175 n else odN τ p d n := by
  have h2 := hR.M_oDay n
  have h5 : -1 ≤ τ 175 n := by omega
  have hn : ¬ ((n : Int) < 0) := by omega
  have hc : τ 173 n = p ∧ τ 175 n ≤ d ∧ (oldN τ p d n < 0 ∨ τ 175 (oldN τ p d n).toNat ≤ τ 175 n) ↔ τ 173 n = p ∧ τ 175 n ≤ d ∧ odN τ p d n ≤ τ 175 n := by
    unfold odN
    by_cases q : oldN τ p d n < 0
    · simp [q, h5]
    · simp [q]
  by_cases q : τ 173 n = p ∧ τ 175 n ≤ d ∧ odN τ p d n ≤ τ 175 n
  · have e : oldN τ p d (n + 1) = (n : Int) := by rw [oldN_s, if_pos (hc.mpr q)]
    rw [if_pos q]
    simp only [odN, e, if_neg hn, tn]
  · have e : oldN τ p d (n + 1) = oldN τ p d n := by rw [oldN_s, if_neg (fun z => q (hc.mp z))]
    rw [if_neg q]
    simp only [odN, e]
theorem ot_s {τ : Wd} (hR : RNG τ) (p d : Int) (n : Nat) : otN τ p d (n + 1) = if τ 173 n = p ∧ τ 175 n ≤ d ∧ odN τ p d n ≤ τ 175 n then τ 174 n else otN τ p d n := by
  have h2 := hR.M_oDay n
  have h5 : -1 ≤ τ 175 n := by omega
  have hn : ¬ ((n : Int) < 0) := by omega
  have hc : τ 173 n = p ∧ τ 175 n ≤ d ∧ (oldN τ p d n < 0 ∨ τ 175 (oldN τ p d n).toNat ≤ τ 175 n) ↔ τ 173 n = p ∧ τ 175 n ≤ d ∧ odN τ p d n ≤ τ 175 n := by
    unfold odN
    by_cases q : oldN τ p d n < 0
    · simp [q, h5]
    · simp [q]
  by_cases q : τ 173 n = p ∧ τ 175 n ≤ d ∧ odN τ p d n ≤ τ 175 n
  · have e : oldN τ p d (n + 1) = (n : Int) := by rw [oldN_s, if_pos (hc.mpr q)]
    rw [if_pos q]
    simp only [otN, e, if_neg hn, tn]
  · have e : oldN τ p d (n + 1) = oldN τ p d n := by rw [oldN_s, if_neg (fun z => q (hc.mp z))]
    rw [if_neg q]
    simp only [otN, e]
theorem Ev.cast {sc : SC} {C : CT} {cdk : Nat → Ent} {Q : Option AV → Wd → Prop} {s s' : AS} (h : Ev sc C cdk Q s) (e : s' = s) : Ev sc C cdk Q s' := e ▸ h
section
variable {w κ τ : Wd}
theorem textOn_ok (hc : pc w = κ) (hm : pm w = τ) (hE : EQ κ τ) (hR : RNG τ) {p d : Int} : Cal 1 76 [.inr (.inr 5), .inl p, .inl d] w (rI fun y u => y = (if oldF τ p d < 0 then -9 else oldF τ p d) ∧ u = w) := by
  have hb := hR.M_olds
  generalize hQ : (rI fun y u => y = (if oldF τ p d < 0 then -9 else oldF τ p d) ∧ u = w) = Q
  have key := Ev.count (sc := none) (C := Cal 0) (cdk := cd 76) (Q := Q) (N := (τ 12 46).toNat) (S := fun i => (9, [some (.inr (.inr 5)), some (.inl p), some (.inl d), some (.inl (otN τ p d i)), some (.inl (odN τ p d i)), some (.inl (i : Int))], [], w)) (fun i hi h => ?_) ?_ 0 (Nat.zero_le _)
  · refine en_76 ?_
    exact key
  · refine bk_76_9 ?_
    simp only [r5_8 hc, hE.Places_olds, r83 hc, hE.Places_oldPlaces, r85 hc, hE.Places_oldDays, r84 hc, hE.Places_oldTexts, tn, wr_s (show i < 2000000 by omega)]
    have h2 := hR.M_oDay i
    rw [if_pos (by omega)]
    repeat' (first | split | (refine And.intro (by omega) ?_) | fail)
    all_goals refine h.cast ?_
    all_goals (simp [ot_s hR, od_s hR, *] <;> omega)
  · refine bk_76_9 ?_
    simp only [r5_8 hc, hE.Places_olds]
    rw [if_neg (by omega)]
    subst hQ
    refine ⟨?_, rfl⟩
    unfold oldF otN
    have h3 := oldN_b τ p d (τ 12 46).toNat
    by_cases q : oldN τ p d (τ 12 46).toNat < 0
    · simp [q]
    · have := hR.M_oText (oldN τ p d (τ 12 46).toNat).toNat (by omega)
      simp [q]
      omega
end
