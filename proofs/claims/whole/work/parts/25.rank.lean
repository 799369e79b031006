/-! scores and ranks -/
theorem wst_ap (w : Wd) (a i : Nat) (x : Int) (c j : Nat) : wst w a i x c j = if c = a ∧ j = i then x else w c j := rfl
theorem Ev.inv {sc : SC} {C : CT} {cdk : Nat → Ent} {Q : Option AV → Wd → Prop} {I : Nat → AS → Prop} {N : Nat} (h : ∀ i, i < N → ∀ s, I i s → (∀ s', I (i + 1) s' → Ev sc C cdk Q s') → Ev sc C cdk Q s) (hN : ∀ s, I N s → Ev sc C cdk Q s) : ∀ i, i ≤ N → ∀ s, I i s → Ev sc C cdk Q s := by
  intro i hi
  obtain ⟨n, rfl⟩ : ∃ n, N = i + n := ⟨N - i, by omega⟩
  clear hi
  induction n generalizing i with
  | zero => exact hN
  | succ n ih =>
    intro s hs
    refine h i (by omega) s hs (fun s' hs' => ih (i + 1) (fun j hj => h j (by omega)) ?_ s' hs')
    rw [show i + 1 + n = i + (n + 1) by omega]
    exact hN
/-- one kind's part of a score -/
def trm (τ : Wd) (p j k b t : Int) : Int := if rolF τ p t j k < 0 then 0 else if τ 150 (rolF τ p t j k).toNat + b * τ 151 (rolF τ p t j k).toNat < 0 then 0 else τ 150 (rolF τ p t j k).toNat + b * τ 151 (rolF τ p t j k).toNat
def scN (τ : Wd) (p j k b : Int) : Nat → Int
  | 0 => 0
  | n + 1 => scN τ p j k b n + τ 153 n * trm τ p j k b n
theorem scN_s (τ : Wd) (p j k b : Int) (n : Nat) : scN τ p j k b (n + 1) = scN τ p j k b n + τ 153 n * trm τ p j k b n := rfl
/-- SCORE (b 0), LEAST (-1), GREATEST (1) -/
def scF (τ : Wd) (p j k b : Int) : Int := scN τ p j k b 2
theorem trm_b {τ : Wd} (hR : RNG τ) (p j k b t : Int) (hb : -1 ≤ b ∧ b ≤ 1) : 0 ≤ trm τ p j k b t ∧ trm τ p j k b t ≤ 10998 := by
  unfold trm
  have h1 := hR.M_rValue (rolF τ p t j k).toNat
  have h2 := hR.M_rWrong (rolF τ p t j k).toNat
  obtain h | h | h : b = -1 ∨ b = 0 ∨ b = 1 := by omega
  all_goals (subst h; split; omega; split <;> omega)
theorem scN_b {τ : Wd} (hR : RNG τ) (p j k b : Int) (hb : -1 ≤ b ∧ b ≤ 1) : ∀ n : Nat, 0 ≤ scN τ p j k b n ∧ scN τ p j k b n ≤ 1088802 * n
  | 0 => ⟨Int.le_refl _, Int.le_refl _⟩
  | n + 1 => by
    have h1 := scN_b hR p j k b hb n
    have h2 := trm_b hR p j k b n hb
    have h3 := hR.M_weights n
    rw [scN_s]
    have h4 : 0 ≤ τ 153 n * trm τ p j k b n := Int.mul_nonneg h3.1 h2.1
    have h5 : τ 153 n * trm τ p j k b n ≤ 99 * 10998 := Int.mul_le_mul h3.2 h2.2 h2.1 (by omega)
    omega
section
variable {w κ τ : Wd}
theorem scoreOf_ok (hm : pm w = τ) (hR : RNG τ) {p j k b : Int} (hb : -1 ≤ b ∧ b ≤ 1) : Cal 2 169 [.inr (.inr 12), .inl p, .inl j, .inl k, .inl b] w (rI fun y u => y = scF τ p j k b ∧ u = w) := by
  generalize hQ : (rI fun y u => y = scF τ p j k b ∧ u = w) = Q
  have key := Ev.count (sc := none) (C := Cal 1) (cdk := cd 169) (Q := Q) (N := 2) (S := fun i => (6, [some (.inr (.inr 12)), some (.inl p), some (.inl j), some (.inl k), some (.inl b), some (.inl (scN τ p j k b i)), some (.inl (i : Int)), none, none], [], w)) (fun i hi h => ?_) ?_ 0 (Nat.zero_le _)
  · exact en_169 key
  · refine bk_169_6 ?_
    rw [if_pos (by omega)]
    refine CalE.to (rollOn_ok hm hR) (by decide) ?_
    have h1 := rolF_b hR p i j k
    have h8 := hR.M_rolls
    have h2 := scN_b hR p j k b hb i
    have h3 := hR.M_weights i
    have h4 := hR.M_rValue (rolF τ p i j k).toNat
    have h5 := hR.M_rWrong (rolF τ p i j k).toNat
    have h6 := trm_b hR p j k b i hb
    have h7 : 0 ≤ τ 153 i * trm τ p j k b i := Int.mul_nonneg h3.1 h6.1
    have h9 : τ 153 i * trm τ p j k b i ≤ 99 * 10998 := Int.mul_le_mul h3.2 h6.2 h6.1 (by omega)
    have h10 : -999 ≤ b * τ 151 (rolF τ p i j k).toNat ∧ b * τ 151 (rolF τ p i j k).toNat ≤ 999 := by
      obtain q | q | q : b = -1 ∨ b = 0 ∨ b = 1 := by omega
      all_goals (subst q; omega)
    simp only [r153 hm, r150 hm, r151 hm, tn, wr_s (show i < 2000000 by omega)]
    rw [wr_id (x := b * _) (by omega) (by omega), wr_id (x := τ 150 (rolF τ p i j k).toNat + _) (by omega) (by omega)]
    unfold trm at h6 h7 h9
    repeat' (first | split | (refine And.intro (by first | omega | exact Or.inl trivial | exact Or.inr trivial | exact ⟨trivial, trivial⟩ | fail) ?_) | fail)
    all_goals refine h.cast ?_
    all_goals rw [scN_s]
    all_goals unfold trm
    all_goals simp only [*, if_true, if_false] at h7 h9 ⊢
    all_goals (rw [wr_id (x := τ 153 i * _) (by omega) (by omega), wr_id (by omega) (by omega)])
  · refine bk_169_6 ?_
    rw [if_neg (by omega)]
    subst hQ
    exact ⟨rfl, rfl⟩
end
