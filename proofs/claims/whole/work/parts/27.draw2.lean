/-! the class draws the list -/
section
variable {w κ τ : Wd}
/-- what is drawn of one place after t kinds -/
def DI (τ : Wd) (j k : Int) (u : Wd) (q t : Nat) : Prop := u 111 q = scN τ q j k 0 t ∧ u 112 q = scN τ q j k (-1) t ∧ u 113 q = scN τ q j k 1 t ∧ (1 ≤ t → u 110 q = valF τ (rolF τ q 0 j k))
theorem trm_c {τ : Wd} (hR : RNG τ) (p j k : Int) (t : Int) : trm τ p j k 0 t = valF τ (rolF τ p t j k) ∧ trm τ p j k (-1) t = max 0 (valF τ (rolF τ p t j k) - wroF τ (rolF τ p t j k)) ∧ trm τ p j k 1 t = valF τ (rolF τ p t j k) + wroF τ (rolF τ p t j k) := by
  unfold trm valF wroF
  have h1 := hR.M_rValue (rolF τ p t j k).toNat
  have h2 := hR.M_rWrong (rolF τ p t j k).toNat
  refine ⟨?_, ?_, ?_⟩
  all_goals (split; · first | rfl | omega
             split <;> omega)
theorem drawList_ok (hc : pc w = κ) (hm : pm w = τ) (hE : EQ κ τ) (hR : RNG τ) {n j k : Int} (hn : n = τ 12 1) : Cal 2 29 [.inr (.inr 7), .inl n, .inl j, .inl k] w (rV fun u => DL τ j k u ∧ pc u = κ ∧ pm u = τ) := by
  have hb := hR.M_places
  generalize hQ : (rV fun u => DL τ j k u ∧ pc u = κ ∧ pm u = τ) = Q
  have key := Ev.inv (sc := none) (C := Cal 1) (cdk := cd 29) (Q := Q) (N := (τ 12 1).toNat) (I := fun i s => ∃ u : Wd, s = (13, [some (.inr (.inr 7)), none, some (.inl j), some (.inl k), some (.inl (i : Int)), none, none, none, none], [], u) ∧ pc u = κ ∧ pm u = τ ∧ u 7 11 = τ 12 1 ∧ ∀ q : Nat, q < i → DI τ j k u q 2) (fun i hi s hs h => ?_) (fun s hs => ?_) 0 (Nat.zero_le _)
  · refine en_29 ?_
    have e : min n 16 = τ 12 1 := by omega
    rw [e]
    refine key _ ⟨_, rfl, ?_, ?_, ?_, fun q hq => absurd hq (Nat.not_lt_zero q)⟩
    · rw [pc_out rfl]; exact hc
    · rw [pm_out rfl]; exact hm
    · simp [wst_ap]
  · obtain ⟨u, rfl, uc, um, ul, hd⟩ := hs
    refine bk_29_13 ?_
    simp only [ul, tn]
    rw [if_pos (by omega)]
    refine ⟨⟨by omega, by omega⟩, ⟨by omega, by omega⟩, ⟨by omega, by omega⟩, ?_⟩
    have key2 := Ev.inv (sc := none) (C := Cal 1) (cdk := cd 29) (Q := Q) (N := 2) (I := fun t s => ∃ v : Wd, s = (49, [some (.inr (.inr 7)), none, some (.inl j), some (.inl k), some (.inl (i : Int)), some (.inl (t : Int)), none, none, none], [], v) ∧ pc v = κ ∧ pm v = τ ∧ v 7 11 = τ 12 1 ∧ (∀ q : Nat, q < i → DI τ j k v q 2) ∧ DI τ j k v i t) (fun t ht s hs h2 => ?_) (fun s hs => ?_) 0 (Nat.zero_le _)
    · refine key2 _ ⟨_, rfl, ?_, ?_, ?_, fun q hq => ?_, ?_⟩
      · rw [pc_out rfl, pc_out rfl, pc_out rfl]; exact uc
      · rw [pm_out rfl, pm_out rfl, pm_out rfl]; exact um
      · simp [wst_ap, ul]
      · have := hd q hq
        unfold DI at this ⊢
        simpa [wst_ap, show q ≠ i by omega] using this
      · unfold DI
        simp [wst_ap, scN]
    · obtain ⟨v, rfl, vc, vm, vl, hd1, hd2⟩ := hs
      refine bk_29_49 ?_
      rw [if_pos (by omega)]
      rw [wr_id (x := (i : Int) * 2) (by omega) (by omega), wr_id (x := (i : Int) * 2 + t) (by omega) (by omega)]
      have h1 := rolF_b hR i t j k
      have h8 := hR.M_rolls
      refine CalE.to (find_ok vc vm hE hR (p := i) (t := t) (by omega) (by omega)) (by decide) ?_
      have e1 : ∀ f : Wd → Int → Int, f = valF ∨ f = wroF → f τ (if rolF τ i t j k < 0 then -9 else rolF τ i t j k) = f τ (rolF τ i t j k) := by
        intro f hf
        split
        · rename_i hlt
          rcases hf with rfl | rfl <;> simp [valF, wroF, hlt]
        · rfl
      refine CalE.to (valueOf_ok vc hE hR (by split <;> omega)) (by decide) ?_
      refine CalE.to (wrongOf_ok vc hE hR (by split <;> omega)) (by decide) ?_
      rw [e1 valF (Or.inl rfl), e1 wroF (Or.inr rfl)]
      have hval : 0 ≤ valF τ (rolF τ i t j k) ∧ valF τ (rolF τ i t j k) ≤ 9999 := by
        unfold valF
        have := hR.M_rValue (rolF τ i t j k).toNat
        split <;> omega
      have hwro : 0 ≤ wroF τ (rolF τ i t j k) ∧ wroF τ (rolF τ i t j k) ≤ 999 := by
        unfold wroF
        have := hR.M_rWrong (rolF τ i t j k).toNat
        split <;> omega
      have t0 := trm_c hR i j k t
      have b0 := trm_b hR i j k 0 t (by omega)
      have b1 := trm_b hR i j k (-1) t (by omega)
      have b2' := trm_b hR i j k 1 t (by omega)
      have s0 := scN_b hR i j k 0 (by omega) t
      have s1 := scN_b hR i j k (-1) (by omega) t
      have s2 := scN_b hR i j k 1 (by omega) t
      have hw := hR.M_weights t
      have m : ∀ x : Int, 0 ≤ x → x ≤ 10998 → 0 ≤ x * τ 153 t ∧ x * τ 153 t ≤ 10998 * 99 := fun x h0 h1 => ⟨Int.mul_nonneg h0 hw.1, Int.mul_le_mul h1 hw.2 hw.1 (by omega)⟩
      have m0 := m _ b0.1 b0.2
      have m1 := m _ b1.1 b1.2
      have m2 := m _ b2'.1 b2'.2
      obtain ⟨d1, d2, d3, d4⟩ := hd2
      have p0 : wr (scN τ i j k 0 t + wr (valF τ (rolF τ i t j k) * τ 153 t)) = scN τ i j k 0 (t + 1) := by
        rw [scN_s, ← t0.1, Int.mul_comm (τ 153 t), wr_id (x := trm τ i j k 0 t * _) (by omega) (by omega), wr_id (by omega) (by omega)]
      have p1 : wr (scN τ i j k (-1) t + wr (max 0 (wr (valF τ (rolF τ i t j k) - wroF τ (rolF τ i t j k))) * τ 153 t)) = scN τ i j k (-1) (t + 1) := by
        rw [wr_id (x := valF τ (rolF τ i t j k) - _) (by omega) (by omega), scN_s, ← t0.2.1, Int.mul_comm (τ 153 t), wr_id (x := trm τ i j k (-1) t * _) (by omega) (by omega), wr_id (by omega) (by omega)]
      have p2 : wr (scN τ i j k 1 t + wr (wr (valF τ (rolF τ i t j k) + wroF τ (rolF τ i t j k)) * τ 153 t)) = scN τ i j k 1 (t + 1) := by
        rw [wr_id (x := valF τ (rolF τ i t j k) + _) (by omega) (by omega), scN_s, ← t0.2.2, Int.mul_comm (τ 153 t), wr_id (x := trm τ i j k 1 t * _) (by omega) (by omega), wr_id (by omega) (by omega)]
      have tail : ∀ s2 : Int, s2 = valF τ (rolF τ i 0 j k) → Ev none (Cal 1) (cd 29) Q (109, [some (.inr (.inr 7)), none, some (.inl j), some (.inl k), some (.inl (i : Int)), some (.inl (t : Int)), none, some (.inl (valF τ (rolF τ i t j k))), some (.inl (wroF τ (rolF τ i t j k)))], [.inl s2, .inl (i : Int), .inr (.inr 110)], v) := by
        intro s2 hs2
        refine bk_29_109 ?_
        simp only [tn]
        refine ⟨⟨by omega, by omega⟩, ⟨by omega, by omega⟩, ⟨by omega, by omega⟩, ⟨by omega, by omega⟩, ⟨by omega, by omega⟩, ⟨by omega, by omega⟩, ⟨by omega, by omega⟩, ⟨by omega, by omega⟩, ⟨by omega, by omega⟩, ⟨by omega, by omega⟩, ?_⟩
        have hwt : v 109 t = τ 153 t := by rw [r109 vc, hE.Rolls_weights]
        simp only [wst_ap, tn, hwt, d1, d2, d3, Nat.reduceEqDiff, false_and, if_false, and_self, if_true]
        rw [p0, p1, p2, wr_s (show t < 2000000 by omega)]
        refine h2 _ ⟨_, rfl, ?_, ?_, ?_, fun q hq => ?_, ?_⟩
        · rw [pc_out rfl, pc_out rfl, pc_out rfl, pc_out rfl]; exact vc
        · rw [pm_out rfl, pm_out rfl, pm_out rfl, pm_out rfl]; exact vm
        · simp [wst_ap, vl]
        · have := hd1 q hq
          unfold DI at this ⊢
          simpa [wst_ap, show q ≠ i by omega] using this
        · unfold DI
          simp [wst_ap, hs2]
      split
      · rename_i ht0
        obtain rfl : t = 0 := by omega
        exact tail _ rfl
      · rename_i ht0
        refine ⟨⟨by omega, by omega⟩, ?_⟩
        exact tail _ (d4 (by omega))
    · obtain ⟨v, rfl, vc, vm, vl, hd1, hd2⟩ := hs
      refine bk_29_49 ?_
      rw [if_neg (by omega), wr_s (show i < 2000000 by omega)]
      refine h _ ⟨_, rfl, vc, vm, vl, fun q hq => ?_⟩
      rcases Nat.lt_or_ge q i with z | z
      · exact hd1 q z
      · obtain rfl : q = i := by omega
        exact hd2
  · obtain ⟨u, rfl, uc, um, ul, hd⟩ := hs
    refine bk_29_13 ?_
    simp only [ul, tn]
    rw [if_neg (by omega)]
    subst hQ
    refine ⟨⟨ul, fun q hq => ?_⟩, uc, um⟩
    obtain ⟨d1, d2, d3, d4⟩ := hd q (by omega)
    exact ⟨d4 (by omega), d1, d2, d3⟩
end
