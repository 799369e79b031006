/-! places under a set of lines -/
def unS (τ : Wd) (z : Nat) (d : Int) (p : Nat) : Nat → Int
  | 0 => τ 144 p
  | n + 1 => if z.testBit n = true then chS (τ 183 n) (τ 184 n) (τ 185 n) (rkF τ p d (τ 12 0)) (valF τ (rolF τ p 0 d (τ 12 0))) (unS τ z d p n) else unS τ z d p n
def unT (τ : Wd) (z : Nat) (d : Int) (p : Nat) : Nat → Int
  | 0 => oldF τ p d
  | n + 1 => if z.testBit n = true then chT (τ 183 n) (τ 185 n) (unS τ z d p n) (unT τ z d p n) else unT τ z d p n
theorem unS_s (τ : Wd) (z : Nat) (d : Int) (p n : Nat) : unS τ z d p (n + 1) = if z.testBit n = true then chS (τ 183 n) (τ 184 n) (τ 185 n) (rkF τ p d (τ 12 0)) (valF τ (rolF τ p 0 d (τ 12 0))) (unS τ z d p n) else unS τ z d p n := rfl
theorem unT_s (τ : Wd) (z : Nat) (d : Int) (p n : Nat) : unT τ z d p (n + 1) = if z.testBit n = true then chT (τ 183 n) (τ 185 n) (unS τ z d p n) (unT τ z d p n) else unT τ z d p n := rfl
theorem unS_b {τ : Wd} (hR : RNG τ) (z : Nat) (d : Int) (p n : Nat) : 0 ≤ unS τ z d p n ∧ unS τ z d p n ≤ 9 := by
  induction n with
  | zero => have := hR.M_sends p; show 0 ≤ τ 144 p ∧ τ 144 p ≤ 9; omega
  | succ n ih =>
    rw [unS_s]
    split
    · exact chS_b (hR.M_lMany n) ih
    · exact ih
theorem oldF_b {τ : Wd} (hR : RNG τ) (p d : Int) : -1 ≤ oldF τ p d ∧ oldF τ p d < max 0 (τ 12 31) := by
  have h1 := oldN_b τ p d (τ 12 46).toNat
  have h2 := hR.M_olds
  have h3 := hR.M_texts
  unfold oldF
  split
  · omega
  · have := hR.M_oText (oldN τ p d (τ 12 46).toNat).toNat (by omega)
    omega
theorem unT_b {τ : Wd} (hR : RNG τ) (z : Nat) (d : Int) (p n : Nat) (hn : n ≤ nL τ) : -1 ≤ unT τ z d p n ∧ unT τ z d p n < max 0 (τ 12 31) := by
  induction n with
  | zero => exact oldF_b hR p d
  | succ n ih =>
    have h := ih (by omega)
    have hL := nL_9 hR
    have h1 := hR.M_lText n (by omega)
    have h2 := hR.M_lX n
    rw [unT_s]
    split
    · unfold chT
      split
      · rename_i q
        have := h1 q
        split <;> omega
      · exact h
    · exact h
def ct (t : Int) : Int := if t < 0 then -9 else t
theorem ct_ch {k x s t : Int} (hx : 0 ≤ x) : chT k x s (ct t) = ct (chT k x s t) := by
  unfold chT ct
  split
  · split
    · rw [if_neg (by omega)]
    · rfl
  · rfl
noncomputable def seF (τ : Wd) (z : Nat) (d : Int) (p : Nat) : Int := unS τ z d p (nL τ)
noncomputable def teF (τ : Wd) (z : Nat) (d : Int) (p : Nat) : Int := unT τ z d p (nL τ)
section
variable {w κ τ : Wd} {T : Wd → Wd → Prop}
theorem apply_ok (hc : pc w = κ) (hm : pm w = τ) (hE : EQ κ τ) (hR : RNG τ) {x d : Int} {z : Nat} (hz : stF τ x = (z : Int)) (hL : DL τ d (τ 12 0) w) : Cal 2 118 [.inr (.inr 0), .inl x, .inl d, .inr (.inr 5), .inr (.inr 7)] w (rV fun u => pc u = κ ∧ pm u = τ ∧ u 20 = w 20 ∧ ∀ q : Nat, (q : Int) < τ 12 1 → u 17 q = seF τ z d q ∧ u 18 q = ct (teF τ z d q)) := by
  have hn := nL_9 hR
  have hp := p9 hn.1
  have hb := hR.M_places
  obtain ⟨z', h1, h2⟩ := stF_n hR x
  obtain rfl : z' = z := by omega
  generalize hQ : (rV fun u => pc u = κ ∧ pm u = τ ∧ u 20 = w 20 ∧ ∀ q : Nat, (q : Int) < τ 12 1 → u 17 q = seF τ z' d q ∧ u 18 q = ct (teF τ z' d q)) = Q
  have key2 := Ev.inv (sc := none) (C := Cal 1) (cdk := cd 118) (Q := Q) (N := nL τ) (I := fun i t => ∃ u : Wd, t = (70, [some (.inr (.inr 0)), none, none, some (.inr (.inr 5)), some (.inr (.inr 7)), some (.inl (z' : Int)), some (.inl (i : Int)), none], [], u) ∧ pc u = κ ∧ pm u = τ ∧ u 20 = w 20 ∧ DL τ d (τ 12 0) u ∧ ∀ q : Nat, (q : Int) < τ 12 1 → u 17 q = unS τ z' d q i ∧ u 18 q = ct (unT τ z' d q i) ∧ u 19 q = rkF τ q d (τ 12 0)) (fun i hi t ht h => ?_) (fun t ht => ?_) 0 (Nat.zero_le _)
  · have key := Ev.inv (sc := none) (C := Cal 1) (cdk := cd 118) (Q := Q) (N := (τ 12 1).toNat) (I := fun i t => ∃ u : Wd, t = (10, [some (.inr (.inr 0)), none, some (.inl d), some (.inr (.inr 5)), some (.inr (.inr 7)), some (.inl (z' : Int)), some (.inl (i : Int)), none], [], u) ∧ pc u = κ ∧ pm u = τ ∧ u 20 = w 20 ∧ DL τ d (τ 12 0) u ∧ ∀ q : Nat, q < i → u 17 q = τ 144 q ∧ u 18 q = ct (oldF τ q d) ∧ u 19 q = rkF τ q d (τ 12 0)) (fun i hi t ht h => ?_) (fun t ht => ?_) 0 (Nat.zero_le _)
    · refine en_118 ?_
      refine CalE.to (standing_ok hc hE hR) (by decide) ?_
      rw [h1]
      exact key _ ⟨w, rfl, hc, hm, rfl, hL, fun q h => absurd h (Nat.not_lt_zero q)⟩
    · obtain ⟨u, rfl, uc, um, u20, uL, hu⟩ := ht
      refine bk_118_10 ?_
      have e1 : u 79 i = τ 144 i := (r79 uc i).trans (hE.Places_seats i)
      simp only [r5_4 uc, hE.Places_size, tn, e1, wr_s (show i < 2000000 by omega)]
      rw [if_pos (by omega)]
      refine ⟨by omega, by omega, ?_⟩
      generalize hv : wst u 17 i (τ 144 i) = v
      have vc : pc v = κ := by rw [← hv, pc_out rfl]; exact uc
      have vm : pm v = τ := by rw [← hv, pm_out rfl]; exact um
      refine CalE.to (textOn_ok vc vm hE hR) (by decide) ?_
      refine ⟨by omega, ?_⟩
      generalize hv2 : wst v 18 i (if oldF τ i d < 0 then -9 else oldF τ i d) = v2
      have vc2 : pc v2 = κ := by rw [← hv2, pc_out rfl]; exact vc
      have vm2 : pm v2 = τ := by rw [← hv2, pm_out rfl]; exact vm
      have vL2 : DL τ d (τ 12 0) v2 := by rw [← hv2, ← hv]; exact uL
      refine CalE.to (rankOf_ok hR (p := (i : Int)) (by omega) vL2) (by decide) ?_
      refine ⟨by omega, h _ ⟨_, rfl, ?_, ?_, ?_, ?_, fun q hq => ?_⟩⟩
      · rw [pc_out rfl]; exact vc2
      · rw [pm_out rfl]; exact vm2
      · rw [← hv2, ← hv]; exact u20
      · exact vL2
      · rw [← hv2, ← hv]
        rcases Nat.lt_or_ge q i with g | g
        · have := hu q g
          simp [wst_ap, show q ≠ i by omega]
          exact this
        · obtain rfl : q = i := by omega
          simp [wst_ap, ct]
    · obtain ⟨u, rfl, uc, um, u20, uL, hu⟩ := ht
      refine bk_118_10 ?_
      simp only [r5_4 uc, hE.Places_size]
      rw [if_neg (by omega)]
      exact key2 _ ⟨u, rfl, uc, um, u20, uL, fun q hq => hu q (by omega)⟩
  · obtain ⟨u, rfl, uc, um, u20, uL, hu⟩ := ht
    refine bk_118_70 ?_
    simp only [r0_4 uc, hE.Bill_size]
    rw [if_pos (by omega)]
    by_cases hbit : z'.testBit i = true
    · have key3 := Ev.inv (sc := none) (C := Cal 1) (cdk := cd 118) (Q := Q) (N := (τ 12 1).toNat) (I := fun p t => ∃ v : Wd, t = (82, [some (.inr (.inr 0)), none, none, some (.inr (.inr 5)), some (.inr (.inr 7)), some (.inl (z' : Int)), some (.inl (i : Int)), some (.inl (p : Int))], [], v) ∧ pc v = κ ∧ pm v = τ ∧ v 20 = w 20 ∧ DL τ d (τ 12 0) v ∧ ∀ q : Nat, (q : Int) < τ 12 1 → v 17 q = (if q < p then unS τ z' d q (i + 1) else unS τ z' d q i) ∧ v 18 q = ct (if q < p then unT τ z' d q (i + 1) else unT τ z' d q i) ∧ v 19 q = rkF τ q d (τ 12 0)) (fun p hpp t ht h2 => ?_) (fun t ht => ?_) 0 (Nat.zero_le _)
      · refine key3 _ ⟨u, rfl, uc, um, u20, uL, fun q hq => ?_⟩
        rw [if_neg (Nat.not_lt_zero q), if_neg (Nat.not_lt_zero q)]
        exact hu q hq
      · obtain ⟨v, rfl, vc, vm, v20, vL, hv⟩ := ht
        refine bk_118_82 ?_
        simp only [r5_4 vc, hE.Places_size, tn]
        have hvp := hv p (by omega)
        rw [if_neg (Nat.lt_irrefl p), if_neg (Nat.lt_irrefl p)] at hvp
        have hh := (vL.2 p (by omega)).1
        have hxs := hR.M_lX i
        rw [if_pos (by omega), if_pos ((bit_n (by omega) (by omega)).2 hbit), hh]
        refine ⟨by omega, ?_⟩
        have hsb := unS_b hR z' d p i
        refine CalVE.to (change_ok vc hE hR (by omega) (by omega) (by rw [hvp.1]; exact hsb)) (by decide) ?_
        rw [wr_s (show p < 2000000 by omega), hvp.1, hvp.2.1, hvp.2.2, ct_ch (by omega)]
        have s1 := unS_s τ z' d p i
        have s2 := unT_s τ z' d p i
        rw [if_pos hbit] at s1 s2
        rw [← s1, ← s2]
        refine h2 _ ⟨_, rfl, ?_, ?_, v20, vL, fun q hq => ?_⟩
        · rw [pc_out rfl, pc_out rfl]; exact vc
        · rw [pm_out rfl, pm_out rfl]; exact vm
        · have := hv q hq
          by_cases g : q = p
          · subst g
            rw [if_pos (by omega), if_pos (by omega)]
            simp [wst_ap, hvp.2.2]
          · by_cases g2 : q < p
            · rw [if_pos g2, if_pos g2] at this
              rw [if_pos (by omega), if_pos (by omega)]
              simp [wst_ap, g]
              exact this
            · rw [if_neg g2, if_neg g2] at this
              rw [if_neg (by omega), if_neg (by omega)]
              simp [wst_ap, g]
              exact this
      · obtain ⟨v, rfl, vc, vm, v20, vL, hv⟩ := ht
        refine bk_118_82 ?_
        simp only [r5_4 vc, hE.Places_size, wr_s (show i < 2000000 by omega)]
        rw [if_neg (by omega)]
        refine h _ ⟨v, rfl, vc, vm, v20, vL, fun q hq => ?_⟩
        have := hv q hq
        rw [if_pos (by omega), if_pos (by omega)] at this
        exact this
    · have nx : Ev none (Cal 1) (cd 118) Q (70, [some (.inr (.inr 0)), none, none, some (.inr (.inr 5)), some (.inr (.inr 7)), some (.inl (z' : Int)), some (.inl ((i + 1 : Nat) : Int)), none], [], u) := h _ ⟨u, rfl, uc, um, u20, uL, fun q hq => by
        rw [unS_s, unT_s, if_neg hbit, if_neg hbit]
        exact hu q hq⟩
      refine bk_118_82 ?_
      rw [wr_s (show i < 2000000 by omega)]
      refine ite_i (fun _ => ?_) (fun _ => nx)
      rw [if_neg (fun g => hbit ((bit_n (by omega) (by omega)).1 g))]
      exact nx
  · obtain ⟨u, rfl, uc, um, u20, uL, hu⟩ := ht
    refine bk_118_70 ?_
    simp only [r0_4 uc, hE.Bill_size]
    rw [if_neg (by omega), ← hQ]
    exact ⟨uc, um, u20, fun q hq => ⟨(hu q hq).1, (hu q hq).2.1⟩⟩
theorem applyBill_ok (hc : pc w = κ) (hm : pm w = τ) (hE : EQ κ τ) (hR : RNG τ) {x d : Int} {z : Nat} (hz : stF τ x = (z : Int)) : Cal 3 117 [.inr (.inr 11), .inl x, .inl d] w (rV fun u => pc u = κ ∧ pm u = τ ∧ u 20 = w 20 ∧ ∀ q : Nat, (q : Int) < τ 12 1 → u 17 q = seF τ z d q ∧ u 18 q = ct (teF τ z d q)) := by
  have e1 := (r11_15 hc).trans hE.R_today
  have e2 := (r5_4 hc).trans hE.Places_size
  refine en_117 ?_
  rw [e1]
  refine CalV.to (drawListK_ok hc hm hE hR e2) (by decide) ?_
  rintro u ⟨uL, uc, um, u20⟩
  refine CalV.to (apply_ok uc um hE hR hz uL) (by decide) ?_
  rintro v ⟨vc, vm, v20, hv⟩
  exact ⟨vc, vm, v20.trans u20, hv⟩
theorem fkinds_l (hm : pm w = τ) (hR : RNG τ) {z : Nat} (hz : z < 512) {d : Int} {C : Nat} {Q : Option AV → Wd → Prop} (hQ : Ev none (Cal C) (cd 217) Q (58, [some (.inr (.inr 12)), none, some (.inl d), some (.inl (z : Int)), some (.inl (kmN τ z (nL τ))), some (.inl 0), none, none], [], w)) : Ev none (Cal C) (cd 217) Q (12, [some (.inr (.inr 12)), none, some (.inl d), some (.inl (z : Int)), some (.inl 0), some (.inl 0), none, none], [], w) := by
  have hn := nL_9 hR
  have key := Ev.count (sc := none) (C := Cal C) (cdk := cd 217) (Q := Q) (N := nL τ) (S := fun i => (12, [some (.inr (.inr 12)), none, some (.inl d), some (.inl (z : Int)), some (.inl (kmN τ z i)), some (.inl (i : Int)), none, none], [], w)) (fun i hi h => ?_) ?_ 0 (Nat.zero_le _)
  · exact key
  · refine bk_217_12 ?_
    have hk := kmN_b hR z i
    have hs := kmN_s τ z i
    simp only [r12_61 hm, r183 hm, tn, wr_s (show i < 2000000 by omega)]
    rw [if_pos (by omega), ior_0 (by omega)]
    refine ite_i (fun q => ?_) (fun q => ?_)
    · rw [if_pos q] at hs
      refine ⟨by omega, ?_⟩
      rw [← hs]
      exact h
    · rw [if_neg q] at hs
      rw [← hs]
      exact h
  · refine bk_217_12 ?_
    simp only [r12_61 hm]
    rw [if_neg (by omega)]
    exact hQ
/-- what a line does, whatever stands for rank and value where no line of the kind is -/
theorem findUnder_ok (hm : pm w = τ) (hR : RNG τ) {x d : Int} {z : Nat} (hz : stF τ x = (z : Int)) : Cal 4 217 [.inr (.inr 12), .inl x, .inl d] w (rV fun u => pc u = pc w ∧ pm u = τ ∧ u 191 = w 191 ∧ u 192 = w 192 ∧ ∀ q : Nat, (q : Int) < τ 12 1 → u 187 q = seF τ z d q ∧ u 188 q = teF τ z d q) := by
  have hn := nL_9 hR
  have hp := p9 hn.1
  have hb := hR.M_places
  obtain ⟨z', h1, h2⟩ := stF_n hR x
  obtain rfl : z' = z := by omega
  generalize hQ : (rV fun u => pc u = pc w ∧ pm u = τ ∧ u 191 = w 191 ∧ u 192 = w 192 ∧ ∀ q : Nat, (q : Int) < τ 12 1 → u 187 q = seF τ z' d q ∧ u 188 q = teF τ z' d q) = Q
  have hk0 := kmN_0 hR z' (nL τ)
  have hk1 := kmN_1 hR z' (nL τ)
  have key2 := Ev.inv (sc := none) (C := Cal 3) (cdk := cd 217) (Q := Q) (N := nL τ) (I := fun i t => ∃ u : Wd, t = (183, [some (.inr (.inr 12)), none, none, some (.inl (z' : Int)), none, some (.inl (i : Int)), none, none], [], u) ∧ pc u = pc w ∧ pm u = τ ∧ u 191 = w 191 ∧ u 192 = w 192 ∧ ∀ q : Nat, (q : Int) < τ 12 1 → u 187 q = unS τ z' d q i ∧ u 188 q = unT τ z' d q i ∧ (iand (kmN τ z' (nL τ)) 1 = 1 → u 189 q = rkF τ q d (τ 12 0)) ∧ (iand (kmN τ z' (nL τ)) 2 = 2 → u 190 q = valF τ (rolF τ q 0 d (τ 12 0)))) (fun i hi t ht h => ?_) (fun t ht => ?_) 0 (Nat.zero_le _)
  · have key := Ev.inv (sc := none) (C := Cal 3) (cdk := cd 217) (Q := Q) (N := (τ 12 1).toNat) (I := fun i t => ∃ u : Wd, t = (58, [some (.inr (.inr 12)), none, some (.inl d), some (.inl (z' : Int)), some (.inl (kmN τ z' (nL τ))), some (.inl (i : Int)), none, none], [], u) ∧ pc u = pc w ∧ pm u = τ ∧ u 191 = w 191 ∧ u 192 = w 192 ∧ ∀ q : Nat, q < i → u 187 q = τ 144 q ∧ u 188 q = oldF τ q d ∧ (iand (kmN τ z' (nL τ)) 1 = 1 → u 189 q = rkF τ q d (τ 12 0)) ∧ (iand (kmN τ z' (nL τ)) 2 = 2 → u 190 q = valF τ (rolF τ q 0 d (τ 12 0)))) (fun i hi t ht h => ?_) (fun t ht => ?_) 0 (Nat.zero_le _)
    · refine en_217 ?_
      refine CalE.to (mstanding_ok hm hR) (by decide) ?_
      rw [h1]
      refine fkinds_l hm hR (by omega) ?_
      exact key _ ⟨w, rfl, rfl, hm, rfl, rfl, fun q h => absurd h (Nat.not_lt_zero q)⟩
    · obtain ⟨u, rfl, uc, um, u1, u2, hu⟩ := ht
      refine bk_217_58 ?_
      simp only [r12_1 um, r144 um, tn, wr_s (show i < 2000000 by omega)]
      rw [if_pos (by omega)]
      refine ⟨by omega, by omega, ?_⟩
      generalize hv : wst u 187 i (τ 144 i) = v
      have vm : pm v = τ := by rw [← hv, pm_out rfl]; exact um
      refine CalE.to (oldOn_ok vm hR) (by decide) ?_
      refine ⟨by omega, ?_⟩
      generalize hv2 : wst v 188 i (oldF τ i d) = v2
      have vm2 : pm v2 = τ := by rw [← hv2, pm_out rfl]; exact vm
      have hrb := rolF_b hR i 0 d (τ 12 0)
      have hro := hR.M_rolls
      have fin : ∀ r a : Int, (iand (kmN τ z' (nL τ)) 1 = 1 → r = rkF τ i d (τ 12 0)) → (iand (kmN τ z' (nL τ)) 2 = 2 → a = valF τ (rolF τ i 0 d (τ 12 0))) → Ev none (Cal 3) (cd 217) Q (58, [some (.inr (.inr 12)), none, some (.inl d), some (.inl (z' : Int)), some (.inl (kmN τ z' (nL τ))), some (.inl ((i + 1 : Nat) : Int)), none, none], [], wst (wst v2 189 i r) 190 i a) := by
        intro r a hr ha
        refine h _ ⟨_, rfl, ?_, ?_, ?_, ?_, fun q hq => ?_⟩
        · rw [← hv2, ← hv, pc_out rfl, pc_out rfl, pc_out rfl, pc_out rfl]; exact uc
        · rw [pm_out rfl, pm_out rfl]; exact vm2
        · rw [← hv2, ← hv]; exact u1
        · rw [← hv2, ← hv]; exact u2
        · rw [← hv2, ← hv]
          rcases Nat.lt_or_ge q i with g | g
          · have := hu q g
            simp only [wst_ap, Nat.reduceEqDiff, false_and, if_false, true_and, show ¬ q = i by omega]
            exact this
          · obtain rfl : q = i := by omega
            simp only [wst_ap, Nat.reduceEqDiff, false_and, if_false, true_and, if_true, and_self]
            exact ⟨hr, ha⟩
      have e12 : ∀ r : Int, (wst v2 189 i r) 12 0 = τ 12 0 := fun r => show v2 12 0 = τ 12 0 from r12_0 vm2
      have ev2 : v2 12 0 = τ 12 0 := r12_0 vm2
      have go2 : ∀ r : Int, (iand (kmN τ z' (nL τ)) 1 = 1 → r = rkF τ i d (τ 12 0)) → (0 ≤ (i : Int) ∧ (i : Int) < 16) ∧ (if iand (kmN τ z' (nL τ)) 2 = 2 then Cal 3 165 [.inr (.inr 12), .inl (i : Int), .inl 0, .inl d, .inl ((wst v2 189 i r) 12 0)] (wst v2 189 i r) (rI fun v3 w3 => if v3 < 0 then (0 ≤ (i : Int) ∧ (i : Int) < 16) ∧ Ev none (Cal 3) (cd 217) Q (58, [some (.inr (.inr 12)), none, some (.inl d), some (.inl (z' : Int)), some (.inl (kmN τ z' (nL τ))), some (.inl ((i + 1 : Nat) : Int)), none, none], [], wst w3 190 i 0) else (0 ≤ v3 ∧ v3 < 120) ∧ (0 ≤ (i : Int) ∧ (i : Int) < 16) ∧ Ev none (Cal 3) (cd 217) Q (58, [some (.inr (.inr 12)), none, some (.inl d), some (.inl (z' : Int)), some (.inl (kmN τ z' (nL τ))), some (.inl ((i + 1 : Nat) : Int)), none, none], [], wst w3 190 i (w3 150 v3.toNat))) else (0 ≤ (i : Int) ∧ (i : Int) < 16) ∧ Ev none (Cal 3) (cd 217) Q (58, [some (.inr (.inr 12)), none, some (.inl d), some (.inl (z' : Int)), some (.inl (kmN τ z' (nL τ))), some (.inl ((i + 1 : Nat) : Int)), none, none], [], wst (wst v2 189 i r) 190 i 0)) := by
        intro r hr
        refine ⟨by omega, ite_i (fun q => ?_) (fun q => ⟨by omega, fin r 0 hr (fun g => absurd g q)⟩)⟩
        have vm3 : pm (wst v2 189 i r) = τ := by rw [pm_out rfl]; exact vm2
        rw [e12]
        refine CalE.to (rollOn_ok vm3 hR) (by decide) ?_
        refine ite_i (fun g => ⟨by omega, fin r 0 hr (fun _ => ?_)⟩) (fun g => ⟨by omega, by omega, fin r _ hr (fun _ => ?_)⟩)
        · unfold valF
          rw [if_pos g]
        · have e3 : (wst v2 189 i r) 150 (rolF τ i 0 d (τ 12 0)).toNat = τ 150 (rolF τ i 0 d (τ 12 0)).toNat := show v2 150 (rolF τ i 0 d (τ 12 0)).toNat = _ from r150 vm2 _
          rw [e3]
          unfold valF
          rw [if_neg g]
      refine ite_i (fun q => ?_) (fun q => ?_)
      · rw [ev2]
        refine CalE.to (mRankOf_ok vm2 hR) (by decide) ?_
        exact go2 _ (fun _ => rfl)
      · exact go2 0 (fun g => absurd g q)
    · obtain ⟨u, rfl, uc, um, u1, u2, hu⟩ := ht
      refine bk_217_58 ?_
      simp only [r12_1 um]
      rw [if_neg (by omega)]
      exact key2 _ ⟨u, rfl, uc, um, u1, u2, fun q hq => hu q (by omega)⟩
  · obtain ⟨u, rfl, uc, um, u1, u2, hu⟩ := ht
    refine bk_217_183 ?_
    simp only [r12_61 um]
    rw [if_pos (by omega)]
    by_cases hbit : z'.testBit i = true
    · have hb2 : iand (ishr (z' : Int) (i : Int)) 1 = 1 := (bit_n (by omega) (by omega)).2 hbit
      have key3 := Ev.inv (sc := none) (C := Cal 3) (cdk := cd 217) (Q := Q) (N := (τ 12 1).toNat) (I := fun p t => ∃ v : Wd, t = (195, [some (.inr (.inr 12)), none, none, some (.inl (z' : Int)), none, some (.inl (i : Int)), some (.inl (p : Int)), none], [], v) ∧ pc v = pc w ∧ pm v = τ ∧ v 191 = w 191 ∧ v 192 = w 192 ∧ ∀ q : Nat, (q : Int) < τ 12 1 → v 187 q = (if q < p then unS τ z' d q (i + 1) else unS τ z' d q i) ∧ v 188 q = (if q < p then unT τ z' d q (i + 1) else unT τ z' d q i) ∧ (iand (kmN τ z' (nL τ)) 1 = 1 → v 189 q = rkF τ q d (τ 12 0)) ∧ (iand (kmN τ z' (nL τ)) 2 = 2 → v 190 q = valF τ (rolF τ q 0 d (τ 12 0)))) (fun p hpp t ht h2 => ?_) (fun t ht => ?_) 0 (Nat.zero_le _)
      · refine key3 _ ⟨u, rfl, uc, um, u1, u2, fun q hq => ?_⟩
        rw [if_neg (Nat.not_lt_zero q), if_neg (Nat.not_lt_zero q)]
        exact hu q hq
      · obtain ⟨v, rfl, vc, vm, v1, v2, hv⟩ := ht
        have hvp := hv p (by omega)
        rw [if_neg (Nat.lt_irrefl p), if_neg (Nat.lt_irrefl p)] at hvp
        obtain ⟨p1, p2, p3, p4⟩ := hvp
        have hxs := hR.M_lX i
        have hmn := hR.M_lMany i
        have hkd := hR.M_lKind i
        have hsb := unS_b hR z' d p i
        have s1 := unS_s τ z' d p i
        have s2 := unT_s τ z' d p i
        rw [if_pos hbit] at s1 s2
        have hr0 : τ 183 i = 0 → v 189 p = rkF τ p d (τ 12 0) := fun g => p3 (Decidable.byContradiction fun y => hk0 i y hi hb2 g)
        have hr1 : τ 183 i = 1 → v 190 p = valF τ (rolF τ p 0 d (τ 12 0)) := fun g => p4 (Decidable.byContradiction fun y => hk1 i y hi hb2 g)
        have fin : ∀ u' : Wd, (∀ c, ¬ c = 187 → ¬ c = 188 → u' c = v c) → (∀ q, ¬ q = p → u' 187 q = v 187 q ∧ u' 188 q = v 188 q) → u' 187 p = unS τ z' d p (i + 1) → u' 188 p = unT τ z' d p (i + 1) → pc u' = pc w → pm u' = τ → Ev none (Cal 3) (cd 217) Q (195, [some (.inr (.inr 12)), none, none, some (.inl (z' : Int)), none, some (.inl (i : Int)), some (.inl ((p + 1 : Nat) : Int)), none], [], u') := by
          intro u' g1 g2 g3 g4 g5 g6
          refine h2 _ ⟨u', rfl, g5, g6, (g1 191 (by decide) (by decide)).trans v1, (g1 192 (by decide) (by decide)).trans v2, fun q hq => ?_⟩
          have := hv q hq
          rw [g1 189 (by decide) (by decide), g1 190 (by decide) (by decide)]
          by_cases g : q = p
          · subst g
            rw [if_pos (by omega), if_pos (by omega)]
            exact ⟨g3, g4, p3, p4⟩
          · rw [(g2 q g).1, (g2 q g).2]
            by_cases g2 : q < p
            · rw [if_pos g2, if_pos g2] at this
              rw [if_pos (by omega), if_pos (by omega)]
              exact this
            · rw [if_neg g2, if_neg g2] at this
              rw [if_neg (by omega), if_neg (by omega)]
              exact this
        have same : v 187 p = unS τ z' d p (i + 1) → v 188 p = unT τ z' d p (i + 1) → Ev none (Cal 3) (cd 217) Q (195, [some (.inr (.inr 12)), none, none, some (.inl (z' : Int)), none, some (.inl (i : Int)), some (.inl ((p + 1 : Nat) : Int)), none], [], v) := fun g3 g4 => fin v (fun _ _ _ => rfl) (fun _ _ => ⟨rfl, rfl⟩) g3 g4 vc vm
        have one : ∀ y : Int, y = unS τ z' d p (i + 1) → v 188 p = unT τ z' d p (i + 1) → Ev none (Cal 3) (cd 217) Q (195, [some (.inr (.inr 12)), none, none, some (.inl (z' : Int)), none, some (.inl (i : Int)), some (.inl ((p + 1 : Nat) : Int)), none], [], wst v 187 p y) := fun y g3 g4 => fin _ (fun c g _ => off_w (fun _ _ => rfl) c g) (fun q g => ⟨by rw [wst_ap, if_neg (fun y => g y.2)], rfl⟩) (by rw [wst_ap, if_pos ⟨rfl, rfl⟩]; exact g3) g4 (by rw [pc_out rfl]; exact vc) (by rw [pm_out rfl]; exact vm)
        have two : ∀ y : Int, v 187 p = unS τ z' d p (i + 1) → y = unT τ z' d p (i + 1) → Ev none (Cal 3) (cd 217) Q (195, [some (.inr (.inr 12)), none, none, some (.inl (z' : Int)), none, some (.inl (i : Int)), some (.inl ((p + 1 : Nat) : Int)), none], [], wst v 188 p y) := fun y g3 g4 => fin _ (fun c _ g => off_w (fun _ _ => rfl) c g) (fun q g => ⟨rfl, by rw [wst_ap, if_neg (fun y => g y.2)]⟩) g3 (by rw [wst_ap, if_pos ⟨rfl, rfl⟩]; exact g4) (by rw [pc_out rfl]; exact vc) (by rw [pm_out rfl]; exact vm)
        have give : ∀ s0 : Int, τ 183 i = 1 → s0 = (if v 190 p < τ 185 i then 0 else τ 184 i) → Ev none (Cal 3) (cd 217) Q (323, [some (.inr (.inr 12)), none, none, some (.inl (z' : Int)), none, some (.inl (i : Int)), some (.inl (p : Int)), none], [.inl s0], v) := by
          intro s0 gk gs
          have hs0 : 0 ≤ s0 ∧ s0 ≤ 2 := by rw [gs]; split <;> omega
          have r1 := hr1 gk
          have eS : unS τ z' d p (i + 1) = min 9 (unS τ z' d p i + s0) := by
            rw [s1]
            unfold chS
            rw [if_neg (by omega), if_pos gk, gs, r1]
            split <;> omega
          have eT : unT τ z' d p (i + 1) = unT τ z' d p i := by
            rw [s2]
            unfold chT
            rw [if_neg (by omega)]
          refine bk_217_323 ?_
          simp only [tn, p1]
          have ek : ∀ y : Int, (wst v 187 p y) 183 i = τ 183 i := fun y => r183 vm i
          rw [wr_id (by omega) (by omega), wr_s (show p < 2000000 by omega), ek, ek]
          refine ⟨by omega, ite_i (fun g => ⟨by omega, by omega, ?_⟩) (fun g => ⟨by omega, by omega, by omega, ?_⟩)⟩
          · rw [if_neg (by omega)]
            exact one _ (by omega) (by rw [eT, p2])
          · rw [if_neg (by omega)]
            exact one _ (by omega) (by rw [eT, p2])
        refine bk_217_195 ?_
        have ek : ∀ y : Int, (wst v 187 p y) 183 i = τ 183 i := fun y => r183 vm i
        have ek0 : v 183 i = τ 183 i := r183 vm i
        simp only [r12_1 vm, tn, r185 vm, r184 vm, wr_s (show p < 2000000 by omega), ek, ek0]
        rw [if_pos (by omega), if_pos hb2]
        refine ⟨by omega, ite_i (fun k0 => ?_) (fun k0 => ?_)⟩
        · refine ⟨by omega, by omega, ite_i (fun g => ?_) (fun g => ?_)⟩
          · refine ⟨by omega, by omega, ?_⟩
            rw [p1]
            have eT : unT τ z' d p (i + 1) = unT τ z' d p i := by
              rw [s2]
              unfold chT
              rw [if_neg (by omega)]
            have eS : unS τ z' d p (i + 1) = max 0 (unS τ z' d p i - τ 184 i) := by
              rw [s1]
              unfold chS
              rw [if_pos k0, ← hr0 k0, if_pos g]
            refine ite_i (fun e => ⟨by omega, by omega, by omega, by omega, ?_⟩) (fun e => ⟨by omega, by omega, ?_⟩)
            · rw [if_neg (by omega)]
              refine ⟨by omega, ?_⟩
              rw [if_neg (by omega), wr_id (by omega) (by omega)]
              exact one _ (by omega) (by rw [eT, p2])
            · rw [if_neg (by omega)]
              refine ⟨by omega, ?_⟩
              rw [if_neg (by omega)]
              exact one _ (by omega) (by rw [eT, p2])
          · refine ⟨by omega, ?_⟩
            rw [if_neg (by omega)]
            refine ⟨by omega, ?_⟩
            rw [if_neg (by omega)]
            refine same ?_ ?_
            · rw [s1, p1]
              unfold chS
              rw [if_pos k0, ← hr0 k0, if_neg g]
            · rw [s2, p2]
              unfold chT
              rw [if_neg (by omega)]
        · refine ⟨by omega, ite_i (fun k1 => ?_) (fun k1 => ?_)⟩
          · refine ⟨by omega, by omega, ite_i (fun g => ?_) (fun g => ?_)⟩
            · exact give _ k1 (by rw [if_pos g])
            · exact ⟨by omega, give _ k1 (by rw [if_neg g])⟩
          · have eS : unS τ z' d p (i + 1) = unS τ z' d p i := by
              rw [s1]
              unfold chS
              rw [if_neg k0, if_neg k1]
            refine ⟨by omega, ite_i (fun k2 => ?_) (fun k2 => by omega)⟩
            have eT : unT τ z' d p (i + 1) = if 0 < unS τ z' d p i then τ 185 i else unT τ z' d p i := by
              rw [s2]
              unfold chT
              rw [if_pos k2]
            rw [p1]
            refine ⟨by omega, ite_i (fun g => ?_) (fun g => ?_)⟩
            · rw [if_pos g] at eT
              exact ⟨by omega, by omega, two _ (by rw [eS, p1]) eT.symm⟩
            · rw [if_neg g] at eT
              exact same (by rw [eS, p1]) (by rw [eT, p2])
      · obtain ⟨v, rfl, vc, vm, v1, v2, hv⟩ := ht
        refine bk_217_195 ?_
        simp only [r12_1 vm, wr_s (show i < 2000000 by omega)]
        rw [if_neg (by omega)]
        refine h _ ⟨v, rfl, vc, vm, v1, v2, fun q hq => ?_⟩
        have := hv q hq
        rw [if_pos (by omega), if_pos (by omega)] at this
        exact this
    · have nx : Ev none (Cal 3) (cd 217) Q (183, [some (.inr (.inr 12)), none, none, some (.inl (z' : Int)), none, some (.inl ((i + 1 : Nat) : Int)), none, none], [], u) := h _ ⟨u, rfl, uc, um, u1, u2, fun q hq => by
        rw [unS_s, unT_s, if_neg hbit, if_neg hbit]
        exact hu q hq⟩
      refine bk_217_195 ?_
      simp only [wr_s (show i < 2000000 by omega)]
      refine ite_i (fun _ => ?_) (fun _ => nx)
      rw [if_neg (fun g => hbit ((bit_n (by omega) (by omega)).1 g))]
      exact nx
  · obtain ⟨u, rfl, uc, um, u1, u2, hu⟩ := ht
    refine bk_217_183 ?_
    simp only [r12_61 um]
    rw [if_neg (by omega), ← hQ]
    exact ⟨uc, um, u1, u2, fun q hq => ⟨(hu q hq).1, (hu q hq).2.1⟩⟩
end
