/-! votes; elect -/
noncomputable def sdF (τ : Wd) (p i : Nat) : Int := if 0 ≤ τ 145 p ∧ τ 157 i = τ 145 p then τ 165 (τ 145 p).toNat else τ 156 i
/-- person i votes for side s -/
noncomputable def vtB (κ τ : Wd) (z : Nat) (d : Int) (p s i : Nat) : Bool := mayB κ τ i (p : Int) (teF τ z d p) d && decide (sdF τ p i = (s : Int))
noncomputable def vtF (κ τ : Wd) (z : Nat) (d : Int) (p s : Nat) : Int := (cbN (vtB κ τ z d p s) (τ 12 13).toNat : Int)
theorem sdF_b {τ : Wd} (hR : RNG τ) (p i : Nat) : 0 ≤ sdF τ p i ∧ sdF τ p i ≤ 3 := by
  have h1 := hR.M_sideOf (τ 145 p).toNat
  have h2 := hR.M_wish i
  unfold sdF
  split <;> omega
section
variable {w κ τ : Wd}
theorem countVotes_c (hc : pc w = κ) (hm : pm w = τ) (hE : EQ κ τ) (hR : RNG τ) (hX : TXT κ τ) {z p : Nat} {d : Int} (hp : (p : Int) < τ 12 1) (hd : 0 ≤ d ∧ d ≤ 2000) (h18 : w 18 p = ct (teF τ z d p)) : Cal 5 148 [.inr (.inr 11), .inl p, .inl d] w (rV fun u => pc u = κ ∧ pm u = τ ∧ (∀ c, ¬ c = 65 → ¬ c = 142 → u c = w c) ∧ ∀ s, s < 4 → u 142 s = vtF κ τ z d p s) := by
  have hpl := hR.M_places
  have hpp := hR.M_people
  have hpa := hR.M_patronOf p
  obtain ⟨n, hn⟩ : ∃ n : Nat, τ 12 13 = (n : Int) := ⟨(τ 12 13).toNat, by omega⟩
  generalize hQ : (rV fun u => pc u = κ ∧ pm u = τ ∧ (∀ c, ¬ c = 65 → ¬ c = 142 → u c = w c) ∧ ∀ s, s < 4 → u 142 s = vtF κ τ z d p s) = Q
  have key := Ev.inv (sc := none) (C := Cal 4) (cdk := cd 148) (Q := Q) (N := n) (I := fun i t => ∃ v : Wd, t = (32, [some (.inr (.inr 11)), some (.inl (p : Int)), some (.inl d), some (.inl (τ 145 p)), some (.inl (ct (teF τ z d p))), some (.inl (i : Int)), none, none], [], v) ∧ pc v = κ ∧ pm v = τ ∧ (∀ c, ¬ c = 65 → ¬ c = 142 → v c = w c) ∧ ∀ s, s < 4 → v 142 s = (cbN (vtB κ τ z d p s) i : Int)) (fun i hi t ht h => ?_) (fun t ht => ?_) 0 (Nat.zero_le _)
  · refine en_148 ?_
    refine CalVE.to (fill_ok (n := 4) rfl (by omega)) (by decide) ?_
    have fc : pc (fil w 142 0 (4 : Int).toNat) = κ := (fil_msk (fun _ => rfl)).trans hc
    have fm : pm (fil w 142 0 (4 : Int).toNat) = τ := (fil_msk (fun _ => rfl)).trans hm
    have e1 : (fil w 142 0 (4 : Int).toNat) 80 p = τ 145 p := (r80 fc p).trans (hE.Places_patrons p)
    have e2 : (fil w 142 0 (4 : Int).toNat) 18 p = ct (teF τ z d p) := h18
    rw [tn, e1, e2]
    refine ⟨by omega, by omega, key _ ⟨_, rfl, fc, fm, fun c c1 c2 => off_f (fun _ _ => rfl) c c2, fun s hs => ?_⟩⟩
    show (if 142 = 142 ∧ s < (4 : Int).toNat then 0 else w 142 s) = _
    rw [if_pos ⟨rfl, hs⟩]
    rfl
  · obtain ⟨v, rfl, vc, vm, vo, vv⟩ := ht
    refine bk_148_32 ?_
    have e1 : v 3 5 = (n : Int) := ((r3_5 vc).trans hE.People_size).trans hn
    rw [e1, if_pos (by omega), wr_s (show i < 2000000 by omega)]
    refine CalI.to (isVoter_c vc vm hE hR hX (by omega) (by omega)) (by decide) ?_
    rintro _ u ⟨rfl, uc, um, uo⟩
    rw [mayB_ct]
    have hs := fun s => cb_s (vtB κ τ z d p s) i
    have hcb := fun s => cb_b (vtB κ τ z d p s) i
    have u142 : u 142 = v 142 := uo 142 (by decide)
    cases hb : mayB κ τ i (p : Int) (teF τ z d p) d
    · rw [if_pos (show bI false = 0 from rfl)]
      refine h _ ⟨u, rfl, uc, um, fun c c1 c2 => (uo c c1).trans (vo c c1 c2), fun s hs4 => ?_⟩
      have hf : vtB κ τ z d p s i = false := by unfold vtB; rw [hb]; rfl
      rw [hs, hf, if_neg (by decide), u142, vv s hs4]
      rfl
    · rw [if_neg (show ¬ bI true = 0 by decide)]
      have nx : ∀ sd : Int, sd = sdF τ p i → Ev none (Cal 4) (cd 148) Q (32, [some (.inr (.inr 11)), some (.inl (p : Int)), some (.inl d), some (.inl (τ 145 p)), some (.inl (ct (teF τ z d p))), some (.inl ((i + 1 : Nat) : Int)), none, none], [], wst u 142 sd.toNat (wr (u 142 sd.toNat + 1))) := by
        intro sd hsd
        have hsb := sdF_b hR p i
        have e3 : u 142 sd.toNat = (cbN (vtB κ τ z d p sd.toNat) i : Int) := by rw [u142]; exact vv _ (by omega)
        have hcc := hcb sd.toNat
        rw [e3, wr_s (by omega)]
        refine h _ ⟨_, rfl, ?_, ?_, fun c c1 c2 => (off_w (fun _ _ => rfl) c c2).trans ((uo c c1).trans (vo c c1 c2)), fun s hs4 => ?_⟩
        · rw [pc_out rfl]; exact uc
        · rw [pm_out rfl]; exact um
        · rw [wst_ap, hs]
          by_cases g : s = sd.toNat
          · have hf : vtB κ τ z d p s i = true := by
              unfold vtB
              rw [hb, decide_eq_true (show sdF τ p i = (s : Int) by omega)]
              rfl
            rw [if_pos ⟨rfl, g⟩, hf, if_pos rfl, g]
          · have hf : vtB κ τ z d p s i = false := by
              unfold vtB
              rw [hb, decide_eq_false (show ¬ sdF τ p i = (s : Int) by omega)]
              rfl
            rw [if_neg (fun y => g y.2), hf, if_neg (by decide), u142, vv s hs4]
            rfl
      have e56 : u 56 i = τ 156 i := (r56 uc i).trans (hE.People_wishes i)
      have e57 : u 57 i = τ 157 i := (r57 uc i).trans (hE.People_debts i)
      have e82 : u 82 (τ 145 p).toNat = τ 165 (τ 145 p).toNat := (r82 uc _).trans (hE.Places_sides _)
      have hwi := hR.M_wish i
      have hsi := hR.M_sideOf (τ 145 p).toNat
      have hsd : sdF τ p i = if 0 ≤ τ 145 p ∧ τ 157 i = τ 145 p then τ 165 (τ 145 p).toNat else τ 156 i := rfl
      refine CalB isWithin_ok (by decide) (fun g => ?_) (fun g => ?_)
      · rw [if_neg (by decide), tn, e57, e56, e82]
        refine ⟨by omega, ite_i (fun g2 => ?_) (fun g2 => ?_)⟩
        · rw [if_pos ⟨g.1, g2⟩] at hsd
          exact ⟨by omega, by omega, by omega, nx _ hsd.symm⟩
        · rw [if_neg (fun y => g2 y.2)] at hsd
          exact ⟨by omega, by omega, by omega, nx _ hsd.symm⟩
      · rw [if_pos rfl, tn, e56]
        rw [if_neg (fun y => by omega)] at hsd
        exact ⟨by omega, by omega, by omega, nx _ hsd.symm⟩
  · obtain ⟨v, rfl, vc, vm, vo, vv⟩ := ht
    refine bk_148_32 ?_
    have e1 : v 3 5 = (n : Int) := ((r3_5 vc).trans hE.People_size).trans hn
    rw [e1, if_neg (by omega), ← hQ]
    refine ⟨vc, vm, vo, fun s hs => ?_⟩
    rw [vv s hs]
    unfold vtF
    rw [hn, tn]
theorem strongest_c {v : Nat → Int} {x : Nat} (hx : x < 16) (hv : ∀ s, s < 4 → w 142 s = v s) : Cal 1 150 [.inr (.inr 11), .inl x] w (rI fun y u => y = soN v x 4 ∧ u = w) := by
  generalize hQ : (rI fun y u => y = soN v x 4 ∧ u = w) = Q
  have key := Ev.count (sc := none) (C := Cal 0) (cdk := cd 150) (Q := Q) (N := 4) (S := fun i => (8, [some (.inr (.inr 11)), some (.inl (x : Int)), some (.inl (soN v x i)), some (.inl (if soN v x i < 0 then 0 else v (soN v x i).toNat)), some (.inl (i : Int))], [], w)) (fun i hi h => ?_) ?_ 0 (Nat.zero_le _)
  · exact en_150 key
  · refine bk_150_8 ?_
    have hs := so_s v x i
    rw [if_pos (by omega), tn, hv i hi, wr_s (show i < 2000000 by omega)]
    refine ite_i (fun q => ?_) (fun q => ?_)
    · rw [bit_0 (by omega) (by omega)] at q
      refine ⟨by omega, ite_i (fun r => ?_) (fun r => ?_)⟩
      · rw [if_pos ⟨q, r⟩] at hs
        refine ⟨by omega, h.cast ?_⟩
        rw [hs, if_neg (by omega), tn]
      · rw [if_neg (fun y => r y.2)] at hs
        exact h.cast (by rw [hs])
    · rw [bit_0 (by omega) (by omega)] at q
      rw [if_neg (fun y => q y.1)] at hs
      exact h.cast (by rw [hs])
  · refine bk_150_8 ?_
    rw [if_neg (by omega), ← hQ]
    exact ⟨rfl, rfl⟩
theorem sidesIn_c {v : Nat → Int} (hv : ∀ s, s < 4 → w 142 s = v s) {sm : Nat} : Cal 2 149 [.inr (.inr 11), .inl sm] w (rI fun y u => y = (siN v (min sm 4) : Int) ∧ u = w) := by
  generalize hQ : (rI fun y u => y = (siN v (min sm 4) : Int) ∧ u = w) = Q
  have key := Ev.count (sc := none) (C := Cal 1) (cdk := cd 149) (Q := Q) (N := min sm 4) (S := fun i => (4, [some (.inr (.inr 11)), some (.inl (sm : Int)), some (.inl (siN v i : Int)), some (.inl (i : Int)), none], [], w)) (fun i hi h => ?_) ?_ 0 (Nat.zero_le _)
  · exact en_149 key
  · refine bk_149_4 ?_
    have hs := si_s v i
    have h16 := si_16 v i
    have hb := so_b v (siN v i) 4
    rw [if_pos (by omega), if_pos (by omega), wr_s (show i < 2000000 by omega)]
    refine CalE.to (strongest_c h16 hv) (by decide) ?_
    refine ite_i (fun q => ?_) (fun q => ?_)
    · rw [if_pos (by omega)] at hs
      exact h.cast (by rw [hs])
    · rw [if_neg (by omega)] at hs
      obtain ⟨b, hbb⟩ : ∃ b : Nat, soN v (siN v i) 4 = (b : Int) := ⟨(soN v (siN v i) 4).toNat, by omega⟩
      rw [hbb, tn] at hs
      have h2 : 2 ^ b < 2 ^ 4 := Nat.pow_lt_pow_right (by decide) (by omega)
      rw [hbb, ishl_n b (by omega), ior_n (by omega) (by omega)]
      exact h.cast (by rw [hs])
  · refine bk_149_4 ?_
    rw [← hQ]
    refine ite_i (fun q => ?_) (fun q => ⟨rfl, rfl⟩)
    rw [if_neg (by omega)]
    exact ⟨rfl, rfl⟩
theorem isQuarrelled_c {v : Nat → Int} (hv : ∀ s, s < 4 → w 142 s = v s) {m : Nat} : Cal 2 151 [.inr (.inr 11), .inl (siN v m : Int)] w (rI fun y u => ((y = 0 ∧ ¬ quP v m) ∨ (y = 1 ∧ quP v m)) ∧ u = w) := by
  generalize hQ : (rI fun y u => ((y = 0 ∧ ¬ quP v m) ∨ (y = 1 ∧ quP v m)) ∧ u = w) = Q
  have h16 := si_16 v m
  have hb := so_b v (siN v m) 4
  refine en_151 ?_
  refine CalE.to (strongest_c h16 hv) (by decide) ?_
  refine ite_i (fun q => ?_) (fun q => ?_)
  · rw [← hQ]
    exact ⟨by decide, Or.inl ⟨rfl, fun z => by have := z.1; omega⟩, rfl⟩
  · obtain ⟨b, hbb⟩ : ∃ b : Nat, soN v (siN v m) 4 = (b : Int) := ⟨(soN v (siN v m) 4).toNat, by omega⟩
    have key := Ev.inv (sc := none) (C := Cal 1) (cdk := cd 151) (Q := Q) (N := 4) (I := fun i t => t = (16, [some (.inr (.inr 11)), some (.inl (siN v m : Int)), some (.inl (b : Int)), some (.inl (i : Int))], [], w) ∧ ∀ s, s < i → ¬ ((siN v m).testBit s = true ∧ v s = v b)) (fun i hi t ht h => ?_) (fun t ht => ?_) 0 (Nat.zero_le _)
    · rw [hbb]
      exact key _ ⟨rfl, fun s hs => absurd hs (Nat.not_lt_zero s)⟩
    · obtain ⟨rfl, hno⟩ := ht
      refine bk_151_16 ?_
      rw [if_pos (by omega), tn, tn, hv i hi, hv b (by omega), wr_s (show i < 2000000 by omega)]
      have nx : ¬ ((siN v m).testBit i = true ∧ v i = v b) → Ev none (Cal 1) (cd 151) Q (16, [some (.inr (.inr 11)), some (.inl (siN v m : Int)), some (.inl (b : Int)), some (.inl ((i + 1 : Nat) : Int))], [], w) := fun g => h _ ⟨rfl, fun s hs => by
        rcases Nat.lt_or_ge s i with y | y
        · exact hno s y
        · obtain rfl : s = i := by omega
          exact g⟩
      refine ite_i (fun r => ?_) (fun r => ?_)
      · rw [bit_n (by omega) (by omega)] at r
        refine ⟨by omega, by omega, ite_i (fun r2 => ?_) (fun r2 => nx (fun z => r2 z.2))⟩
        rw [← hQ]
        refine ⟨by decide, Or.inr ⟨rfl, by omega, i, hi, r, ?_⟩, rfl⟩
        rw [hbb, tn]
        exact r2
      · rw [bit_n (by omega) (by omega)] at r
        exact nx (fun z => r z.1)
    · obtain ⟨rfl, hno⟩ := ht
      refine bk_151_16 ?_
      rw [if_neg (by omega), ← hQ]
      refine ⟨by decide, Or.inl ⟨rfl, ?_⟩, rfl⟩
      rintro ⟨_, s, hs, h1, h2⟩
      rw [hbb, tn] at h2
      exact hno s hs ⟨h1, h2⟩
/-- the reference finds the votes and the sides -/
theorem findElected_c (hm : pm w = τ) (hR : RNG τ) (hX : TXT κ τ) {a : Int} {z p : Nat} {d : Int} (hz : stF τ a = (z : Int)) (hp : (p : Int) < τ 12 1) (hd : 0 ≤ d ∧ d ≤ 2000) {K : Wd → Prop} (hK : ∀ u, pc u = pc w → pm u = τ → (∀ s, s < 4 → u 204 s = vtF κ τ z d p s) → u 12 84 = (siN (vtF κ τ z d p) (min (seF τ z d p).toNat 4) : Int) → (u 12 85 = 0 ∧ ¬ quR (vtF κ τ z d p) (min (seF τ z d p).toNat 4) ∨ u 12 85 = 1 ∧ quR (vtF κ τ z d p) (min (seF τ z d p).toNat 4)) → K u) : Cal 7 243 [.inr (.inr 12), .inl a, .inl p, .inl d] w (rV K) := by
  have hpl := hR.M_places
  have hpp := hR.M_people
  have hpa := hR.M_patronOf p
  have hse := se_b hR z d p
  have hte := te_b hR z d p
  obtain ⟨n, hn⟩ : ∃ n : Nat, τ 12 13 = (n : Int) := ⟨(τ 12 13).toNat, by omega⟩
  obtain ⟨sm, hsm⟩ : ∃ sm : Nat, seF τ z d p = (sm : Int) := ⟨(seF τ z d p).toNat, by omega⟩
  rw [hsm, tn] at hK
  have hvt : ∀ s, vtF κ τ z d p s = (cbN (vtB κ τ z d p s) n : Int) := fun s => by unfold vtF; rw [hn, tn]
  have sides : ∀ v : Wd, pc v = pc w → pm v = τ → v 187 p = (sm : Int) → (∀ s, s < 4 → v 204 s = vtF κ τ z d p s) → Ev none (Cal 6) (cd 243) (rV K) (147, [some (.inr (.inr 12)), none, some (.inl (p : Int)), none, some (.inl (-1)), some (.inl 0), none, none, none], [], wst (wst v 12 84 0) 12 85 0) := by
    intro v vc vm v187 v204
    generalize hvf : vtF κ τ z d p = vf at hK v204
    have key := Ev.inv (sc := none) (C := Cal 6) (cdk := cd 243) (Q := rV K) (N := 4) (I := fun i t => ∃ u : Wd, t = (147, [some (.inr (.inr 12)), none, some (.inl (p : Int)), none, some (.inl (laN vf (min i (min sm 4)))), some (.inl (i : Int)), none, none, none], [], u) ∧ pc u = pc w ∧ pm u = τ ∧ u 187 p = (sm : Int) ∧ (∀ s, s < 4 → u 204 s = vf s) ∧ u 12 84 = (siN vf (min i (min sm 4)) : Int) ∧ (u 12 85 = 0 ∧ ¬ (min sm 4 < i ∧ quR vf (min sm 4)) ∨ u 12 85 = 1 ∧ (min sm 4 < i ∧ quR vf (min sm 4)))) (fun i hi t ht h => ?_) (fun t ht => ?_) 0 (Nat.zero_le _)
    · refine key _ ⟨wst (wst v 12 84 0) 12 85 0, ?_, ?_, ?_, v187, v204, ?_, ?_⟩
      · rw [Nat.zero_min]
        rfl
      · rw [pc_out rfl, pc_out rfl]; exact vc
      · rw [pm_out rfl, pm_out rfl]; exact vm
      · rw [Nat.zero_min]
        rfl
      · exact Or.inl ⟨rfl, fun y => absurd y.1 (Nat.not_lt_zero _)⟩
    · obtain ⟨u, rfl, uc, um, u187, u204, u84, u85⟩ := ht
      refine bk_243_147 ?_
      rw [if_pos (by omega)]
      have h16 := si_16 vf (min i (min sm 4))
      have key2 := Ev.count (sc := none) (C := Cal 6) (cdk := cd 243) (Q := rV K) (N := 4) (S := fun j => (159, [some (.inr (.inr 12)), none, some (.inl (p : Int)), none, some (.inl (laN vf (min i (min sm 4)))), some (.inl (i : Int)), some (.inl (if soN vf (siN vf (min i (min sm 4))) j < 0 then -1 else soN vf (siN vf (min i (min sm 4))) j)), some (.inl (j : Int)), none], [], u)) (fun j hj h2 => ?_) ?_ 0 (Nat.zero_le _)
      · exact key2
      · refine bk_243_159 ?_
        have hs := so_s vf (siN vf (min i (min sm 4))) j
        have hb := so_b vf (siN vf (min i (min sm 4))) j
        rw [if_pos (by omega), u84, tn, u204 j hj, wr_s (show j < 2000000 by omega)]
        refine ite_i (fun q => ?_) (fun q => ?_)
        · rw [bit_0 (by omega) (by omega)] at q
          refine ⟨by omega, ite_i (fun r => ?_) (fun r => ?_)⟩
          · refine ite_i (fun y => ?_) (fun y => ?_)
            · have y2 : soN vf (siN vf (min i (min sm 4))) j < 0 := by
                by_cases y2 : soN vf (siN vf (min i (min sm 4))) j < 0
                · exact y2
                · rw [if_neg y2] at y
                  exact absurd y y2
              rw [if_pos y2, if_pos ⟨q, r⟩] at hs
              refine h2.cast ?_
              rw [hs, if_neg (by omega)]
            · have y2 : ¬ soN vf (siN vf (min i (min sm 4))) j < 0 := by
                intro y2
                rw [if_pos y2] at y
                exact y (by decide)
              rw [if_neg y2] at hs
              rw [if_neg y2]
              rw [u204 _ (by omega)]
              refine ⟨by omega, by omega, ite_i (fun g => ?_) (fun g => ?_)⟩
              · rw [if_pos ⟨q, g⟩] at hs
                refine h2.cast ?_
                rw [hs, if_neg (by omega)]
              · rw [if_neg (fun k => g k.2)] at hs
                refine h2.cast ?_
                rw [hs, if_neg y2]
          · have : ¬ ((siN vf (min i (min sm 4))).testBit j = false ∧ (if soN vf (siN vf (min i (min sm 4))) j < 0 then 0 else vf (soN vf (siN vf (min i (min sm 4))) j).toNat) < vf j) := by
              rintro ⟨_, k⟩
              by_cases y2 : soN vf (siN vf (min i (min sm 4))) j < 0
              · rw [if_pos y2] at k
                exact r k
              · rw [if_neg y2] at k
                omega
            rw [if_neg this] at hs
            exact h2.cast (by rw [hs])
        · rw [bit_0 (by omega) (by omega)] at q
          rw [if_neg (fun k => q k.1)] at hs
          exact h2.cast (by rw [hs])
      · refine bk_243_159 ?_
        have hb := so_b vf (siN vf (min i (min sm 4))) 4
        rw [if_neg (by omega), wr_s (show i < 2000000 by omega)]
        by_cases him : i < min sm 4
        · have e1 : min i (min sm 4) = i := by omega
          have e2 : min (i + 1) (min sm 4) = i + 1 := by omega
          rw [e1] at hb u84 ⊢
          have ss := si_s vf i
          have ls := la_s vf i
          have hq0 : u 12 85 = 0 := by
            rcases u85 with ⟨g, _⟩ | ⟨_, g, _⟩
            · exact g
            · omega
          have stay : soN vf (siN vf i) 4 < 0 → Ev none (Cal 6) (cd 243) (rV K) (147, [some (.inr (.inr 12)), none, some (.inl (p : Int)), none, some (.inl (laN vf i)), some (.inl ((i + 1 : Nat) : Int)), none, none, none], [], u) := by
            intro g
            rw [if_pos g] at ss ls
            refine h _ ⟨u, ?_, uc, um, u187, u204, ?_, Or.inl ⟨hq0, fun y => by omega⟩⟩
            · rw [e2, ls]
            · rw [e2, ss]; exact u84
          by_cases g : soN vf (siN vf i) 4 < 0
          · rw [if_pos g, if_pos (show (-1 : Int) < 0 by decide), if_pos (show (-1 : Int) < 0 by decide)]
            exact stay g
          · rw [if_neg g, if_neg g, tn, u187, if_pos (by omega)]
            refine ⟨by omega, ?_⟩
            rw [if_neg g] at ss ls
            obtain ⟨b, hbb⟩ : ∃ b : Nat, soN vf (siN vf i) 4 = (b : Int) := ⟨(soN vf (siN vf i) 4).toNat, by omega⟩
            have h2 : 2 ^ b < 2 ^ 4 := Nat.pow_lt_pow_right (by decide) (by omega)
            have h16' := si_16 vf i
            rw [hbb, tn] at ss
            rw [hbb] at ls
            rw [hbb, u84, ishl_n b (by omega), ior_n (by omega) (by omega)]
            refine h _ ⟨wst u 12 84 ((siN vf i ||| 2 ^ b : Nat) : Int), ?_, ?_, ?_, u187, u204, ?_, Or.inl ⟨hq0, fun y => by omega⟩⟩
            · rw [e2, ls]
            · rw [pc_out rfl]; exact uc
            · rw [pm_out rfl]; exact um
            · rw [e2, ss]
              rfl
        · have e1 : min i (min sm 4) = min sm 4 := by omega
          have e2 : min (i + 1) (min sm 4) = min sm 4 := by omega
          rw [e1] at hb u84 ⊢
          have key3 : ∀ i', 0 ≤ laN vf i' → laN vf i' < 4 := by
            intro i'
            induction i' with
            | zero => intro y; exact absurd y (by show ¬ (0 : Int) ≤ -1; decide)
            | succ i' ih =>
              intro y
              have hb' := so_b vf (siN vf i') 4
              rw [la_s] at y ⊢
              split at y
              · rename_i q
                rw [if_pos q]
                exact ih y
              · rename_i q
                rw [if_neg q]
                omega
          have hla := key3 (min sm 4)
          have nq : ∀ u' : Wd, pc u' = pc w → pm u' = τ → u' 187 p = (sm : Int) → (∀ s, s < 4 → u' 204 s = vf s) → u' 12 84 = (siN vf (min sm 4) : Int) → (u' 12 85 = 0 ∧ ¬ quR vf (min sm 4) ∨ u' 12 85 = 1 ∧ quR vf (min sm 4)) → Ev none (Cal 6) (cd 243) (rV K) (147, [some (.inr (.inr 12)), none, some (.inl (p : Int)), none, some (.inl (laN vf (min sm 4))), some (.inl ((i + 1 : Nat) : Int)), none, none, none], [], u') := by
            intro u' g1 g2 g3 g4 g5 g6
            refine h _ ⟨u', by rw [e2], g1, g2, g3, g4, by rw [e2]; exact g5, ?_⟩
            rcases g6 with ⟨g6, g7⟩ | ⟨g6, g7⟩
            · exact Or.inl ⟨g6, fun y => g7 y.2⟩
            · exact Or.inr ⟨g6, by omega, g7⟩
          have same : ¬ quR vf (min sm 4) → Ev none (Cal 6) (cd 243) (rV K) (147, [some (.inr (.inr 12)), none, some (.inl (p : Int)), none, some (.inl (laN vf (min sm 4))), some (.inl ((i + 1 : Nat) : Int)), none, none, none], [], u) := by
            intro g
            refine nq u uc um u187 u204 u84 (Or.inl ⟨?_, g⟩)
            rcases u85 with ⟨y, _⟩ | ⟨_, _, y⟩
            · exact y
            · exact absurd y g
          by_cases g : soN vf (siN vf (min sm 4)) 4 < 0
          · rw [if_pos g, if_pos (show (-1 : Int) < 0 by decide), if_pos (show (-1 : Int) < 0 by decide)]
            exact same (fun y => by have := y.2.1; omega)
          · rw [if_neg g, if_neg g, tn, u187, if_neg (by omega), if_neg g]
            refine ⟨by omega, ite_i (fun l => same (fun y => by have := y.2.2.1; omega)) (fun l => ?_)⟩
            have hw1 : ∀ y : Int, (y = 0 ∧ ¬ quR vf (min sm 4) ∨ y = 1 ∧ quR vf (min sm 4)) → Ev none (Cal 6) (cd 243) (rV K) (147, [some (.inr (.inr 12)), none, some (.inl (p : Int)), none, some (.inl (laN vf (min sm 4))), some (.inl ((i + 1 : Nat) : Int)), none, none, none], [], wst u 12 85 y) := by
              intro y hy
              refine nq _ ?_ ?_ u187 u204 u84 hy
              · rw [pc_out rfl]; exact uc
              · rw [pm_out rfl]; exact um
            refine ite_i (fun k => ?_) (fun k => ?_)
            · rw [u204 _ (by omega), u204 _ (by omega)]
              refine ⟨by omega, by omega, ite_i (fun y => ?_) (fun y => ?_)⟩
              · exact ⟨by decide, hw1 1 (Or.inr ⟨rfl, by omega, by omega, by omega, y⟩)⟩
              · exact ⟨by decide, hw1 0 (Or.inl ⟨rfl, fun q => y q.2.2.2⟩)⟩
            · refine ⟨by decide, hw1 1 (Or.inr ⟨rfl, ?_⟩)⟩
              rcases u85 with ⟨y, _⟩ | ⟨_, _, y⟩
              · exact absurd y k
              · exact y
    · obtain ⟨u, rfl, uc, um, u187, u204, u84, u85⟩ := ht
      refine bk_243_147 ?_
      rw [if_neg (by omega)]
      have e1 : min 4 (min sm 4) = min sm 4 := by omega
      rw [e1] at u84
      refine hK u uc um u204 u84 ?_
      rcases u85 with ⟨y, y2⟩ | ⟨y, _, y2⟩
      · refine Or.inl ⟨y, fun q => ?_⟩
        have := q.1
        exact y2 ⟨by omega, q⟩
      · exact Or.inr ⟨y, y2⟩
  have votes : ∀ v : Wd, pc v = pc w → pm v = τ → v 187 p = (sm : Int) → v 188 p = teF τ z d p → (∀ s, s < 4 → v 204 s = 0) → Ev none (Cal 6) (cd 243) (rV K) (32, [some (.inr (.inr 12)), none, some (.inl (p : Int)), some (.inl d), some (.inl 0), none, none, none, none], [], v) := by
    intro v vc vm v187 v188 v204
    have key := Ev.inv (sc := none) (C := Cal 6) (cdk := cd 243) (Q := rV K) (N := n) (I := fun i t => ∃ u : Wd, t = (32, [some (.inr (.inr 12)), none, some (.inl (p : Int)), some (.inl d), some (.inl (i : Int)), none, none, none, none], [], u) ∧ pc u = pc w ∧ pm u = τ ∧ u 187 p = (sm : Int) ∧ u 188 p = teF τ z d p ∧ ∀ s, s < 4 → u 204 s = (cbN (vtB κ τ z d p s) i : Int)) (fun i hi t ht h => ?_) (fun t ht => ?_) 0 (Nat.zero_le _)
    · exact key _ ⟨v, rfl, vc, vm, v187, v188, fun s hs => v204 s hs⟩
    · obtain ⟨u, rfl, uc, um, u187, u188, u204⟩ := ht
      refine bk_243_32 ?_
      simp only [r12_13 um, hn, tn, u188, wr_s (show i < 2000000 by omega)]
      rw [if_pos (by omega)]
      refine ⟨by omega, ?_⟩
      refine CalI.to (mayBy_c um hR hX (by omega) hte.2 (by omega)) (by decide) ?_
      rintro _ x ⟨rfl, xc, xm, xo⟩
      have hs := fun s => cb_s (vtB κ τ z d p s) i
      have hcb := fun s => cb_b (vtB κ τ z d p s) i
      have x187 : x 187 = u 187 := xo 187 (by decide) (by decide) (by decide) (by decide)
      have x188 : x 188 = u 188 := xo 188 (by decide) (by decide) (by decide) (by decide)
      have x204 : x 204 = u 204 := xo 204 (by decide) (by decide) (by decide) (by decide)
      cases hb : mayB κ τ i (p : Int) (teF τ z d p) d
      · rw [if_pos (show bI false = 0 from rfl)]
        refine h _ ⟨x, rfl, xc.trans uc, xm, by rw [x187]; exact u187, by rw [x188]; exact u188, fun s hs4 => ?_⟩
        have hf : vtB κ τ z d p s i = false := by unfold vtB; rw [hb]; rfl
        rw [hs, hf, if_neg (by decide), x204, u204 s hs4]
        rfl
      · rw [if_neg (show ¬ bI true = 0 by decide)]
        have nx : ∀ sd : Int, sd = sdF τ p i → Ev none (Cal 6) (cd 243) (rV K) (32, [some (.inr (.inr 12)), none, some (.inl (p : Int)), some (.inl d), some (.inl ((i + 1 : Nat) : Int)), none, none, none, none], [], wst x 204 sd.toNat (wr (x 204 sd.toNat + 1))) := by
          intro sd hsd
          have hsb := sdF_b hR p i
          have e3 : x 204 sd.toNat = (cbN (vtB κ τ z d p sd.toNat) i : Int) := by rw [x204]; exact u204 _ (by omega)
          have hcc := hcb sd.toNat
          rw [e3, wr_s (by omega)]
          refine h _ ⟨_, rfl, ?_, ?_, ?_, ?_, fun s hs4 => ?_⟩
          · rw [pc_out rfl]; exact xc.trans uc
          · rw [pm_out rfl]; exact xm
          · show x 187 p = _
            rw [x187]; exact u187
          · show x 188 p = _
            rw [x188]; exact u188
          · rw [wst_ap, hs]
            by_cases g : s = sd.toNat
            · have hf : vtB κ τ z d p s i = true := by
                unfold vtB
                rw [hb, decide_eq_true (show sdF τ p i = (s : Int) by omega)]
                rfl
              rw [if_pos ⟨rfl, g⟩, hf, if_pos rfl, g]
            · have hf : vtB κ τ z d p s i = false := by
                unfold vtB
                rw [hb, decide_eq_false (show ¬ sdF τ p i = (s : Int) by omega)]
                rfl
              rw [if_neg (fun y => g y.2), hf, if_neg (by decide), x204, u204 s hs4]
              rfl
        have hwi := hR.M_wish i
        have hsi := hR.M_sideOf (τ 145 p).toNat
        have hsd : sdF τ p i = if 0 ≤ τ 145 p ∧ τ 157 i = τ 145 p then τ 165 (τ 145 p).toNat else τ 156 i := rfl
        simp only [r145 xm, r156 xm, r157 xm, r165 xm]
        refine ⟨by omega, ite_i (fun g => ?_) (fun g => ?_)⟩
        · rw [if_neg (fun y => by omega)] at hsd
          exact ⟨by omega, by omega, by omega, nx _ hsd.symm⟩
        · refine ⟨by omega, by omega, ite_i (fun g2 => ?_) (fun g2 => ?_)⟩
          · rw [if_pos ⟨by omega, g2⟩] at hsd
            exact ⟨by omega, by omega, by omega, by omega, nx _ hsd.symm⟩
          · rw [if_neg (fun y => g2 y.2)] at hsd
            exact ⟨by omega, by omega, by omega, nx _ hsd.symm⟩
    · obtain ⟨u, rfl, uc, um, u187, u188, u204⟩ := ht
      refine bk_243_32 ?_
      simp only [r12_13 um, hn]
      rw [if_neg (by omega)]
      exact ⟨by decide, sides u uc um u187 (fun s hs => by rw [hvt]; exact u204 s hs)⟩
  refine en_243 ?_
  refine CalV.to (findUnder_ok hm hR hz) (by decide) ?_
  rintro v ⟨vc, vm, _, _, hv⟩
  have hvp := hv p hp
  have key := Ev.inv (sc := none) (C := Cal 6) (cdk := cd 243) (Q := rV K) (N := 4) (I := fun i t => ∃ u : Wd, t = (9, [some (.inr (.inr 12)), none, some (.inl (p : Int)), some (.inl d), some (.inl (i : Int)), none, none, none, none], [], u) ∧ pc u = pc w ∧ pm u = τ ∧ u 187 p = (sm : Int) ∧ u 188 p = teF τ z d p ∧ ∀ s, s < i → u 204 s = 0) (fun i hi t ht h => ?_) (fun t ht => ?_) 0 (Nat.zero_le _)
  · exact key _ ⟨v, rfl, vc, vm, hvp.1.trans hsm, hvp.2, fun s hs => absurd hs (Nat.not_lt_zero s)⟩
  · obtain ⟨u, rfl, uc, um, u187, u188, u204⟩ := ht
    refine bk_243_9 ?_
    rw [if_pos (by omega), tn, wr_s (show i < 2000000 by omega)]
    refine ⟨by omega, h _ ⟨_, rfl, ?_, ?_, u187, u188, fun s hs => ?_⟩⟩
    · rw [pc_out rfl]; exact uc
    · rw [pm_out rfl]; exact um
    · rw [wst_ap]
      by_cases g : s = i
      · rw [if_pos ⟨rfl, g⟩]
      · rw [if_neg (fun y => g y.2)]
        exact u204 s (by omega)
  · obtain ⟨u, rfl, uc, um, u187, u188, u204⟩ := ht
    refine bk_243_9 ?_
    rw [if_neg (by omega)]
    exact votes u uc um u187 u188 u204
theorem both_elect (hO : OKW TXT w) {a b c e : Int} (ha : in32 a) : Cal 12 147 [.inr (.inr 11), .inl a, .inl b, .inl c, .inl e] w (rI fun x u => Cal 12 242 [.inr (.inr 12), .inl a, .inl b, .inl c, .inl e] u (rI fun y v => x = y ∧ OKW TXT v)) := by
  have hT := TXT_fr
  obtain ⟨κ, hc⟩ : ∃ κ, pc w = κ := ⟨_, rfl⟩
  obtain ⟨τ, hm⟩ : ∃ τ, pm w = τ := ⟨_, rfl⟩
  unfold OKW at hO
  rw [hc, hm] at hO
  obtain ⟨hE, hR, ht⟩ := id hO
  unfold in32 at ha
  have hpl := hR.M_places
  refine en_147 ?_
  refine CalB (hasOthers_g hc hE hR (x := a) (by omega)) (by decide) (fun q => ?_) (fun q => ?_)
  · rw [if_neg (by decide)]
    refine CalI.to (refuse_ok hc hm (by omega)) (by decide) ?_; rintro _ u ⟨rfl, uc, um⟩;
    refine en_242 ?_
    refine CalF (isSet_ok um hR) (by decide) q ?_
    rw [if_pos rfl]
    exact CalK (fin_rf hT hO uc um (by omega) rfl) (by decide)
  · rw [if_pos rfl]
    have q' := Decidable.not_not.1 q
    refine CalB (placesHas_ok hc hE) (by decide) (fun r => ?_) (fun r => ?_)
    · rw [if_neg (by decide)]
      refine CalB isWithin_ok (by decide) (fun s => ?_) (fun s => ?_)
      · rw [if_neg (by decide)]
        refine refuseDays_br hc hm (fun t => ?_) (fun g u hg uc um => ?_)
        · rw [if_pos rfl]
          obtain ⟨z, h1, _⟩ := stF_n hR a
          obtain ⟨p, rfl⟩ : ∃ p : Nat, b = (p : Int) := ⟨b.toNat, by omega⟩
          have hse := se_b hR z c p
          obtain ⟨sm, hsm⟩ : ∃ sm : Nat, seF τ z c p = (sm : Int) := ⟨(seF τ z c p).toNat, by omega⟩
          refine CalV.to (applyBill_ok hc hm hE hR h1) (by decide) ?_
          rintro u ⟨uc, um, _, hu⟩
          have hup := hu p r.2
          refine CalV.to (countVotes_c uc um hE hR ht r.2 (by omega) hup.2) (by decide) ?_
          rintro v ⟨vc, vm, vo, vv⟩
          have v17 : v 17 p = (sm : Int) := by rw [vo 17 (by decide) (by decide)]; exact hup.1.trans hsm
          have fin : ∀ (x : Int) (u : Wd), pc u = κ → pm u = τ → (∀ u' : Wd, (∀ s, s < 4 → u' 204 s = vtF κ τ z c p s) → u' 12 84 = (siN (vtF κ τ z c p) (min sm 4) : Int) → (u' 12 85 = 0 ∧ ¬ quR (vtF κ τ z c p) (min sm 4) ∨ u' 12 85 = 1 ∧ quR (vtF κ τ z c p) (min sm 4)) → (e < 4 → x = u' 204 e.toNat) ∧ (e = 4 → x = u' 12 84) ∧ (e = 5 → (u' 12 85 = 0 → x = 0) ∧ (¬ u' 12 85 = 0 → x = 1))) → Cal 12 242 [.inr (.inr 12), .inl a, .inl (p : Int), .inl c, .inl e] u (rI fun y v => x = y ∧ OKW TXT v) := by
            intro x u uc um hx
            refine en_242 ?_
            refine CalT (isSet_ok um hR) (by decide) q' ?_
            rw [if_neg (by decide)]
            repeat' (first | (rw [if_pos (by omega)]) | (rw [if_neg (by omega)]) | (refine And.intro (by first | omega | exact Or.inl trivial | exact Or.inr trivial | exact ⟨trivial, trivial⟩ | fail) ?_) | (refine CalT in_ok (by decide) (by omega) ?_) | (refine CalF in_ok (by decide) (by omega) ?_) | (refine CalT (isPlace_ok um hR) (by decide) (by omega) ?_) | (refine CalF (isPlace_ok um hR) (by decide) (by omega) ?_) | (refine CalT (isPerson_ok um hR) (by decide) (by omega) ?_) | (refine CalF (isPerson_ok um hR) (by decide) (by omega) ?_) | (refine CalT (isText_ok um hR) (by decide) (by omega) ?_) | (refine CalF (isText_ok um hR) (by decide) (by omega) ?_) | (refine CalT (isPetitionAt_ok um hR) (by decide) (by omega) ?_) | (refine CalF (isPetitionAt_ok um hR) (by decide) (by omega) ?_) | (refine CalT (isLine_ok um hR) (by decide) (by omega) ?_) | (refine CalF (isLine_ok um hR) (by decide) (by omega) ?_) | (refine CalT mIsKnot_ok (by decide) (by omega) ?_) | (refine CalF mIsKnot_ok (by decide) (by omega) ?_) | (refine CalT mIsNight_ok (by decide) (by omega) ?_) | (refine CalF mIsNight_ok (by decide) (by omega) ?_) | (refine bk_175_75 ?_) | (refine CalE.to bounds_ok (by decide) ?_) | (refine CalE.to wrongDays_ok (by decide) ?_) | (exact CalK (fin_rf hT hO uc um (by omega) (by omega)) (by decide)) | (exact CalK (fin_rfF hT hO uc um (by omega) (by omega)) (by decide)) | fail);
            refine CalK (findElected_c um hR ht h1 r.2 (by omega) (fun y yc ym y204 y84 y85 => ?_)) (by decide)
            rw [hsm, tn] at y84 y85
            have hxx := hx y y204 y84 y85
            have hk := OKW.of hO (yc.trans uc) ym
            refine ite_i (fun g => ⟨by omega, hxx.1 g, hk⟩) (fun g => ite_i (fun g2 => ⟨hxx.2.1 g2, hk⟩) (fun g2 => ?_))
            exact ite_i (fun k => ⟨(hxx.2.2 (by omega)).1 k, hk⟩) (fun k => ⟨(hxx.2.2 (by omega)).2 k, hk⟩)
          refine ite_i (fun g => ?_) (fun g => ?_)
          · refine ⟨by omega, fin _ v vc vm (fun u' y1 _ _ => ⟨fun _ => ?_, fun y => by omega, fun y => by omega⟩)⟩
            rw [vv _ (by omega), y1 _ (by omega)]
          · rw [tn, v17]
            refine ⟨by omega, ?_⟩
            refine CalE.to (sidesIn_c vv) (by decide) ?_
            refine ite_i (fun g2 => ?_) (fun g2 => ?_)
            · exact fin _ v vc vm (fun u' _ y2 _ => ⟨fun y => by omega, fun _ => y2.symm, fun y => by omega⟩)
            · refine CalI.to (isQuarrelled_c vv) (by decide) ?_
              rintro y x ⟨hy, rfl⟩
              have hq := qu_eq (vtF κ τ z c p) (min sm 4) (by omega)
              rcases hy with ⟨rfl, hy⟩ | ⟨rfl, hy⟩
              · rw [if_pos rfl]
                refine fin _ x vc vm (fun u' _ _ y3 => ⟨fun y => by omega, fun y => by omega, fun _ => ⟨fun _ => rfl, fun y => ?_⟩⟩)
                rcases y3 with ⟨y3, _⟩ | ⟨_, y3⟩
                · exact absurd y3 y
                · exact absurd (hq.2 y3) hy
              · rw [if_neg (by decide)]
                refine fin _ x vc vm (fun u' _ _ y3 => ⟨fun y => by omega, fun y => by omega, fun _ => ⟨fun y => ?_, fun _ => rfl⟩⟩)
                rcases y3 with ⟨_, y3⟩ | ⟨y3, _⟩
                · exact absurd (hq.1 hy) y3
                · omega
        · rw [if_neg (by omega)]
          (obtain ⟨rfl, hg⟩ | ⟨rfl, hg⟩ := hg);
          all_goals (
            refine en_242 ?_
            refine CalT (isSet_ok um hR) (by decide) q' ?_
            rw [if_neg (by decide)]
            repeat' (first | (rw [if_pos (by omega)]) | (rw [if_neg (by omega)]) | (refine And.intro (by first | omega | exact Or.inl trivial | exact Or.inr trivial | exact ⟨trivial, trivial⟩ | fail) ?_) | (refine CalT in_ok (by decide) (by omega) ?_) | (refine CalF in_ok (by decide) (by omega) ?_) | (refine CalT (isPlace_ok um hR) (by decide) (by omega) ?_) | (refine CalF (isPlace_ok um hR) (by decide) (by omega) ?_) | (refine CalT (isPerson_ok um hR) (by decide) (by omega) ?_) | (refine CalF (isPerson_ok um hR) (by decide) (by omega) ?_) | (refine CalT (isText_ok um hR) (by decide) (by omega) ?_) | (refine CalF (isText_ok um hR) (by decide) (by omega) ?_) | (refine CalT (isPetitionAt_ok um hR) (by decide) (by omega) ?_) | (refine CalF (isPetitionAt_ok um hR) (by decide) (by omega) ?_) | (refine CalT (isLine_ok um hR) (by decide) (by omega) ?_) | (refine CalF (isLine_ok um hR) (by decide) (by omega) ?_) | (refine CalT mIsKnot_ok (by decide) (by omega) ?_) | (refine CalF mIsKnot_ok (by decide) (by omega) ?_) | (refine CalT mIsNight_ok (by decide) (by omega) ?_) | (refine CalF mIsNight_ok (by decide) (by omega) ?_) | (refine bk_175_75 ?_) | (refine CalE.to bounds_ok (by decide) ?_) | (refine CalE.to wrongDays_ok (by decide) ?_) | (exact CalK (fin_rf hT hO uc um (by omega) (by omega)) (by decide)) | (exact CalK (fin_rfF hT hO uc um (by omega) (by omega)) (by decide)) | fail);;)
      · rw [if_pos rfl]
        refine CalI.to (refuse_ok hc hm (by omega)) (by decide) ?_; rintro _ u ⟨rfl, uc, um⟩;
        refine en_242 ?_
        refine CalT (isSet_ok um hR) (by decide) q' ?_
        rw [if_neg (by decide)]
        repeat' (first | (rw [if_pos (by omega)]) | (rw [if_neg (by omega)]) | (refine And.intro (by first | omega | exact Or.inl trivial | exact Or.inr trivial | exact ⟨trivial, trivial⟩ | fail) ?_) | (refine CalT in_ok (by decide) (by omega) ?_) | (refine CalF in_ok (by decide) (by omega) ?_) | (refine CalT (isPlace_ok um hR) (by decide) (by omega) ?_) | (refine CalF (isPlace_ok um hR) (by decide) (by omega) ?_) | (refine CalT (isPerson_ok um hR) (by decide) (by omega) ?_) | (refine CalF (isPerson_ok um hR) (by decide) (by omega) ?_) | (refine CalT (isText_ok um hR) (by decide) (by omega) ?_) | (refine CalF (isText_ok um hR) (by decide) (by omega) ?_) | (refine CalT (isPetitionAt_ok um hR) (by decide) (by omega) ?_) | (refine CalF (isPetitionAt_ok um hR) (by decide) (by omega) ?_) | (refine CalT (isLine_ok um hR) (by decide) (by omega) ?_) | (refine CalF (isLine_ok um hR) (by decide) (by omega) ?_) | (refine CalT mIsKnot_ok (by decide) (by omega) ?_) | (refine CalF mIsKnot_ok (by decide) (by omega) ?_) | (refine CalT mIsNight_ok (by decide) (by omega) ?_) | (refine CalF mIsNight_ok (by decide) (by omega) ?_) | (refine bk_175_75 ?_) | (refine CalE.to bounds_ok (by decide) ?_) | (refine CalE.to wrongDays_ok (by decide) ?_) | (exact CalK (fin_rf hT hO uc um (by omega) (by omega)) (by decide)) | (exact CalK (fin_rfF hT hO uc um (by omega) (by omega)) (by decide)) | fail);
    · rw [if_pos rfl]
      refine CalI.to (refuse_ok hc hm (by omega)) (by decide) ?_; rintro _ u ⟨rfl, uc, um⟩;
      refine en_242 ?_
      refine CalT (isSet_ok um hR) (by decide) q' ?_
      rw [if_neg (by decide)]
      repeat' (first | (rw [if_pos (by omega)]) | (rw [if_neg (by omega)]) | (refine And.intro (by first | omega | exact Or.inl trivial | exact Or.inr trivial | exact ⟨trivial, trivial⟩ | fail) ?_) | (refine CalT in_ok (by decide) (by omega) ?_) | (refine CalF in_ok (by decide) (by omega) ?_) | (refine CalT (isPlace_ok um hR) (by decide) (by omega) ?_) | (refine CalF (isPlace_ok um hR) (by decide) (by omega) ?_) | (refine CalT (isPerson_ok um hR) (by decide) (by omega) ?_) | (refine CalF (isPerson_ok um hR) (by decide) (by omega) ?_) | (refine CalT (isText_ok um hR) (by decide) (by omega) ?_) | (refine CalF (isText_ok um hR) (by decide) (by omega) ?_) | (refine CalT (isPetitionAt_ok um hR) (by decide) (by omega) ?_) | (refine CalF (isPetitionAt_ok um hR) (by decide) (by omega) ?_) | (refine CalT (isLine_ok um hR) (by decide) (by omega) ?_) | (refine CalF (isLine_ok um hR) (by decide) (by omega) ?_) | (refine CalT mIsKnot_ok (by decide) (by omega) ?_) | (refine CalF mIsKnot_ok (by decide) (by omega) ?_) | (refine CalT mIsNight_ok (by decide) (by omega) ?_) | (refine CalF mIsNight_ok (by decide) (by omega) ?_) | (refine bk_175_75 ?_) | (refine CalE.to bounds_ok (by decide) ?_) | (refine CalE.to wrongDays_ok (by decide) ?_) | (exact CalK (fin_rf hT hO uc um (by omega) (by omega)) (by decide)) | (exact CalK (fin_rfF hT hO uc um (by omega) (by omega)) (by decide)) | fail);
end
