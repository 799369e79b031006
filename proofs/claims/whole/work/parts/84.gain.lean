/-! who votes somewhere; gain -/
def exN (P : Nat → Bool) : Nat → Bool
  | 0 => false
  | n + 1 => exN P n || P n
theorem ex_s (P : Nat → Bool) (n : Nat) : exN P (n + 1) = (exN P n || P n) := rfl
theorem ex_m {P : Nat → Bool} {i n : Nat} (h : exN P i = true) (hn : i ≤ n) : exN P n = true := by
  induction hn with
  | refl => exact h
  | step _ ih => rw [ex_s, ih]; rfl
def nP (τ : Wd) : Nat := (τ 12 1).toNat
noncomputable def vpB (κ τ : Wd) (z : Nat) (d : Int) (who q : Nat) : Bool := mayB κ τ who (q : Int) (teF τ z d q) d
noncomputable def vsB (κ τ : Wd) (z : Nat) (d : Int) (who : Nat) : Bool := exN (vpB κ τ z d who) (nP τ)
noncomputable def gsN (τ : Wd) (z1 z2 : Nat) (d g : Int) : Nat → Int
  | 0 => 0
  | n + 1 => gsN τ z1 z2 d g n + max 0 (if g = 0 then seF τ z1 d n - seF τ z2 d n else seF τ z2 d n - seF τ z1 d n)
theorem gs_s (τ : Wd) (z1 z2 : Nat) (d g : Int) (n : Nat) : gsN τ z1 z2 d g (n + 1) = gsN τ z1 z2 d g n + max 0 (if g = 0 then seF τ z1 d n - seF τ z2 d n else seF τ z2 d n - seF τ z1 d n) := rfl
theorem se_b {τ : Wd} (hR : RNG τ) (z : Nat) (d : Int) (p : Nat) : 0 ≤ seF τ z d p ∧ seF τ z d p ≤ 9 := unS_b hR z d p _
theorem te_b {τ : Wd} (hR : RNG τ) (z : Nat) (d : Int) (p : Nat) : -1 ≤ teF τ z d p ∧ teF τ z d p < max 0 (τ 12 31) := unT_b hR z d p _ (Nat.le_refl _)
theorem gs_b {τ : Wd} (hR : RNG τ) (z1 z2 : Nat) (d g : Int) (n : Nat) : 0 ≤ gsN τ z1 z2 d g n ∧ gsN τ z1 z2 d g n ≤ 9 * n := by
  induction n with
  | zero => exact ⟨Int.le_refl _, Int.le_refl _⟩
  | succ n ih =>
    have h1 := se_b hR z1 d n
    have h2 := se_b hR z2 d n
    rw [gs_s]
    split <;> omega
section
variable {w κ τ : Wd}
theorem votesSomewhere_c (hc : pc w = κ) (hm : pm w = τ) (hE : EQ κ τ) (hR : RNG τ) (hX : TXT κ τ) {z who : Nat} {d : Int} (hw : (who : Int) < τ 12 13) (hd : 0 ≤ d ∧ d ≤ 2000) (h18 : ∀ q : Nat, (q : Int) < τ 12 1 → w 18 q = ct (teF τ z d q)) : Cal 5 123 [.inr (.inr 11), .inl who, .inl d] w (rI fun y u => y = bI (vsB κ τ z d who) ∧ pc u = κ ∧ pm u = τ ∧ ∀ c, ¬ c = 65 → u c = w c) := by
  have hpl := hR.M_places
  have hnp : τ 12 1 = (nP τ : Int) := by unfold nP; omega
  generalize hQ : (rI fun y u => y = bI (vsB κ τ z d who) ∧ pc u = κ ∧ pm u = τ ∧ ∀ c, ¬ c = 65 → u c = w c) = Q
  have key := Ev.inv (sc := none) (C := Cal 4) (cdk := cd 123) (Q := Q) (N := nP τ) (I := fun i t => ∃ v : Wd, t = (2, [some (.inr (.inr 11)), some (.inl (who : Int)), some (.inl d), some (.inl (i : Int))], [], v) ∧ pc v = κ ∧ pm v = τ ∧ (∀ c, ¬ c = 65 → v c = w c) ∧ exN (vpB κ τ z d who) i = false) (fun i hi t ht h => ?_) (fun t ht => ?_) 0 (Nat.zero_le _)
  · exact en_123 (key _ ⟨w, rfl, hc, hm, fun _ _ => rfl, rfl⟩)
  · obtain ⟨v, rfl, vc, vm, vo, hx⟩ := ht
    refine bk_123_2 ?_
    have e1 : v 5 4 = (nP τ : Int) := ((r5_4 vc).trans hE.Places_size).trans hnp
    have e2 : v 18 i = ct (teF τ z d i) := by rw [vo 18 (by decide)]; exact h18 i (by omega)
    rw [e1, if_pos (by omega), tn, e2, wr_s (show i < 2000000 by omega)]
    refine ⟨by omega, ?_⟩
    refine CalI.to (isVoter_c vc vm hE hR hX hw (by omega)) (by decide) ?_
    rintro _ u ⟨rfl, uc, um, uo⟩
    rw [mayB_ct]
    have hs := ex_s (vpB κ τ z d who) i
    rw [hx, Bool.false_or] at hs
    cases hb : mayB κ τ who (i : Int) (teF τ z d i) d
    · rw [if_pos (show bI false = 0 from rfl)]
      exact h _ ⟨u, rfl, uc, um, fun c c1 => (uo c c1).trans (vo c c1), hs.trans hb⟩
    · rw [if_neg (show ¬ bI true = 0 by decide), ← hQ]
      refine ⟨by decide, ?_, uc, um, fun c c1 => (uo c c1).trans (vo c c1)⟩
      have : vsB κ τ z d who = true := ex_m (hs.trans hb) (by omega)
      rw [this]
      rfl
  · obtain ⟨v, rfl, vc, vm, vo, hx⟩ := ht
    refine bk_123_2 ?_
    have e1 : v 5 4 = (nP τ : Int) := ((r5_4 vc).trans hE.Places_size).trans hnp
    rw [e1, if_neg (by omega), ← hQ]
    refine ⟨by decide, ?_, vc, vm, vo⟩
    have : vsB κ τ z d who = false := hx
    rw [this]
    rfl
theorem countVoters_c (hc : pc w = κ) (hm : pm w = τ) (hE : EQ κ τ) (hR : RNG τ) (hX : TXT κ τ) {z : Nat} {d : Int} (hd : 0 ≤ d ∧ d ≤ 2000) (h18 : ∀ q : Nat, (q : Int) < τ 12 1 → w 18 q = ct (teF τ z d q)) : Cal 6 122 [.inr (.inr 11), .inl d] w (rI fun y u => y = (cbN (vsB κ τ z d) (τ 12 13).toNat : Int) ∧ pc u = κ ∧ pm u = τ ∧ ∀ c, ¬ c = 65 → u c = w c) := by
  have hpp := hR.M_people
  generalize hQ : (rI fun y u => y = (cbN (vsB κ τ z d) (τ 12 13).toNat : Int) ∧ pc u = κ ∧ pm u = τ ∧ ∀ c, ¬ c = 65 → u c = w c) = Q
  have key := Ev.inv (sc := none) (C := Cal 5) (cdk := cd 122) (Q := Q) (N := (τ 12 13).toNat) (I := fun i t => ∃ v : Wd, t = (4, [some (.inr (.inr 11)), some (.inl d), some (.inl (cbN (vsB κ τ z d) i : Int)), some (.inl (i : Int))], [], v) ∧ pc v = κ ∧ pm v = τ ∧ (∀ c, ¬ c = 65 → v c = w c)) (fun i hi t ht h => ?_) (fun t ht => ?_) 0 (Nat.zero_le _)
  · exact en_122 (key _ ⟨w, rfl, hc, hm, fun _ _ => rfl⟩)
  · obtain ⟨v, rfl, vc, vm, vo⟩ := ht
    refine bk_122_4 ?_
    have e1 : v 3 5 = τ 12 13 := (r3_5 vc).trans hE.People_size
    have hs := cb_s (vsB κ τ z d) i
    have hcb := cb_b (vsB κ τ z d) i
    rw [e1, if_pos (by omega), wr_s (show i < 2000000 by omega), wr_s (by omega)]
    refine CalI.to (votesSomewhere_c vc vm hE hR hX (by omega) hd (fun q hq => by rw [vo 18 (by decide)]; exact h18 q hq)) (by decide) ?_
    rintro _ u ⟨rfl, uc, um, uo⟩
    cases hb : vsB κ τ z d i
    · rw [hb, if_neg (by decide)] at hs
      rw [if_pos (show bI false = 0 from rfl)]
      exact h _ ⟨u, by rw [hs]; rfl, uc, um, fun c c1 => (uo c c1).trans (vo c c1)⟩
    · rw [hb, if_pos rfl] at hs
      rw [if_neg (show ¬ bI true = 0 by decide)]
      exact h _ ⟨u, by rw [hs], uc, um, fun c c1 => (uo c c1).trans (vo c c1)⟩
  · obtain ⟨v, rfl, vc, vm, vo⟩ := ht
    refine bk_122_4 ?_
    have e1 : v 3 5 = τ 12 13 := (r3_5 vc).trans hE.People_size
    rw [e1, if_neg (by omega), ← hQ]
    exact ⟨rfl, vc, vm, vo⟩
/-- the reference's cells for reading and facts -/
def OFR (w u : Wd) : Prop := ∀ c, ¬ c = 12 → ¬ c = 167 → ¬ c = 171 → ¬ c = 172 → u c = w c
theorem votesUnder_c (hm : pm w = τ) (hR : RNG τ) (hX : TXT κ τ) {z who : Nat} {d : Int} (hw : (who : Int) < τ 12 13) (hd : 0 ≤ d ∧ d ≤ 2000) (h188 : ∀ q : Nat, (q : Int) < τ 12 1 → w 188 q = teF τ z d q) : Cal 7 220 [.inr (.inr 12), .inl who, .inl d] w (rI fun y u => y = bI (vsB κ τ z d who) ∧ pc u = pc w ∧ pm u = τ ∧ OFR w u) := by
  have hpl := hR.M_places
  have hnp : τ 12 1 = (nP τ : Int) := by unfold nP; omega
  have b01 : ∀ b : Bool, bI b = 0 ∨ bI b = 1 := fun b => by cases b <;> decide
  generalize hQ : (rI fun y u => y = bI (vsB κ τ z d who) ∧ pc u = pc w ∧ pm u = τ ∧ OFR w u) = Q
  have key := Ev.inv (sc := none) (C := Cal 6) (cdk := cd 220) (Q := Q) (N := nP τ) (I := fun i t => ∃ v : Wd, t = (5, [some (.inr (.inr 12)), some (.inl (who : Int)), some (.inl d), some (.inl (bI (exN (vpB κ τ z d who) i))), some (.inl (i : Int))], [], v) ∧ pc v = pc w ∧ pm v = τ ∧ OFR w v) (fun i hi t ht h => ?_) (fun t ht => ?_) 0 (Nat.zero_le _)
  · exact en_220 (key _ ⟨w, rfl, rfl, hm, fun _ _ _ _ _ => rfl⟩)
  · obtain ⟨v, rfl, vc, vm, vo⟩ := ht
    refine bk_220_5 ?_
    have hs := ex_s (vpB κ τ z d who) i
    have hte := te_b hR z d i
    have e2 : v 188 i = teF τ z d i := by rw [vo 188 (by decide) (by decide) (by decide) (by decide)]; exact h188 i (by omega)
    simp only [r12_1 vm, hnp, tn, e2, wr_s (show i < 2000000 by omega)]
    rw [if_pos (by omega)]
    cases hx : exN (vpB κ τ z d who) i
    · rw [if_pos (show bI false = 0 from rfl)]
      refine ⟨by omega, ?_⟩
      refine CalI.to (mayBy_c vm hR hX hw hte.2 (by omega)) (by decide) ?_
      rintro _ u ⟨rfl, uc, um, uo⟩
      rw [hx, Bool.false_or] at hs
      refine h _ ⟨u, by rw [hs]; rfl, uc.trans vc, um, fun c c1 c2 c3 c4 => (uo c c1 c2 c3 c4).trans (vo c c1 c2 c3 c4)⟩
    · rw [if_neg (show ¬ bI true = 0 by decide), ← hQ]
      refine ⟨b01 _, ?_, vc, vm, vo⟩
      have : vsB κ τ z d who = true := ex_m hx (by omega)
      rw [this]
  · obtain ⟨v, rfl, vc, vm, vo⟩ := ht
    refine bk_220_5 ?_
    simp only [r12_1 vm, hnp]
    rw [if_neg (by omega), ← hQ]
    exact ⟨b01 _, rfl, vc, vm, vo⟩
theorem changedSeats_c (hR : RNG τ) {z1 z2 : Nat} {d g m : Int} (hg : (g = 0 ∧ m = 1) ∨ (¬ g = 0 ∧ m = 0)) (h17 : ∀ q : Nat, (q : Int) < τ 12 1 → w 17 q = seF τ z2 d q) (h20 : ∀ q : Nat, (q : Int) < τ 12 1 → w 20 q = seF τ z1 d q) : Cal 1 125 [.inr (.inr 0), .inl (nP τ : Int), .inl m] w (rI fun y u => y = gsN τ z1 z2 d g (nP τ) ∧ u = w) := by
  have hpl := hR.M_places
  have hnp : τ 12 1 = (nP τ : Int) := by unfold nP; omega
  generalize hQ : (rI fun y u => y = gsN τ z1 z2 d g (nP τ) ∧ u = w) = Q
  have key := Ev.count (sc := none) (C := Cal 0) (cdk := cd 125) (Q := Q) (N := nP τ) (S := fun i => (5, [some (.inr (.inr 0)), some (.inl (nP τ : Int)), some (.inl m), some (.inl (gsN τ z1 z2 d g i)), some (.inl (i : Int)), none], [], w)) (fun i hi h => ?_) ?_ 0 (Nat.zero_le _)
  · exact en_125 key
  · refine bk_125_5 ?_
    have h1 := se_b hR z1 d i
    have h2 := se_b hR z2 d i
    have hb := gs_b hR z1 z2 d g i
    have hs := gs_s τ z1 z2 d g i
    rw [if_pos (by omega), if_pos (by omega), tn, h17 i (by omega), h20 i (by omega), wr_s (show i < 2000000 by omega), wr_id (x := seF τ z1 d i - seF τ z2 d i) (by omega) (by omega), wr_id (x := - _) (by omega) (by omega)]
    refine ⟨by omega, by omega, ?_⟩
    refine ite_i (fun q => ?_) (fun q => ?_)
    · rw [if_neg (by omega)] at hs
      rw [wr_id (by omega) (by omega)]
      refine h.cast ?_
      rw [hs, show -(seF τ z1 d i - seF τ z2 d i) = seF τ z2 d i - seF τ z1 d i by omega]
    · rw [if_pos (by omega)] at hs
      rw [wr_id (by omega) (by omega)]
      exact h.cast (by rw [hs])
  · refine bk_125_5 ?_
    rw [if_neg (by omega), ← hQ]
    exact ⟨rfl, rfl⟩
/-- the reference's gain, from the first finding on -/
theorem mgain_l (hm : pm w = τ) (hR : RNG τ) (hX : TXT κ τ) {a : Int} {z1 z2 : Nat} {d g : Int} (hd : 0 ≤ d ∧ d ≤ 2000) (hg : 0 ≤ g ∧ g ≤ 2) (hz2 : stF τ (iand (alF τ) (ixor (ishl 1 a) (-1))) = (z2 : Int)) (h187 : ∀ q : Nat, (q : Int) < τ 12 1 → w 187 q = seF τ z1 d q ∧ w 188 q = teF τ z1 d q) {K : Int → Wd → Prop} (hK : ∀ u, pc u = pc w → pm u = τ → K (if g = 2 then (cbN (vsB κ τ z1 d) (τ 12 13).toNat : Int) - (cbN (vsB κ τ z2 d) (τ 12 13).toNat : Int) else gsN τ z1 z2 d g (nP τ)) u) : Ev none (Cal 11) (cd 218) (rI K) (66, [some (.inr (.inr 12)), some (.inl a), some (.inl d), some (.inl g), some (.inl 0), none, none], [], w) := by
  have hpl := hR.M_places
  have hpp := hR.M_people
  have hnp : τ 12 1 = (nP τ : Int) := by unfold nP; omega
  obtain ⟨n, hn⟩ : ∃ n : Nat, τ 12 13 = (n : Int) := ⟨(τ 12 13).toNat, by omega⟩
  rw [hn, tn] at hK
  have b01 : ∀ b : Bool, bI b = 0 ∨ bI b = 1 := fun b => by cases b <;> decide
  have end226 : ∀ (v : Wd) (s : Int), pc v = pc w → pm v = τ → (∀ q : Nat, (q : Int) < τ 12 1 → v 188 q = teF τ z2 d q) → (∀ i, i < n → v 192 i = bI (vsB κ τ z1 d i)) → s = (if g = 2 then 0 else gsN τ z1 z2 d g (nP τ)) → Ev none (Cal 11) (cd 218) (rI K) (226, [some (.inr (.inr 12)), none, some (.inl d), some (.inl g), some (.inl s), some (.inl 0), none], [], v) := by
    intro v s vc vm v188 v192 hs
    by_cases g2 : g = 2
    · rw [if_pos g2] at hs hK
      have key := Ev.inv (sc := none) (C := Cal 11) (cdk := cd 218) (Q := rI K) (N := n) (I := fun i t => ∃ u : Wd, t = (226, [some (.inr (.inr 12)), none, some (.inl d), some (.inl g), some (.inl ((cbN (vsB κ τ z1 d) i : Int) - (cbN (vsB κ τ z2 d) i : Int))), some (.inl (i : Int)), none], [], u) ∧ pc u = pc w ∧ pm u = τ ∧ OFR v u) (fun i hi t ht h => ?_) (fun t ht => ?_) 0 (Nat.zero_le _)
      · refine key _ ⟨v, ?_, vc, vm, fun _ _ _ _ _ => rfl⟩
        rw [hs]
        rfl
      · obtain ⟨u, rfl, uc, um, uo⟩ := ht
        refine bk_218_226 ?_
        have s1 := cb_s (vsB κ τ z1 d) i
        have s2 := cb_s (vsB κ τ z2 d) i
        have c1 := cb_b (vsB κ τ z1 d) i
        have c2 := cb_b (vsB κ τ z2 d) i
        have e192 : u 192 i = bI (vsB κ τ z1 d i) := by rw [uo 192 (by decide) (by decide) (by decide) (by decide)]; exact v192 i hi
        simp only [r12_13 um, hn, tn, e192, wr_s (show i < 2000000 by omega)]
        rw [if_pos (by omega), if_pos g2]
        refine ⟨by omega, ?_⟩
        have tail : ∀ c : Bool, vsB κ τ z1 d i = c → ∀ y x, (y = bI (vsB κ τ z2 d i)) → pc x = pc w → pm x = τ → OFR v x → Ev none (Cal 11) (cd 218) (rI K) (226, [some (.inr (.inr 12)), none, some (.inl d), some (.inl g), some (.inl (wr ((cbN (vsB κ τ z1 d) i : Int) - (cbN (vsB κ τ z2 d) i : Int) + wr (bI c - y)))), some (.inl ((i + 1 : Nat) : Int)), none], [], x) := by
          intro c hc y x hy xc xm xo
          refine h _ ⟨x, ?_, xc, xm, xo⟩
          have y01 := b01 (vsB κ τ z2 d i)
          have c01 := b01 c
          rw [wr_id (x := bI c - y) (by omega) (by omega), wr_id (by omega) (by omega), s1, s2, hc]
          have : ((cbN (vsB κ τ z1 d) i : Int) - (cbN (vsB κ τ z2 d) i : Int) + (bI c - y)) = ((cbN (vsB κ τ z1 d) i + (if c = true then 1 else 0) : Nat) : Int) - ((cbN (vsB κ τ z2 d) i + (if vsB κ τ z2 d i = true then 1 else 0) : Nat) : Int) := by
            rw [hy]
            cases c <;> cases vsB κ τ z2 d i <;> simp [bI] <;> omega
          rw [this]
        cases hb : vsB κ τ z1 d i
        · rw [if_pos (show bI false = 0 from rfl)]
          refine CalI.to (votesUnder_c um hR hX (by omega) hd (fun q hq => by rw [uo 188 (by decide) (by decide) (by decide) (by decide)]; exact v188 q hq)) (by decide) ?_
          rintro _ x ⟨rfl, xc, xm, xo⟩
          have tl := tail false hb _ x rfl (xc.trans uc) xm (fun c c1 c2 c3 c4 => (xo c c1 c2 c3 c4).trans (uo c c1 c2 c3 c4))
          cases hb2 : vsB κ τ z2 d i
          · rw [hb2] at tl
            rw [if_pos (show bI false = 0 from rfl)]
            exact tl
          · rw [hb2] at tl
            rw [if_neg (show ¬ bI true = 0 by decide)]
            exact tl
        · rw [if_neg (show ¬ bI true = 0 by decide)]
          refine CalI.to (votesUnder_c um hR hX (by omega) hd (fun q hq => by rw [uo 188 (by decide) (by decide) (by decide) (by decide)]; exact v188 q hq)) (by decide) ?_
          rintro _ x ⟨rfl, xc, xm, xo⟩
          have tl := tail true hb _ x rfl (xc.trans uc) xm (fun c c1 c2 c3 c4 => (xo c c1 c2 c3 c4).trans (uo c c1 c2 c3 c4))
          cases hb2 : vsB κ τ z2 d i
          · rw [hb2] at tl
            rw [if_pos (show bI false = 0 from rfl)]
            exact tl
          · rw [hb2] at tl
            rw [if_neg (show ¬ bI true = 0 by decide)]
            exact tl
      · obtain ⟨u, rfl, uc, um, uo⟩ := ht
        refine bk_218_226 ?_
        simp only [r12_13 um, hn]
        rw [if_neg (by omega)]
        exact hK u uc um
    · rw [if_neg g2] at hs hK
      refine bk_218_226 ?_
      rw [if_neg g2]
      have := hK v vc vm
      rw [← hs] at this
      exact ite_i (fun _ => this) (fun _ => this)
  have end148 : ∀ v : Wd, pc v = pc w → pm v = τ → (∀ q : Nat, (q : Int) < τ 12 1 → v 187 q = seF τ z2 d q ∧ v 188 q = teF τ z2 d q) → (∀ q : Nat, (q : Int) < τ 12 1 → v 191 q = seF τ z1 d q) → (∀ i, i < n → v 192 i = bI (vsB κ τ z1 d i)) → Ev none (Cal 11) (cd 218) (rI K) (148, [some (.inr (.inr 12)), none, some (.inl d), some (.inl g), some (.inl 0), some (.inl 0), none], [], v) := by
    intro v vc vm v187 v191 v192
    by_cases g2 : g = 2
    · refine bk_218_148 ?_
      rw [if_neg (show ¬ g < 2 by omega)]
      have := end226 v 0 vc vm (fun q hq => (v187 q hq).2) v192 (by rw [if_pos g2])
      exact ite_i (fun _ => this) (fun _ => this)
    · have key := Ev.count (sc := none) (C := Cal 11) (cdk := cd 218) (Q := rI K) (N := nP τ) (S := fun i => (148, [some (.inr (.inr 12)), none, some (.inl d), some (.inl g), some (.inl (gsN τ z1 z2 d g i)), some (.inl (i : Int)), none], [], v)) (fun i hi h => ?_) ?_ 0 (Nat.zero_le _)
      · exact key
      · refine bk_218_148 ?_
        have h1 := se_b hR z1 d i
        have h2 := se_b hR z2 d i
        have hb := gs_b hR z1 z2 d g i
        have hs := gs_s τ z1 z2 d g i
        simp only [r12_1 vm, hnp, tn, (v187 i (by omega)).1, v191 i (by omega), wr_s (show i < 2000000 by omega)]
        rw [if_pos (by omega), if_pos (by omega), wr_id (x := seF τ z1 d i - seF τ z2 d i) (by omega) (by omega), wr_id (x := seF τ z2 d i - seF τ z1 d i) (by omega) (by omega)]
        refine ite_i (fun q => ?_) (fun q => ?_)
        · rw [if_pos q] at hs
          refine ⟨by omega, by omega, ite_i (fun r => ?_) (fun r => ?_)⟩
          · rw [wr_id (by omega) (by omega)]
            refine h.cast ?_
            rw [hs, show max 0 (seF τ z1 d i - seF τ z2 d i) = seF τ z1 d i - seF τ z2 d i by omega]
          · rw [wr_id (by omega) (by omega)]
            refine h.cast ?_
            rw [hs, show max 0 (seF τ z1 d i - seF τ z2 d i) = 0 by omega]
        · rw [if_neg q] at hs
          refine ⟨by omega, by omega, ite_i (fun r => ?_) (fun r => ?_)⟩
          · rw [wr_id (by omega) (by omega)]
            refine h.cast ?_
            rw [hs, show max 0 (seF τ z2 d i - seF τ z1 d i) = seF τ z2 d i - seF τ z1 d i by omega]
          · rw [wr_id (by omega) (by omega)]
            refine h.cast ?_
            rw [hs, show max 0 (seF τ z2 d i - seF τ z1 d i) = 0 by omega]
      · refine bk_218_148 ?_
        simp only [r12_1 vm, hnp]
        rw [if_neg (by omega)]
        exact end226 v _ vc vm (fun q hq => (v187 q hq).2) v192 (by rw [if_neg g2])
  have end98 : ∀ v : Wd, pc v = pc w → pm v = τ → (∀ q : Nat, (q : Int) < τ 12 1 → v 188 q = teF τ z1 d q) → (∀ q : Nat, (q : Int) < τ 12 1 → v 191 q = seF τ z1 d q) → Ev none (Cal 11) (cd 218) (rI K) (98, [some (.inr (.inr 12)), some (.inl a), some (.inl d), some (.inl g), some (.inl 0), none, none], [], v) := by
    intro v vc vm v188 v191
    have key := Ev.inv (sc := none) (C := Cal 11) (cdk := cd 218) (Q := rI K) (N := n) (I := fun i t => ∃ u : Wd, t = (98, [some (.inr (.inr 12)), some (.inl a), some (.inl d), some (.inl g), some (.inl (i : Int)), none, none], [], u) ∧ pc u = pc w ∧ pm u = τ ∧ u 188 = v 188 ∧ u 191 = v 191 ∧ ∀ q, q < i → u 192 q = bI (vsB κ τ z1 d q)) (fun i hi t ht h => ?_) (fun t ht => ?_) 0 (Nat.zero_le _)
    · exact key _ ⟨v, rfl, vc, vm, rfl, rfl, fun q hq => absurd hq (Nat.not_lt_zero q)⟩
    · obtain ⟨u, rfl, uc, um, u188, u191, u192⟩ := ht
      refine bk_218_98 ?_
      simp only [r12_13 um, hn, tn, wr_s (show i < 2000000 by omega)]
      rw [if_pos (by omega)]
      refine CalI.to (votesUnder_c um hR hX (by omega) hd (fun q hq => by rw [u188]; exact v188 q hq)) (by decide) ?_
      rintro _ x ⟨rfl, xc, xm, xo⟩
      refine ⟨by omega, b01 _, h _ ⟨_, rfl, ?_, ?_, ?_, ?_, fun q hq => ?_⟩⟩
      · rw [pc_out rfl]; exact xc.trans uc
      · rw [pm_out rfl]; exact xm
      · show x 188 = _
        exact (xo 188 (by decide) (by decide) (by decide) (by decide)).trans u188
      · show x 191 = _
        exact (xo 191 (by decide) (by decide) (by decide) (by decide)).trans u191
      · rw [wst_ap]
        by_cases e : q = i
        · subst e
          rw [if_pos ⟨rfl, rfl⟩]
        · rw [if_neg (fun z => e z.2), xo 192 (by decide) (by decide) (by decide) (by decide)]
          exact u192 q (by omega)
    · obtain ⟨u, rfl, uc, um, u188, u191, u192⟩ := ht
      refine bk_218_98 ?_
      simp only [r12_13 um, hn]
      rw [if_neg (by omega)]
      refine CalE.to (mall_ok um) (by decide) ?_
      refine CalV.to (findUnder_ok um hR hz2) (by decide) ?_
      rintro x ⟨xc, xm, x191, x192, hx⟩
      exact end148 x (xc.trans uc) xm hx (fun q hq => by rw [x191, u191]; exact v191 q hq) (fun i hi => by rw [x192]; exact u192 i hi)
  have key := Ev.inv (sc := none) (C := Cal 11) (cdk := cd 218) (Q := rI K) (N := nP τ) (I := fun i t => ∃ u : Wd, t = (66, [some (.inr (.inr 12)), some (.inl a), some (.inl d), some (.inl g), some (.inl (i : Int)), none, none], [], u) ∧ pc u = pc w ∧ pm u = τ ∧ u 187 = w 187 ∧ u 188 = w 188 ∧ ∀ q, q < i → u 191 q = seF τ z1 d q) (fun i hi t ht h => ?_) (fun t ht => ?_) 0 (Nat.zero_le _)
  · exact key _ ⟨w, rfl, rfl, hm, rfl, rfl, fun q hq => absurd hq (Nat.not_lt_zero q)⟩
  · obtain ⟨u, rfl, uc, um, u187, u188, u191⟩ := ht
    refine bk_218_66 ?_
    have e187 : u 187 i = seF τ z1 d i := by rw [u187]; exact (h187 i (by omega)).1
    simp only [r12_1 um, hnp, tn, e187, wr_s (show i < 2000000 by omega)]
    rw [if_pos (by omega)]
    refine ⟨by omega, by omega, h _ ⟨_, rfl, ?_, ?_, u187, u188, fun q hq => ?_⟩⟩
    · rw [pc_out rfl]; exact uc
    · rw [pm_out rfl]; exact um
    · rw [wst_ap]
      by_cases e : q = i
      · subst e
        rw [if_pos ⟨rfl, rfl⟩]
      · rw [if_neg (fun z => e z.2)]
        exact u191 q (by omega)
  · obtain ⟨u, rfl, uc, um, u187, u188, u191⟩ := ht
    refine bk_218_66 ?_
    simp only [r12_1 um, hnp]
    rw [if_neg (by omega)]
    exact end98 u uc um (fun q hq => by rw [u188]; exact (h187 q hq).2) (fun q hq => u191 q (by omega))
theorem both_gain (hO : OKW TXT w) {a b c : Int} : Cal 12 120 [.inr (.inr 11), .inl a, .inl b, .inl c] w (rI fun x u => Cal 12 218 [.inr (.inr 12), .inl a, .inl b, .inl c] u (rI fun y v => x = y ∧ OKW TXT v)) := by
  have hO2 := hO
  have hT := TXT_fr
  obtain ⟨κ, hc⟩ : ∃ κ, pc w = κ := ⟨_, rfl⟩
  obtain ⟨τ, hm⟩ : ∃ τ, pm w = τ := ⟨_, rfl⟩
  unfold OKW at hO
  rw [hc, hm] at hO
  obtain ⟨hE, hR, ht⟩ := id hO
  have hpl := hR.M_places
  have hpp := hR.M_people
  have hnp : τ 12 1 = (nP τ : Int) := by unfold nP; omega
  refine en_120 ?_
  refine CalB (billHas_ok hc hE) (by decide) (fun q1 => ?_) (fun q1 => ?_)
  · rw [if_neg (by decide)]
    refine CalB isWithin_ok (by decide) (fun q2 => ?_) (fun q2 => ?_)
    · rw [if_neg (by decide)]
      refine refuseDays_br hc hm (fun q3 => ?_) (fun g u hg uc um => ?_)
      · rw [if_pos rfl]
        obtain ⟨z1, h1, _⟩ := stF_n hR (alF τ)
        obtain ⟨z2, h2, _⟩ := stF_n hR (iand (alF τ) (ixor (ishl 1 a) (-1)))
        have fin : ∀ (x : Int) (u : Wd), pc u = κ → pm u = τ → x = (if c = 2 then (cbN (vsB κ τ z1 b) (τ 12 13).toNat : Int) - (cbN (vsB κ τ z2 b) (τ 12 13).toNat : Int) else gsN τ z1 z2 b c (nP τ)) → Cal 12 218 [.inr (.inr 12), .inl a, .inl b, .inl c] u (rI fun y v => x = y ∧ OKW TXT v) := by
          intro x u uc um hx
          refine en_218 ?_
          repeat' (first | (rw [if_pos (by omega)]) | (rw [if_neg (by omega)]) | (refine And.intro (by first | omega | exact Or.inl trivial | exact Or.inr trivial | exact ⟨trivial, trivial⟩ | fail) ?_) | (refine CalT in_ok (by decide) (by omega) ?_) | (refine CalF in_ok (by decide) (by omega) ?_) | (refine CalT (isPlace_ok um hR) (by decide) (by omega) ?_) | (refine CalF (isPlace_ok um hR) (by decide) (by omega) ?_) | (refine CalT (isPerson_ok um hR) (by decide) (by omega) ?_) | (refine CalF (isPerson_ok um hR) (by decide) (by omega) ?_) | (refine CalT (isText_ok um hR) (by decide) (by omega) ?_) | (refine CalF (isText_ok um hR) (by decide) (by omega) ?_) | (refine CalT (isPetitionAt_ok um hR) (by decide) (by omega) ?_) | (refine CalF (isPetitionAt_ok um hR) (by decide) (by omega) ?_) | (refine CalT (isLine_ok um hR) (by decide) (by omega) ?_) | (refine CalF (isLine_ok um hR) (by decide) (by omega) ?_) | (refine CalT mIsKnot_ok (by decide) (by omega) ?_) | (refine CalF mIsKnot_ok (by decide) (by omega) ?_) | (refine CalT mIsNight_ok (by decide) (by omega) ?_) | (refine CalF mIsNight_ok (by decide) (by omega) ?_) | (refine bk_175_75 ?_) | (refine CalE.to bounds_ok (by decide) ?_) | (refine CalE.to wrongDays_ok (by decide) ?_) | (exact CalK (fin_rf hT hO uc um (by omega) (by omega)) (by decide)) | (exact CalK (fin_rfF hT hO uc um (by omega) (by omega)) (by decide)) | fail);
          refine CalE.to (mall_ok um) (by decide) ?_
          refine CalV.to (findUnder_ok um hR h1) (by decide) ?_
          rintro v ⟨vc, vm, _, _, hv⟩
          exact mgain_l vm hR ht (by omega) q2 h2 hv (fun y yc ym => ⟨hx, OKW.of hO ((yc.trans vc).trans uc) ym⟩)
        refine CalE.to (all_ok hc hE) (by decide) ?_
        refine CalV.to (applyBill_ok hc hm hE hR h1) (by decide) ?_
        rintro u ⟨uc, um, _, hu⟩
        refine ite_i (fun g => ?_) (fun g => ?_)
        · refine CalI.to (countVoters_c uc um hE hR ht (by omega) (fun q hq => (hu q hq).2)) (by decide) ?_
          rintro _ v ⟨rfl, vc, vm, _⟩
          refine CalE.to (allBut_ok vc hE) (by decide) ?_
          refine CalV.to (applyBill_ok vc vm hE hR h2) (by decide) ?_
          rintro x ⟨xc, xm, _, hx⟩
          refine CalI.to (countVoters_c xc xm hE hR ht (by omega) (fun q hq => (hx q hq).2)) (by decide) ?_
          rintro _ y ⟨rfl, yc, ym, _⟩
          have c1 := cb_b (vsB κ τ z1 b) (τ 12 13).toNat
          have c2 := cb_b (vsB κ τ z2 b) (τ 12 13).toNat
          rw [wr_id (by omega) (by omega)]
          exact fin _ y yc ym (by rw [if_pos g])
        · have hK : Cal 11 124 [.inr (.inr 0)] u (rV fun v => v = wcp u 17 0 20 0 16) := by
            refine CalK (n := 1) ?_ (by decide)
            refine en_124 ?_
            exact ⟨by omega, rfl⟩
          refine CalVE.to hK (by decide) ?_
          generalize hv : wcp u 17 0 20 0 16 = v
          have vc : pc v = κ := by rw [← hv]; exact (mk_cp (fun _ => rfl)).trans uc
          have vm : pm v = τ := by rw [← hv]; exact (mk_cp (fun _ => rfl)).trans um
          have v20 : ∀ q : Nat, (q : Int) < τ 12 1 → v 20 q = seF τ z1 b q := by
            intro q hq
            rw [← hv]
            show (if 20 = 20 ∧ (0 : Int) ≤ (q : Int) ∧ (q : Int) < 0 + 16 then u 17 (0 + ((q : Int) - 0)).toNat else u 20 q) = _
            rw [if_pos ⟨rfl, by omega, by omega⟩, show (0 + ((q : Int) - 0)).toNat = q by omega]
            exact (hu q hq).1
          refine CalE.to (allBut_ok vc hE) (by decide) ?_
          refine CalV.to (applyBill_ok vc vm hE hR h2) (by decide) ?_
          rintro x ⟨xc, xm, x20, hx⟩
          have e1 : x 5 4 = (nP τ : Int) := ((r5_4 xc).trans hE.Places_size).trans hnp
          rw [e1]
          refine ite_i (fun g2 => ?_) (fun g2 => ?_)
          · refine CalE.to (changedSeats_c (τ := τ) (z1 := z1) (z2 := z2) (d := b) (g := c) (m := 1) hR (Or.inl ⟨g2, rfl⟩) (fun q hq => (hx q hq).1) (fun q hq => by rw [x20]; exact v20 q hq)) (by decide) ?_
            exact fin _ x xc xm (by rw [if_neg g])
          · refine CalE.to (changedSeats_c (τ := τ) (z1 := z1) (z2 := z2) (d := b) (g := c) (m := 0) hR (Or.inr ⟨g2, rfl⟩) (fun q hq => (hx q hq).1) (fun q hq => by rw [x20]; exact v20 q hq)) (by decide) ?_
            exact fin _ x xc xm (by rw [if_neg g])
      · rw [if_neg (by omega)]
        have w1 : wr (1000000000 - g) = 1000000000 - g := wr_id (by omega) (by omega)
        rw [w1]
        (obtain ⟨rfl, hg⟩ | ⟨rfl, hg⟩ := hg);
        all_goals (refine en_218 ?_; repeat' (first | (rw [if_pos (by omega)]) | (rw [if_neg (by omega)]) | (refine And.intro (by first | omega | exact Or.inl trivial | exact Or.inr trivial | exact ⟨trivial, trivial⟩ | fail) ?_) | (refine CalT in_ok (by decide) (by omega) ?_) | (refine CalF in_ok (by decide) (by omega) ?_) | (refine CalT (isPlace_ok um hR) (by decide) (by omega) ?_) | (refine CalF (isPlace_ok um hR) (by decide) (by omega) ?_) | (refine CalT (isPerson_ok um hR) (by decide) (by omega) ?_) | (refine CalF (isPerson_ok um hR) (by decide) (by omega) ?_) | (refine CalT (isText_ok um hR) (by decide) (by omega) ?_) | (refine CalF (isText_ok um hR) (by decide) (by omega) ?_) | (refine CalT (isPetitionAt_ok um hR) (by decide) (by omega) ?_) | (refine CalF (isPetitionAt_ok um hR) (by decide) (by omega) ?_) | (refine CalT (isLine_ok um hR) (by decide) (by omega) ?_) | (refine CalF (isLine_ok um hR) (by decide) (by omega) ?_) | (refine CalT mIsKnot_ok (by decide) (by omega) ?_) | (refine CalF mIsKnot_ok (by decide) (by omega) ?_) | (refine CalT mIsNight_ok (by decide) (by omega) ?_) | (refine CalF mIsNight_ok (by decide) (by omega) ?_) | (refine bk_175_75 ?_) | (refine CalE.to bounds_ok (by decide) ?_) | (refine CalE.to wrongDays_ok (by decide) ?_) | (exact CalK (fin_rf hT hO uc um (by omega) (by omega)) (by decide)) | (exact CalK (fin_rfF hT hO uc um (by omega) (by omega)) (by decide)) | fail);;)
    · rw [if_pos rfl]
      refine CalI.to (refuseApart_ok hc hm (by omega)) (by decide) ?_; rintro _ u ⟨rfl, uc, um⟩;
      refine en_218 ?_
      repeat' (first | (rw [if_pos (by omega)]) | (rw [if_neg (by omega)]) | (refine And.intro (by first | omega | exact Or.inl trivial | exact Or.inr trivial | exact ⟨trivial, trivial⟩ | fail) ?_) | (refine CalT in_ok (by decide) (by omega) ?_) | (refine CalF in_ok (by decide) (by omega) ?_) | (refine CalT (isPlace_ok um hR) (by decide) (by omega) ?_) | (refine CalF (isPlace_ok um hR) (by decide) (by omega) ?_) | (refine CalT (isPerson_ok um hR) (by decide) (by omega) ?_) | (refine CalF (isPerson_ok um hR) (by decide) (by omega) ?_) | (refine CalT (isText_ok um hR) (by decide) (by omega) ?_) | (refine CalF (isText_ok um hR) (by decide) (by omega) ?_) | (refine CalT (isPetitionAt_ok um hR) (by decide) (by omega) ?_) | (refine CalF (isPetitionAt_ok um hR) (by decide) (by omega) ?_) | (refine CalT (isLine_ok um hR) (by decide) (by omega) ?_) | (refine CalF (isLine_ok um hR) (by decide) (by omega) ?_) | (refine CalT mIsKnot_ok (by decide) (by omega) ?_) | (refine CalF mIsKnot_ok (by decide) (by omega) ?_) | (refine CalT mIsNight_ok (by decide) (by omega) ?_) | (refine CalF mIsNight_ok (by decide) (by omega) ?_) | (refine bk_175_75 ?_) | (refine CalE.to bounds_ok (by decide) ?_) | (refine CalE.to wrongDays_ok (by decide) ?_) | (exact CalK (fin_rf hT hO uc um (by omega) (by omega)) (by decide)) | (exact CalK (fin_rfF hT hO uc um (by omega) (by omega)) (by decide)) | fail);
  · rw [if_pos rfl]
    refine CalI.to (refuseApart_ok hc hm (by omega)) (by decide) ?_; rintro _ u ⟨rfl, uc, um⟩;
    refine en_218 ?_
    repeat' (first | (rw [if_pos (by omega)]) | (rw [if_neg (by omega)]) | (refine And.intro (by first | omega | exact Or.inl trivial | exact Or.inr trivial | exact ⟨trivial, trivial⟩ | fail) ?_) | (refine CalT in_ok (by decide) (by omega) ?_) | (refine CalF in_ok (by decide) (by omega) ?_) | (refine CalT (isPlace_ok um hR) (by decide) (by omega) ?_) | (refine CalF (isPlace_ok um hR) (by decide) (by omega) ?_) | (refine CalT (isPerson_ok um hR) (by decide) (by omega) ?_) | (refine CalF (isPerson_ok um hR) (by decide) (by omega) ?_) | (refine CalT (isText_ok um hR) (by decide) (by omega) ?_) | (refine CalF (isText_ok um hR) (by decide) (by omega) ?_) | (refine CalT (isPetitionAt_ok um hR) (by decide) (by omega) ?_) | (refine CalF (isPetitionAt_ok um hR) (by decide) (by omega) ?_) | (refine CalT (isLine_ok um hR) (by decide) (by omega) ?_) | (refine CalF (isLine_ok um hR) (by decide) (by omega) ?_) | (refine CalT mIsKnot_ok (by decide) (by omega) ?_) | (refine CalF mIsKnot_ok (by decide) (by omega) ?_) | (refine CalT mIsNight_ok (by decide) (by omega) ?_) | (refine CalF mIsNight_ok (by decide) (by omega) ?_) | (refine bk_175_75 ?_) | (refine CalE.to bounds_ok (by decide) ?_) | (refine CalE.to wrongDays_ok (by decide) ?_) | (exact CalK (fin_rf hT hO uc um (by omega) (by omega)) (by decide)) | (exact CalK (fin_rfF hT hO uc um (by omega) (by omega)) (by decide)) | fail);
end
