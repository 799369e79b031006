/-! which lines a night carries; the reference finds the nights -/
def csN (τ : Wd) (l g : Nat) : Nat → Int
  | 0 => 0
  | k + 1 => csN τ l g k + (if (rdn τ k).testBit l = true then (if 0 < τ 193 (9 * k + l) then thF τ k g 1 else if τ 193 (9 * k + l) < 0 then - thF τ k g 0 else 0) else 0)
theorem cs_s (τ : Wd) (l g k : Nat) : csN τ l g (k + 1) = csN τ l g k + (if (rdn τ k).testBit l = true then (if 0 < τ 193 (9 * k + l) then thF τ k g 1 else if τ 193 (9 * k + l) < 0 then - thF τ k g 0 else 0) else 0) := rfl
theorem cs_b {τ : Wd} (hR : RNG τ) (l g k : Nat) : -40 * (k : Int) ≤ csN τ l g k ∧ csN τ l g k ≤ 40 * (k : Int) := by
  induction k with
  | zero => exact ⟨Int.le_refl _, Int.le_refl _⟩
  | succ k ih =>
    have h1 := thF_b hR k g 1
    have h2 := thF_b hR k g 0
    rw [cs_s]
    repeat' split
    all_goals omega
def crB (τ : Wd) (l g : Nat) : Bool := decide (0 < csN τ l g 8)
section
variable {w κ τ : Wd}
theorem isCarried_c (hm : pm w = τ) (hR : RNG τ) {l g : Nat} (hl : l < 9) (hg : g < 5) : Cal 3 238 [.inr (.inr 12), .inl (l : Int), .inl (g : Int)] w (rI fun y u => y = bI (crB τ l g) ∧ u = w) := by
  generalize hQ : (rI fun y u => y = bI (crB τ l g) ∧ u = w) = Q
  have key := Ev.count (sc := none) (C := Cal 2) (cdk := cd 238) (Q := Q) (N := 8) (S := fun i => (5, [some (.inr (.inr 12)), some (.inl (l : Int)), some (.inl (g : Int)), some (.inl (csN τ l g i)), some (.inl (i : Int)), none], [], w)) (fun i hi h => ?_) ?_ 0 (Nat.zero_le _)
  · exact en_238 key
  · refine bk_238_5 ?_
    have hb := cs_b hR l g i
    have hs := cs_s τ l g i
    have h1 := thF_b hR i g 1
    have h2 := thF_b hR i g 0
    have hr := rdn_b hR i
    rw [wr_id (x := 9 * (i : Int)) (by omega) (by omega), wr_id (x := 9 * (i : Int) + (l : Int)) (by omega) (by omega), show 9 * (i : Int) + (l : Int) = ((9 * i + l : Nat) : Int) by omega]
    simp only [tn, r195 hm, r193 hm, hr.1, wr_s (show i < 2000000 by omega)]
    rw [if_pos (by omega), wr_id (x := csN τ l g i + 0) (by omega) (by omega)]
    refine ⟨by omega, ite_i (fun q => ?_) (fun q => ?_)⟩
    · rw [bit_n (by omega) (by omega)] at q
      rw [if_pos q] at hs
      refine ⟨by omega, ite_i (fun r => ?_) (fun r => ite_i (fun s => ?_) (fun s => ?_))⟩
      · rw [if_pos r] at hs
        refine CalE.to (leastOf_ok hm hR hi hg) (by decide) ?_
        rw [wr_id (by omega) (by omega), ← hs]
        exact h
      · rw [if_neg r, if_pos s] at hs
        refine CalE.to (mostOf_ok hm hR hi hg) (by decide) ?_
        rw [wr_id (x := - _) (by omega) (by omega), wr_id (by omega) (by omega), ← hs]
        exact h
      · rw [if_neg r, if_neg s] at hs
        rw [← hs]
        exact h
    · rw [bit_n (by omega) (by omega)] at q
      rw [if_neg q] at hs
      rw [← hs]
      exact h
  · refine bk_238_5 ?_
    rw [if_neg (by omega), ← hQ]
    unfold crB
    refine ite_i (fun q => ?_) (fun q => ?_)
    · rw [decide_eq_true q]; exact ⟨by decide, rfl, rfl⟩
    · rw [decide_eq_false q]; exact ⟨by decide, rfl, rfl⟩
theorem findNights_c (hm : pm w = τ) (hR : RNG τ) {n c : Nat} (hn : 1 ≤ n ∧ n ≤ 5) (hc9 : c ≤ 9) {K : Int → Wd → Prop} (hK : ∀ u bn, pc u = pc w → pm u = τ → OPT (crB τ) (HgN τ) n c (nL τ) bn → (∀ i, i < nL τ → u 200 i = (bn i : Int)) → K (brN bn n (nL τ) : Int) u) : Cal 4 237 [.inr (.inr 12), .inl (n : Int), .inl (c : Int)] w (rI K) := by
  have hL9 := nL_9 hR
  have hLe := hL9.2
  have hL := hL9.1
  generalize hLL : nL τ = L at hK hLe hL
  have start : ∀ u : Wd, pc u = pc w → pm u = τ → (∀ l g, l < L → g < n → u 198 (5 * l + g) = bI (crB τ l g)) → (∀ i, i ≤ L → u 203 i = (couN (crB τ) n L (L - i) : Int)) → (∀ g, g < 6 → u 202 g = 0) → HNN K n c (-1) 0 (wst (wst u 201 0 0) 199 0 (-1)) := by
    intro u uc um h198 h203 h202
    have hB : NSB (pc w) τ n L (crB τ) (wst (wst u 201 0 0) 199 0 (-1)) := NSB.st (NSB.st ⟨uc, um, h198, h203⟩ (by omega)) (by omega)
    refine dfs (κ0 := pc w) (τ := τ) (cr := crB τ) hR hLe hL hn hc9 L 0 (by omega) (fun _ => 0) (fun l hl => absurd hl (Nat.not_lt_zero l)) (n + 1) (Nat.le_refl _) (-1) (fun _ => 0) _ (fun hl => ?_) (fun hl => ⟨?_, ?_⟩) (Or.inl rfl) (fun z => absurd z (by decide)) (fun u' b' bn' hu' hP => ?_)
    · rw [show (n : Int) - ((n + 1 : Nat) : Int) = -1 by omega]
      refine ⟨hB, fun i hi => absurd hi (Nat.not_lt_zero i), fun i hi => ?_, fun g hg => ?_, fun z => absurd z (by decide), rfl⟩
      · obtain rfl : i = 0 := by omega
        rfl
      · rw [if_neg (by omega)]
        exact h202 g (by omega)
    · refine ⟨hB, fun i hi => absurd hi (Nat.not_lt_zero i), fun i hi => ?_, fun g hg => ?_, fun z => absurd z (by decide)⟩
      · obtain rfl : i = 0 := by omega
        rfl
      · exact h202 g (by omega)
    · rw [← hl]
      show (-1 : Int) < 0
      decide
    · rw [show (n : Int) - ((n + 1 : Nat) : Int) = -1 by omega] at hP
      obtain ⟨p1, _, p3, _⟩ := hP
      have hall : ∀ x : Nat → Nat, REG L 0 (fun _ => 0) (-1) x := fun x => ⟨fun i hi => absurd hi (Nat.not_lt_zero i), fun _ => by omega⟩
      have h0 := (p3 _ (VLN_none (crB τ) (HgN τ) n c L) (hall _)).1
      refine bk_237_185 ?_
      rw [if_pos (by omega)]
      rcases p1 with p1 | ⟨p1, rfl⟩
      · omega
      · exact hK u' bn' hu'.1.1 hu'.1.2.1 ⟨p1, fun x hx => (p3 x hx (hall x)).2⟩ (hu'.2.2.2.2 (by omega))
  have zeros : ∀ u : Wd, pc u = pc w → pm u = τ → (∀ l g, l < L → g < n → u 198 (5 * l + g) = bI (crB τ l g)) → (∀ i, i ≤ L → u 203 i = (couN (crB τ) n L (L - i) : Int)) → Ev none (Cal 3) (cd 237) (rI K) (147, [some (.inr (.inr 12)), some (.inl (n : Int)), some (.inl (c : Int)), some (.inl 0), none, none, none, none], [], u) := by
    intro u uc um h198 h203
    have key := Ev.inv (sc := none) (C := Cal 3) (cdk := cd 237) (Q := rI K) (N := 6) (I := fun i t => ∃ v : Wd, t = (147, [some (.inr (.inr 12)), some (.inl (n : Int)), some (.inl (c : Int)), some (.inl (i : Int)), none, none, none, none], [], v) ∧ pc v = pc w ∧ pm v = τ ∧ v 198 = u 198 ∧ v 203 = u 203 ∧ ∀ g, g < i → v 202 g = 0) (fun i hi t ht h => ?_) (fun t ht => ?_) 0 (Nat.zero_le _)
    · exact key _ ⟨u, rfl, uc, um, rfl, rfl, fun g hg => absurd hg (Nat.not_lt_zero g)⟩
    · obtain ⟨v, rfl, vc, vm, v198, v203, v202⟩ := ht
      refine bk_237_147 ?_
      rw [if_pos (by omega), tn, wr_s (show i < 2000000 by omega)]
      refine ⟨by omega, h _ ⟨_, rfl, ?_, ?_, v198, v203, fun g hg => ?_⟩⟩
      · rw [pc_out rfl]; exact vc
      · rw [pm_out rfl]; exact vm
      · rw [wst_ap]
        by_cases e : g = i
        · rw [if_pos ⟨rfl, e⟩]
        · rw [if_neg (fun z => e z.2)]
          exact v202 g (by omega)
    · obtain ⟨v, rfl, vc, vm, v198, v203, v202⟩ := ht
      refine bk_237_147 ?_
      rw [if_neg (by omega)]
      exact ⟨by omega, by omega, start v vc vm (fun l g hl hg => by rw [v198]; exact h198 l g hl hg) (fun i hi => by rw [v203]; exact h203 i hi) v202⟩
  have coulds : ∀ u : Wd, pc u = pc w → pm u = τ → (∀ l g, l < L → g < n → u 198 (5 * l + g) = bI (crB τ l g)) → u 203 L = 0 → Ev none (Cal 3) (cd 237) (rI K) (66, [some (.inr (.inr 12)), some (.inl (n : Int)), some (.inl (c : Int)), some (.inl ((L : Int) - 1)), none, none, none, none], [], u) := by
    intro u uc um h198 h203
    have key := Ev.inv (sc := none) (C := Cal 3) (cdk := cd 237) (Q := rI K) (N := L) (I := fun i t => ∃ v : Wd, t = (66, [some (.inr (.inr 12)), some (.inl (n : Int)), some (.inl (c : Int)), some (.inl ((L : Int) - 1 - i)), none, none, none, none], [], v) ∧ pc v = pc w ∧ pm v = τ ∧ v 198 = u 198 ∧ ∀ j, j ≤ i → v 203 (L - j) = (couN (crB τ) n L j : Int)) (fun i hi t ht h => ?_) (fun t ht => ?_) 0 (Nat.zero_le _)
    · refine key _ ⟨u, by rw [show (L : Int) - 1 - ((0 : Nat) : Int) = (L : Int) - 1 by omega], uc, um, rfl, fun j hj => ?_⟩
      obtain rfl : j = 0 := by omega
      exact h203
    · obtain ⟨v, rfl, vc, vm, v198, v203⟩ := ht
      obtain ⟨l, hl⟩ : ∃ l : Nat, l + i + 1 = L := ⟨L - i - 1, by omega⟩
      have el : (L : Int) - 1 - i = (l : Int) := by omega
      rw [el]
      refine bk_237_66 ?_
      rw [if_neg (by omega)]
      have key2 := Ev.count (sc := none) (C := Cal 3) (cdk := cd 237) (Q := rI K) (N := n) (S := fun g => (76, [some (.inr (.inr 12)), some (.inl (n : Int)), some (.inl (c : Int)), some (.inl (l : Int)), some (.inl (bI (exN (crB τ l) g))), some (.inl (g : Int)), none, none], [], v)) (fun g hg h2 => ?_) ?_ 0 (Nat.zero_le _)
      · exact key2
      · refine bk_237_76 ?_
        have hs := ex_s (crB τ l) g
        rw [if_pos (by omega), wr_s (show g < 2000000 by omega), wr_id (x := 5 * (l : Int)) (by omega) (by omega), wr_id (x := 5 * (l : Int) + (g : Int)) (by omega) (by omega), show 5 * (l : Int) + (g : Int) = ((5 * l + g : Nat) : Int) by omega, tn, v198, h198 l g (by omega) hg]
        cases hx : exN (crB τ l) g
        · rw [hx, Bool.false_or] at hs
          rw [if_pos (show bI false = 0 from rfl)]
          refine ⟨by omega, ?_⟩
          cases hc : crB τ l g
          · rw [hc] at hs
            rw [if_pos (show bI false = 0 from rfl)]
            exact h2.cast (by rw [hs]; rfl)
          · rw [hc] at hs
            rw [if_neg (show ¬ bI true = 0 by decide)]
            exact h2.cast (by rw [hs]; rfl)
        · rw [hx, Bool.true_or] at hs
          rw [if_neg (show ¬ bI true = 0 by decide)]
          exact h2.cast (by rw [hs]; rfl)
      · refine bk_237_76 ?_
        have cs := cou_s (crB τ) n L i
        have cb := cou_b (crB τ) n L i
        have e203 : v 203 (l + 1) = (couN (crB τ) n L i : Int) := by
          have := v203 i (Nat.le_refl _)
          rw [show L - i = l + 1 by omega] at this
          exact this
        have eL : L - 1 - i = l := by omega
        rw [eL] at cs
        rw [if_neg (by omega), wr_s (show l < 2000000 by omega), tn, tn, e203, wr_id (x := (l : Int) + (-1)) (by omega) (by omega), show (l : Int) + (-1) = (L : Int) - 1 - ((i + 1 : Nat) : Int) by omega]
        have nx : ∀ y : Int, y = (couN (crB τ) n L (i + 1) : Int) → Ev none (Cal 3) (cd 237) (rI K) (66, [some (.inr (.inr 12)), some (.inl (n : Int)), some (.inl (c : Int)), some (.inl ((L : Int) - 1 - ((i + 1 : Nat) : Int))), none, none, none, none], [], wst v 203 l y) := by
          intro y hy
          refine h _ ⟨_, rfl, ?_, ?_, v198, fun j hj => ?_⟩
          · rw [pc_out rfl]; exact vc
          · rw [pm_out rfl]; exact vm
          · rw [wst_ap]
            by_cases e : j = i + 1
            · rw [if_pos ⟨rfl, by omega⟩, e, hy]
            · rw [if_neg (fun z => e (by omega))]
              exact v203 j (by omega)
        refine ⟨by omega, ?_⟩
        cases hx : exN (crB τ l) n
        · have hx' : exN (fun g => crB τ l g) n = false := hx
          rw [hx', if_neg (by decide)] at cs
          rw [if_pos (show bI false = 0 from rfl)]
          exact ⟨by omega, nx _ (by rw [wr_id (by omega) (by omega), cs]; omega)⟩
        · have hx' : exN (fun g => crB τ l g) n = true := hx
          rw [hx', if_pos rfl] at cs
          rw [if_neg (show ¬ bI true = 0 by decide)]
          exact ⟨by omega, nx _ (by rw [wr_id (by omega) (by omega), cs]; omega)⟩
    · obtain ⟨v, rfl, vc, vm, v198, v203⟩ := ht
      refine bk_237_66 ?_
      rw [if_pos (by omega)]
      refine zeros v vc vm (fun l g hl hg => by rw [v198]; exact h198 l g hl hg) (fun i hi => ?_)
      have := v203 (L - i) (by omega)
      rw [show L - (L - i) = i by omega] at this
      exact this
  have key := Ev.inv (sc := none) (C := Cal 3) (cdk := cd 237) (Q := rI K) (N := L) (I := fun i t => ∃ v : Wd, t = (2, [some (.inr (.inr 12)), some (.inl (n : Int)), some (.inl (c : Int)), some (.inl (i : Int)), none, none, none, none], [], v) ∧ pc v = pc w ∧ pm v = τ ∧ ∀ l g, l < i → g < n → v 198 (5 * l + g) = bI (crB τ l g)) (fun i hi t ht h => ?_) (fun t ht => ?_) 0 (Nat.zero_le _)
  · exact en_237 (key _ ⟨w, rfl, rfl, hm, fun l g hl => absurd hl (Nat.not_lt_zero l)⟩)
  · obtain ⟨v, rfl, vc, vm, v198⟩ := ht
    refine bk_237_2 ?_
    have e61 : v 12 61 = (L : Int) := (r12_61 vm).trans hLe
    rw [e61, if_pos (by omega)]
    have key2 := Ev.inv (sc := none) (C := Cal 3) (cdk := cd 237) (Q := rI K) (N := n) (I := fun g t => ∃ o : Wd, t = (13, [some (.inr (.inr 12)), some (.inl (n : Int)), some (.inl (c : Int)), some (.inl (i : Int)), some (.inl (g : Int)), none, none, none], [], o) ∧ pc o = pc w ∧ pm o = τ ∧ (∀ l g, l < i → g < n → o 198 (5 * l + g) = bI (crB τ l g)) ∧ ∀ q, q < g → o 198 (5 * i + q) = bI (crB τ i q)) (fun g hg t ht h2 => ?_) (fun t ht => ?_) 0 (Nat.zero_le _)
    · exact key2 _ ⟨v, rfl, vc, vm, v198, fun q hq => absurd hq (Nat.not_lt_zero q)⟩
    · obtain ⟨o, rfl, oc, om, o1, o2⟩ := ht
      refine bk_237_13 ?_
      rw [if_pos (by omega)]
      refine CalE.to (isCarried_c om hR (by omega) (by omega)) (by decide) ?_
      rw [wr_s (show g < 2000000 by omega), wr_id (x := 5 * (i : Int)) (by omega) (by omega), wr_id (x := 5 * (i : Int) + (g : Int)) (by omega) (by omega), show 5 * (i : Int) + (g : Int) = ((5 * i + g : Nat) : Int) by omega, tn]
      refine ⟨by omega, by cases crB τ i g <;> decide, h2 _ ⟨_, rfl, ?_, ?_, fun l q hl hq => ?_, fun q hq => ?_⟩⟩
      · rw [pc_out rfl]; exact oc
      · rw [pm_out rfl]; exact om
      · rw [wst_ap, if_neg (by omega)]
        exact o1 l q hl hq
      · rw [wst_ap]
        by_cases e : q = g
        · rw [if_pos ⟨rfl, by omega⟩, e]
        · rw [if_neg (by omega)]
          exact o2 q (by omega)
    · obtain ⟨o, rfl, oc, om, o1, o2⟩ := ht
      refine bk_237_13 ?_
      rw [if_neg (by omega), wr_s (show i < 2000000 by omega)]
      refine h _ ⟨o, rfl, oc, om, fun l g hl hg => ?_⟩
      by_cases e : l = i
      · rw [e]; exact o2 g hg
      · exact o1 l g (by omega) hg
  · obtain ⟨v, rfl, vc, vm, v198⟩ := ht
    refine bk_237_2 ?_
    have e61 : v 12 61 = (L : Int) := (r12_61 vm).trans hLe
    have f61 : (wst v 203 L 0) 12 61 = (L : Int) := e61
    rw [e61, if_neg (by omega), tn, f61, wr_id (by omega) (by omega)]
    refine ⟨by omega, coulds _ ?_ ?_ (fun l g hl hg => v198 l g hl hg) ?_⟩
    · rw [pc_out rfl]; exact vc
    · rw [pm_out rfl]; exact vm
    · rw [wst_ap, if_pos ⟨rfl, rfl⟩]
end
