/-! the class makes the plan -/
def RW (cf H : Nat → Nat) (n c : Nat) (u : Wd) (g A : Nat) : Prop := DPR cf H n c (fun g A => (u (90 + g) A).toNat) (fun g A => (u (97 + g) A).toNat) g A ∧ 0 ≤ u (90 + g) A ∧ u (90 + g) A ≤ ((n - g : Nat) : Int) * 166281984 ∧ 0 ≤ u (97 + g) A
theorem RW_c {cf H : Nat → Nat} {n c g A : Nat} {u u' : Wd} (h1 : u' (90 + g) A = u (90 + g) A) (h2 : u' (97 + g) A = u (97 + g) A) (h3 : u' (90 + (g + 1)) = u (90 + (g + 1))) (h : RW cf H n c u g A) : RW cf H n c u' g A := by
  unfold RW DPR at h ⊢
  simp only [h1, h2, h3] at h ⊢
  exact h
theorem isC_val {k : Nat} (hk : k < 6) (j : Nat) : isC (90 + k) j = false ∧ isM (90 + k) j = false := by
  rcases (by omega : k = 0 ∨ k = 1 ∨ k = 2 ∨ k = 3 ∨ k = 4 ∨ k = 5) with rfl | rfl | rfl | rfl | rfl | rfl
  all_goals exact ⟨rfl, rfl⟩
theorem isC_pik {k : Nat} (hk : k < 5) (j : Nat) : isC (97 + k) j = false ∧ isM (97 + k) j = false := by
  rcases (by omega : k = 0 ∨ k = 1 ∨ k = 2 ∨ k = 3 ∨ k = 4) with rfl | rfl | rfl | rfl | rfl
  all_goals exact ⟨rfl, rfl⟩
theorem shq_val {k : Nat} (hk : k < 6) : shq (90 + k) = .inl (0, 512) := by
  rcases (by omega : k = 0 ∨ k = 1 ∨ k = 2 ∨ k = 3 ∨ k = 4 ∨ k = 5) with rfl | rfl | rfl | rfl | rfl | rfl
  all_goals rfl
theorem ca_b {cf : Nat → Nat} {L : Nat} (h : ∀ g, cf g < 2 ^ L) (g : Nat) : caN cf g < 2 ^ L := by
  induction g with
  | zero => exact Nat.two_pow_pos L
  | succ g ih => exact Nat.or_lt_two_pow ih (h g)
/-- the night as the class keeps it -/
def nvN (n x : Nat) : Int := if x < n then (x : Int) else -9
theorem nv_n (n : Nat) : nvN n n = -9 := if_neg (Nat.lt_irrefl n)
theorem pla_n {k : Nat → Nat → Nat} {n l : Nat} : ∀ {g : Nat}, (∀ g', g' < g → (k g' (aheN k g')).testBit l = false) → plaN k n g l = n := by
  intro g
  induction g with
  | zero => intro _; rfl
  | succ g ih =>
    intro h
    rw [pla_s, h g (by omega), if_neg (by decide)]
    exact ih (fun g' hg => h g' (by omega))
section
variable {w κ τ : Wd}
theorem assign_c {k : Nat → Nat → Nat} {n L : Nat} (hn : n ≤ 5) (hL : L ≤ 9) (hk : ∀ g, g < n → w (97 + g) (aheN k g) = (k g (aheN k g) : Int) ∧ aheN k g < 512 ∧ k g (aheN k g) < 2 ^ L) {K : Wd → Prop} (hK : ∀ u, pc u = pc w → pm u = pm w → (∀ l, l < 9 → u 86 l = nvN n (plaN k n n l)) → K u) : Cal 2 143 [.inr (.inr 6), .inl (n : Int), .inl (L : Int)] w (rV K) := by
  have hp9 : 2 ^ L ≤ 2 ^ 9 := Nat.pow_le_pow_right (by decide) hL
  have key := Ev.inv (sc := none) (C := Cal 1) (cdk := cd 143) (Q := rV K) (N := n) (I := fun i t => ∃ v : Wd, t = (14, [some (.inr (.inr 6)), some (.inl (n : Int)), some (.inl (L : Int)), some (.inl (aheN k i : Int)), some (.inl (i : Int)), none, none], [], v) ∧ pc v = pc w ∧ pm v = pm w ∧ (∀ c, ¬ c = 86 → v c = w c) ∧ ∀ l, l < 9 → v 86 l = nvN n (plaN k n i l)) (fun i hi t ht h => ?_) (fun t ht => ?_) 0 (Nat.zero_le _)
  · refine en_143 ?_
    refine CalVE.to (fill_ok (a := 86) (n := 9) rfl (by decide)) (by decide) ?_
    refine key _ ⟨_, rfl, fil_msk (fun _ => rfl), fil_msk (fun _ => rfl), fun c hc => ?_, fun l hl => ?_⟩
    · funext j
      rw [fil_ap, if_neg (fun z => hc z.1)]
    · rw [fil_ap, if_pos ⟨rfl, by show l < 9; omega⟩]
      exact (nv_n n).symm
  · obtain ⟨v, rfl, vc, vm, vf, v86⟩ := ht
    refine bk_143_14 ?_
    obtain ⟨k1, k2, k3⟩ := hk i hi
    have hps := fun l => pla_s k n i l
    have has : aheN k (i + 1) = aheN k i ||| k i (aheN k i) := rfl
    rw [if_pos (by omega), tn]
    refine ⟨by omega, aR_pik (by omega) ⟨by omega, ?_⟩⟩
    rw [tn, vf (97 + i) (by omega), k1]
    generalize k i (aheN k i) = p at k3 hps has
    have key2 := Ev.inv (sc := none) (C := Cal 1) (cdk := cd 143) (Q := rV K) (N := L) (I := fun l t => ∃ o : Wd, t = (34, [some (.inr (.inr 6)), some (.inl (n : Int)), some (.inl (L : Int)), some (.inl (aheN k i : Int)), some (.inl (i : Int)), some (.inl (p : Int)), some (.inl (l : Int))], [], o) ∧ pc o = pc w ∧ pm o = pm w ∧ (∀ c, ¬ c = 86 → o c = w c) ∧ ∀ q, q < 9 → o 86 q = nvN n (if q < l then plaN k n (i + 1) q else plaN k n i q)) (fun l hl t ht h2 => ?_) (fun t ht => ?_) 0 (Nat.zero_le _)
    · refine key2 _ ⟨v, rfl, vc, vm, vf, fun q hq => ?_⟩
      rw [if_neg (Nat.not_lt_zero q)]
      exact v86 q hq
    · obtain ⟨o, rfl, oc, om, of, o86⟩ := ht
      refine bk_143_34 ?_
      rw [if_pos (by omega), wr_s (show l < 2000000 by omega), tn]
      refine ite_i (fun r => ?_) (fun r => ?_)
      · rw [bit_n (by omega) (by omega)] at r
        refine ⟨by omega, h2 _ ⟨_, rfl, ?_, ?_, fun c hc => ?_, fun q hq => ?_⟩⟩
        · rw [pc_out rfl]; exact oc
        · rw [pm_out rfl]; exact om
        · funext j
          rw [wst_ap, if_neg (fun z => hc z.1)]
          rw [of c hc]
        · rw [wst_ap]
          by_cases e : q = l
          · rw [if_pos ⟨rfl, e⟩, e, if_pos (show l < l + 1 by omega), hps, if_pos r]
            unfold nvN
            rw [if_pos hi]
          · rw [if_neg (fun z => e z.2), o86 q hq]
            by_cases f : q < l
            · rw [if_pos f, if_pos (show q < l + 1 by omega)]
            · rw [if_neg f, if_neg (show ¬ q < l + 1 by omega)]
      · rw [bit_n (by omega) (by omega)] at r
        refine h2 _ ⟨o, rfl, oc, om, of, fun q hq => ?_⟩
        rw [o86 q hq]
        by_cases e : q = l
        · rw [e, if_neg (show ¬ l < l by omega), if_pos (show l < l + 1 by omega), hps, if_neg r]
        · by_cases f : q < l
          · rw [if_pos f, if_pos (show q < l + 1 by omega)]
          · rw [if_neg f, if_neg (show ¬ q < l + 1 by omega)]
    · obtain ⟨o, rfl, oc, om, of, o86⟩ := ht
      refine bk_143_34 ?_
      rw [if_neg (by omega), wr_s (show i < 2000000 by omega), ior_n (by omega) (by omega), ← has]
      refine h _ ⟨o, rfl, oc, om, of, fun q hq => ?_⟩
      rw [o86 q hq]
      by_cases f : q < L
      · rw [if_pos f]
      · have : p.testBit q = false := Nat.testBit_lt_two_pow (Nat.lt_of_lt_of_le k3 (Nat.pow_le_pow_right (by decide) (by omega)))
        rw [if_neg f, hps, this, if_neg (by decide)]
  · obtain ⟨v, rfl, vc, vm, vf, v86⟩ := ht
    refine bk_143_14 ?_
    rw [if_neg (by omega)]
    exact hK v vc vm v86
theorem brought_c {pl : Nat → Nat} {n : Nat} (hn : n ≤ 5) (h86 : ∀ l, l < 9 → w 86 l = nvN n (pl l)) : Cal 1 144 [.inr (.inr 6)] w (rI fun y u => y = (brN pl n 9 : Int) ∧ u = w) := by
  generalize hQ : (rI fun y u => y = (brN pl n 9 : Int) ∧ u = w) = Q
  have key := Ev.count (sc := none) (C := Cal 0) (cdk := cd 144) (Q := Q) (N := 9) (S := fun i => (4, [some (.inr (.inr 6)), some (.inl (brN pl n i : Int)), some (.inl (i : Int))], [], w)) (fun i hi h => ?_) ?_ 0 (Nat.zero_le _)
  · exact en_144 key
  · refine bk_144_4 ?_
    have hs := brn_s pl n i
    have hb := brn_b pl n i
    rw [if_pos (by omega), tn, h86 i hi, wr_s (show i < 2000000 by omega), wr_s (show brN pl n i < 2000000 by omega)]
    refine ⟨by omega, ?_⟩
    unfold nvN
    by_cases q : pl i < n
    · rw [if_pos q] at hs ⊢
      rw [if_neg (by omega), ← hs]
      exact h
    · rw [if_neg q] at hs
      rw [if_neg q, if_pos rfl]
      have hs2 : brN pl n (i + 1) = brN pl n i := by omega
      rw [hs2] at h
      exact h
  · refine bk_144_4 ?_
    rw [if_neg (by omega), ← hQ]
    exact ⟨rfl, rfl⟩
theorem make_c (hc : pc w = κ) (hm : pm w = τ) (hE : EQ κ τ) (hR : RNG τ) {n c : Nat} (hn : 1 ≤ n ∧ n ≤ 5) {K : Wd → Prop} (hK : ∀ u pl, pc u = κ → pm u = τ → OPT (crB τ) (HgN τ) n c (nL τ) pl → (∀ l, l < 9 → u 86 l = nvN n (pl l)) → (∀ l, nL τ ≤ l → pl l = n) → K u) : Cal 3 139 [.inr (.inr 6), .inl (n : Int), .inl (c : Int), .inr (.inr 0), .inr (.inr 1), .inr (.inr 2)] w (rV K) := by
  have hL9 := nL_9 hR
  have hLe := hL9.2
  have hL := hL9.1
  have hcar := fun (u : Wd) (g : Nat) (uc : pc u = κ) (hg : g < 5) => carriedAlone_c uc hE hR hg
  have hpr := fun {K : Wd → Prop} (hK : ∀ u, pc u = κ → pm u = τ → PRE (HgN τ) u (2 ^ nL τ) → K u) => prepare_c hc hm hE hR hK
  generalize nL τ = L at hK hLe hL hcar hpr
  have hp9 : 2 ^ L ≤ 2 ^ 9 := Nat.pow_le_pow_right (by decide) hL
  have hcb : ∀ g, stP (fun l => crB τ l g) L < 2 ^ L := fun g => (stP_b _ L).1
  have hct : ∀ g i, (stP (fun l => crB τ l g) L).testBit i = (decide (i < L) && crB τ i g) := fun g i => (stP_b _ L).2 i
  have hHb : ∀ i o, (HgN τ i).testBit o = true → o < i := by
    intro i o ho
    apply Nat.lt_of_not_le
    intro z
    rw [Nat.testBit_lt_two_pow (Nat.lt_of_lt_of_le (Hg_b hR i).2 (Nat.pow_le_pow_right (by decide) z))] at ho
    exact absurd ho (by decide)
  generalize hcf : (fun g => stP (fun l => crB τ l g) L) = cf
  have hcfe : ∀ g, stP (fun l => crB τ l g) L = cf g := fun g => by rw [← hcf]
  simp only [hcfe] at hcb hct hcar
  have hcab := ca_b hcb
  generalize HgN τ = H at hK hpr hHb
  generalize hcr : crB τ = cr at hK hct
  have e4 : ∀ u : Wd, pc u = κ → u 0 4 = (L : Int) := fun u uc => ((r0_4 uc).trans hE.Bill_size).trans hLe
  -- the end
  have fin : ∀ u : Wd, pc u = κ → pm u = τ → (∀ A, A < 512 → u (90 + n) A = 0) → (∀ g, g < n → ∀ A, A < 512 → SUB A (caN cf g) → RW cf H n c u g A) → Cal 2 143 [.inr (.inr 6), .inl (n : Int), .inl (L : Int)] u (rV K) := by
    intro u uc um u0 hRW
    have hd : ∀ g, g < n → ∀ A, A < 512 → SUB A (caN cf g) → DPR cf H n c (fun g A => (u (90 + g) A).toNat) (fun g A => (u (97 + g) A).toNat) g A := fun g hg A hA hs => (hRW g hg A hA hs).1
    have hv : ∀ A, A < 512 → (u (90 + n) A).toNat = 0 := fun A hA => by rw [u0 A hA]; rfl
    have hcf9 : ∀ g, g < n → cf g < 512 := fun g _ => by have := hcb g; omega
    have hopt := dp_opt (cf := cf) (H := H) (cr := cr) (n := n) (c := c) (L := L) hL hn.2 (fun g _ i => hct g i) hcf9 hHb hd hv
    have hah := ahe_ok (cf := cf) (H := H) (n := n) (c := c) hcf9 hd
    have hkk : ∀ g A, (fun g A => (u (97 + g) A).toNat) g A = (u (97 + g) A).toNat := fun g A => rfl
    generalize (fun g A => (u (97 + g) A).toNat) = k at hd hopt hah hkk
    have hkL : ∀ g, g < n → k g (aheN k g) < 2 ^ L := by
      intro g hg
      obtain ⟨a1, a2, _⟩ := hah g (by omega)
      have hf := (hd g hg _ a1 a2).1
      have := sub_le (s := k g (aheN k g)) (o := cf g) (fun i hi => (hf.1 i hi).1)
      have := hcb g
      omega
    refine assign_c hn.2 hL (k := k) (fun g hg => ?_) (fun v vc vm v86 => ?_)
    · obtain ⟨a1, a2, _⟩ := hah g (by omega)
      refine ⟨?_, a1, hkL g hg⟩
      have := (hRW g hg _ a1 a2).2.2.2
      rw [hkk]
      omega
    · refine hK v (plaN k n n) (vc.trans uc) (vm.trans um) hopt v86 (fun l hl => pla_n (fun g hg => ?_))
      exact Nat.testBit_lt_two_pow (Nat.lt_of_lt_of_le (hkL g hg) (Nat.pow_le_pow_right (by decide) hl))
  -- the nights from the last
  have nights : ∀ o : Wd, pc o = κ → pm o = τ → PRE H o (2 ^ L) → (∀ g, g < n → o 87 g = (cf g : Int) ∧ o 88 g = (caN cf g : Int)) → (∀ A, A < 512 → o (90 + n) A = 0) → Ev none (Cal 2) (cd 139) (rV K) (79, [some (.inr (.inr 6)), some (.inl (n : Int)), some (.inl (c : Int)), some (.inr (.inr 0)), none, none, none, some (.inl ((n : Int) - 1)), none], [], o) := by
    intro o oc om oP o87 o0
    have key := Ev.inv (sc := none) (C := Cal 2) (cdk := cd 139) (Q := rV K) (N := n) (I := fun m t => ∃ u : Wd, t = (79, [some (.inr (.inr 6)), some (.inl (n : Int)), some (.inl (c : Int)), some (.inr (.inr 0)), none, none, none, some (.inl ((n : Int) - 1 - m)), none], [], u) ∧ pc u = κ ∧ pm u = τ ∧ (∀ a, a < 90 ∨ 101 < a → u a = o a) ∧ (∀ A, A < 512 → u (90 + n) A = 0) ∧ (∀ g, n - m ≤ g → g < n → ∀ A, A < 512 → SUB A (caN cf g) → RW cf H n c u g A)) (fun m hm t ht h => ?_) (fun t ht => ?_) 0 (Nat.zero_le _)
    · refine key _ ⟨o, by rw [show (n : Int) - 1 - ((0 : Nat) : Int) = (n : Int) - 1 by omega], oc, om, fun _ _ => rfl, o0, fun g hg hgn => by omega⟩
    · obtain ⟨u, rfl, uc, um, uf, u0, uR⟩ := ht
      obtain ⟨g, hg⟩ : ∃ g : Nat, g + m + 1 = n := ⟨n - m - 1, by omega⟩
      have eg : (n : Int) - 1 - m = (g : Int) := by omega
      rw [eg]
      refine bk_139_79 ?_
      rw [if_neg (by omega)]
      have key2 := Ev.inv (sc := none) (C := Cal 2) (cdk := cd 139) (Q := rV K) (N := caN cf g + 1) (I := fun A t => ∃ v : Wd, t = (87, [some (.inr (.inr 6)), some (.inl (n : Int)), some (.inl (c : Int)), some (.inr (.inr 0)), none, none, none, some (.inl (g : Int)), some (.inl (A : Int))], [], v) ∧ pc v = κ ∧ pm v = τ ∧ (∀ a, a < 90 ∨ 101 < a → v a = o a) ∧ (∀ A, A < 512 → v (90 + n) A = 0) ∧ (∀ g', n - m ≤ g' → g' < n → ∀ A, A < 512 → SUB A (caN cf g') → RW cf H n c v g' A) ∧ ∀ B, B < A → SUB B (caN cf g) → RW cf H n c v g B) (fun A hA t ht h2 => ?_) (fun t ht => ?_) 0 (Nat.zero_le _)
      · exact key2 _ ⟨u, rfl, uc, um, uf, u0, uR, fun B hB => absurd hB (Nat.not_lt_zero B)⟩
      · obtain ⟨v, rfl, vc, vm, vf, v0, vR, vB⟩ := ht
        refine bk_139_87 ?_
        have hcg := hcab g
        have hcb2 := hcb g
        have e87 : v 87 g = (cf g : Int) := by rw [vf 87 (by omega)]; exact (o87 g (by omega)).1
        have e88 : v 88 g = (caN cf g : Int) := by rw [vf 88 (by omega)]; exact (o87 g (by omega)).2
        rw [tn, e87, e88, if_neg (by omega), nand_n (by omega) (by omega), nand_n (by omega) (by omega), wr_s (show A < 2000000 by omega), wr_id (x := (n : Int) - g) (by omega) (by omega)]
        refine ⟨by omega, by omega, ite_i (fun q => ⟨by omega, ?_⟩) (fun q => ?_)⟩
        · have q0 : nd A (caN cf g) = 0 := by omega
          rw [nd_0 (by omega)] at q0
          have hsA : SUB A (caN cf g) := q0
          have hVV : ∀ s, SUB s (nd (cf g) A) → v (90 + (g + 1)) (A ||| s) = ((v (90 + (g + 1)) (A ||| s)).toNat : Int) ∧ (v (90 + (g + 1)) (A ||| s)).toNat ≤ (n - (g + 1)) * 166281984 := by
            intro s hs
            have hsc : SUB s (cf g) := fun i hi => by
              have := hs i hi
              rw [nd_t (by omega), Bool.and_eq_true] at this
              exact this.1
            have hs9 := sub_le hsc
            have hAs : A ||| s < 512 := Nat.or_lt_two_pow (n := 9) (by omega) (by omega)
            by_cases e : g + 1 = n
            · rw [e, v0 _ hAs]
              exact ⟨rfl, by omega⟩
            · have := vR (g + 1) (by omega) (by omega) (A ||| s) hAs (fun i hi => by
                rw [Nat.testBit_or, Bool.or_eq_true] at hi
                show (caN cf g ||| cf g).testBit i = true
                rw [Nat.testBit_or, Bool.or_eq_true]
                rcases hi with hi | hi
                · exact Or.inl (hsA i hi)
                · exact Or.inr (hsc i hi))
              have h1 := this.2.1
              have h2 := this.2.2.1
              exact ⟨by omega, by omega⟩
          have hvP : PRE H v (2 ^ L) := fun s hs => by
            have := oP s hs
            rw [← vf 102 (by omega), ← vf 103 (by omega)] at this
            exact this
          refine CalV.to (pick_c (K := fun x => Ev none (Cal 2) (cd 139) (rV K) (87, [some (.inr (.inr 6)), some (.inl (n : Int)), some (.inl (c : Int)), some (.inr (.inr 0)), none, none, none, some (.inl (g : Int)), some (.inl ((A + 1 : Nat) : Int))], [], x)) (H := H) (cf := cf) (V := fun B => (v (90 + (g + 1)) B).toNat) hL hvP (by omega) hn.2 hcb2 (by omega) (fun s hs => ⟨(hVV s hs).1, by have := (hVV s hs).2; omega⟩) (fun b p hp hb hbest => ?_)) (by decide) (fun _ z => z)
          have hpn : SUB p (nd (cf g) A) := FEA_sub (by omega) hp
          have hpv := (hVV p hpn).2
          have hsv := sv_b (n := n) (g := g) hn.2 p
          have eb : ∀ a B, a ≠ 90 + g → a ≠ 97 + g → wst (wst v (90 + g) A (b : Int)) (97 + g) A (p : Int) a B = v a B := by
            intro a B h1 h2
            rw [wst_ap, if_neg (fun z => h2 z.1), wst_ap, if_neg (fun z => h1 z.1)]
          have eb2 : ∀ a B, B ≠ A → wst (wst v (90 + g) A (b : Int)) (97 + g) A (p : Int) a B = v a B := by
            intro a B h1
            rw [wst_ap, if_neg (fun z => h1 z.2), wst_ap, if_neg (fun z => h1 z.2)]
          have ebA : wst (wst v (90 + g) A (b : Int)) (97 + g) A (p : Int) (90 + g) A = (b : Int) := by
            rw [wst_ap, if_neg (by omega), wst_ap, if_pos ⟨rfl, rfl⟩]
          have ekA : wst (wst v (90 + g) A (b : Int)) (97 + g) A (p : Int) (97 + g) A = (p : Int) := by
            rw [wst_ap, if_pos ⟨rfl, rfl⟩]
          have er : wst (wst v (90 + g) A (b : Int)) (97 + g) A (p : Int) (90 + (g + 1)) = v (90 + (g + 1)) := by
            funext B
            exact eb _ B (by omega) (by omega)
          refine h2 _ ⟨_, rfl, ?_, ?_, fun a ha => ?_, fun B hB => ?_, fun g' h1 h3 B hB hBs => ?_, fun B hB hBs => ?_⟩
          · rw [pc_out (isC_pik (by omega) _).1, pc_out (isC_val (by omega) _).1]; exact vc
          · rw [pm_out (isC_pik (by omega) _).2, pm_out (isC_val (by omega) _).2]; exact vm
          · funext B
            rw [eb a B (by omega) (by omega), vf a ha]
          · rw [eb _ B (by omega) (by omega)]
            exact v0 B hB
          · refine RW_c (eb _ B (by omega) (by omega)) (eb _ B (by omega) (by omega)) ?_ (vR g' h1 h3 B hB hBs)
            funext C
            exact eb _ C (by omega) (by omega)
          · by_cases e : B = A
            · subst e
              unfold RW DPR
              simp only [ebA, ekA, er]
              have et : ((p : Int)).toNat = p := by omega
              have et2 : ((b : Int)).toNat = b := by omega
              rw [et, et2]
              refine ⟨⟨hp, hb, hbest⟩, by omega, ?_, by omega⟩
              have : n - g = n - (g + 1) + 1 := by omega
              rw [this]
              omega
            · exact RW_c (eb2 _ B e) (eb2 _ B e) er (vB B (by omega) hBs)
        · refine h2 _ ⟨v, rfl, vc, vm, vf, v0, vR, fun B hB hBs => ?_⟩
          by_cases e : B = A
          · exfalso
            rw [e] at hBs
            apply q
            have : nd A (caN cf g) = 0 := (nd_0 (by omega)).2 hBs
            omega
          · exact vB B (by omega) hBs
      · obtain ⟨v, rfl, vc, vm, vf, v0, vR, vB⟩ := ht
        refine bk_139_87 ?_
        have e88 : v 88 g = (caN cf g : Int) := by rw [vf 88 (by omega)]; exact (o87 g (by omega)).2
        rw [tn, e88, if_pos (by omega), wr_id (x := (g : Int) + (-1)) (by omega) (by omega), show (g : Int) + (-1) = (n : Int) - 1 - ((m + 1 : Nat) : Int) by omega]
        refine ⟨by omega, h _ ⟨v, rfl, vc, vm, vf, v0, fun g' h1 h3 A hA hAs => ?_⟩⟩
        by_cases e : g' = g
        · rw [e] at hAs ⊢
          have := sub_le hAs
          exact vB A (by omega) hAs
        · exact vR g' (by omega) h3 A hA hAs
    · obtain ⟨u, rfl, uc, um, uf, u0, uR⟩ := ht
      refine bk_139_79 ?_
      rw [if_pos (by omega), e4 u uc]
      exact CalV.to (fin u uc um u0 (fun g hg => uR g (by omega) hg)) (by decide) (fun _ z => z)
  refine en_139 ?_
  refine CalV.to (hpr (K := fun w1 => Ev none (Cal 2) (cd 139) (rV K) (11, [some (.inr (.inr 6)), some (.inl (n : Int)), some (.inl (c : Int)), some (.inr (.inr 0)), some (.inr (.inr 1)), some (.inr (.inr 2)), some (.inl 0), some (.inl 0), none], [], w1)) (fun o oc om oP => ?_)) (by decide) (fun _ z => z)
  have key := Ev.inv (sc := none) (C := Cal 2) (cdk := cd 139) (Q := rV K) (N := n) (I := fun i t => ∃ v : Wd, t = (11, [some (.inr (.inr 6)), some (.inl (n : Int)), some (.inl (c : Int)), some (.inr (.inr 0)), some (.inr (.inr 1)), some (.inr (.inr 2)), some (.inl (caN cf i : Int)), some (.inl (i : Int)), none], [], v) ∧ pc v = κ ∧ pm v = τ ∧ PRE H v (2 ^ L) ∧ ∀ g, g < i → v 87 g = (cf g : Int) ∧ v 88 g = (caN cf g : Int)) (fun i hi t ht h => ?_) (fun t ht => ?_) 0 (Nat.zero_le _)
  · exact key _ ⟨o, rfl, oc, om, oP, fun g hg => absurd hg (Nat.not_lt_zero g)⟩
  · obtain ⟨v, rfl, vc, vm, vP, v87⟩ := ht
    refine bk_139_11 ?_
    have hcb2 := hcb i
    have hcg := hcab i
    rw [if_pos (by omega), e4 v vc]
    refine CalE.to (hcar v i vc (by omega)) (by decide) ?_
    have e1 : wst (wst v 87 i (cf i : Int)) 88 i (caN cf i : Int) 87 i = (cf i : Int) := by
      rw [wst_ap, if_neg (fun z => absurd z.1 (by decide)), wst_ap, if_pos ⟨rfl, rfl⟩]
    rw [tn, e1, ior_n (by omega) (by omega), wr_s (show i < 2000000 by omega)]
    refine ⟨by omega, by omega, by omega, h _ ⟨_, rfl, ?_, ?_, fun s hs => vP s hs, fun g hg => ?_⟩⟩
    · rw [pc_out rfl, pc_out rfl]; exact vc
    · rw [pm_out rfl, pm_out rfl]; exact vm
    · rw [wst_ap, if_neg (fun z => absurd z.1 (by decide)), wst_ap, wst_ap]
      by_cases e : g = i
      · rw [if_pos ⟨rfl, e⟩, if_pos ⟨rfl, e⟩, e]
        exact ⟨rfl, rfl⟩
      · rw [if_neg (fun z => e z.2), if_neg (fun z => e z.2), wst_ap, if_neg (fun z => e z.2)]
        exact v87 g (by omega)
  · obtain ⟨v, rfl, vc, vm, vP, v87⟩ := ht
    refine bk_139_11 ?_
    rw [if_neg (by omega), tn, wr_id (x := (n : Int) - 1) (by omega) (by omega)]
    refine ⟨by omega, CalVE.to (fill_ok (shq_val (by omega)) (by decide)) (by decide) ?_⟩
    refine nights _ ?_ ?_ (fun s hs => ?_) (fun g hg => ?_) (fun A hA => ?_)
    · exact (fil_msk (fun j => (isC_val (by omega) j).1)).trans vc
    · exact (fil_msk (fun j => (isC_val (by omega) j).2)).trans vm
    · rw [fil_ap, if_neg (by omega), fil_ap, if_neg (by omega)]
      exact vP s hs
    · rw [fil_ap, if_neg (by omega), fil_ap, if_neg (by omega)]
      exact v87 g hg
    · rw [fil_ap, if_pos ⟨rfl, hA⟩]
end
