/-! the reference searches the plans of nights -/
section
variable {w κ τ κ0 : Wd} {n c L : Nat} {cr : Nat → Nat → Bool} {K : Int → Wd → Prop}
def HgN (τ : Wd) (l : Nat) : Nat := (τ 186 l).toNat
theorem Hg_b {τ : Wd} (hR : RNG τ) (l : Nat) : τ 186 l = (HgN τ l : Int) ∧ HgN τ l < 2 ^ l := by
  have := hR.M_lHangs l
  unfold HgN
  have e : ((2 ^ l : Nat) : Int) = (2 : Int) ^ l := by rw [Int.natCast_pow]; rfl
  omega
def NSB (κ0 τ : Wd) (n L : Nat) (cr : Nat → Nat → Bool) (u : Wd) : Prop := pc u = κ0 ∧ pm u = τ ∧ (∀ l g, l < L → g < n → u 198 (5 * l + g) = bI (cr l g)) ∧ ∀ i, i ≤ L → u 203 i = (couN cr n L (L - i) : Int)
def NS0 (κ0 τ : Wd) (n L : Nat) (cr : Nat → Nat → Bool) (u : Wd) (l : Nat) (p : Nat → Nat) (b : Int) (bn : Nat → Nat) : Prop := NSB κ0 τ n L cr u ∧ (∀ i, i < l → u 199 i = (p i : Int)) ∧ (∀ i, i ≤ l → u 201 i = (brN p n i : Int)) ∧ (∀ g, g ≤ n → u 202 g = (cgN p g l : Int)) ∧ (0 ≤ b → ∀ i, i < L → u 200 i = (bn i : Int))
def NST (κ0 τ : Wd) (n L : Nat) (cr : Nat → Nat → Bool) (u : Wd) (l : Nat) (p : Nat → Nat) (v b : Int) (bn : Nat → Nat) : Prop := NSB κ0 τ n L cr u ∧ (∀ i, i < l → u 199 i = (p i : Int)) ∧ (∀ i, i ≤ l → u 201 i = (brN p n i : Int)) ∧ (∀ g : Nat, g ≤ n → u 202 g = (cgN p g l : Int) + (if v = (g : Int) then 1 else 0)) ∧ (0 ≤ b → ∀ i, i < L → u 200 i = (bn i : Int)) ∧ u 199 l = v
def REG (L l : Nat) (p : Nat → Nat) (v : Int) (x : Nat → Nat) : Prop := (∀ i, i < l → x i = p i) ∧ (l < L → v < (x l : Int))
def IVB (cr : Nat → Nat → Bool) (H : Nat → Nat) (n c L : Nat) (b : Int) (bn : Nat → Nat) : Prop := b = -1 ∨ (VLN cr H n c bn L ∧ b = (brN bn n L : Int))
def LBE (L l : Nat) (p : Nat → Nat) (v b : Int) (bn : Nat → Nat) : Prop := 0 ≤ b → ∀ x, REG L l p v x → LEX L bn x
def PST (cr : Nat → Nat → Bool) (H : Nat → Nat) (n c L l : Nat) (p : Nat → Nat) (v b : Int) (bn : Nat → Nat) (b' : Int) (bn' : Nat → Nat) : Prop := IVB cr H n c L b' bn' ∧ (b' = b ∧ bn' = bn ∨ REG L l p v bn') ∧ (∀ x, VLN cr H n c x L → REG L l p v x → 0 ≤ b' ∧ VAL n L x ≤ VAL n L bn') ∧ (0 ≤ b → 0 ≤ b' ∧ VAL n L bn ≤ VAL n L bn')
def HNN (K : Int → Wd → Prop) (n c : Nat) (b l : Int) (u : Wd) : Prop := Ev none (Cal 3) (cd 237) (rI K) (185, [some (.inr (.inr 12)), some (.inl (n : Int)), some (.inl (c : Int)), some (.inl b), some (.inl l), none, none, none], [], u)
theorem mayBe_c (hm : pm w = τ) (hR : RNG τ) (hn : n ≤ 5) (hL : L ≤ 9) {l y : Nat} (hl : l < L) (hy : y ≤ n) {p : Nat → Nat} (h198 : ∀ l g, l < L → g < n → w 198 (5 * l + g) = bI (cr l g)) (h199 : ∀ i, i < l → w 199 i = (p i : Int)) (h202 : w 202 y = (cgN p y l : Int)) : Cal 1 239 [.inr (.inr 12), .inl (l : Int), .inl (y : Int), .inl (n : Int), .inl (c : Int)] w (rI fun r u => ((r = 0 ∧ ¬ MBN cr (HgN τ) n c p l y) ∨ (r = 1 ∧ MBN cr (HgN τ) n c p l y)) ∧ u = w) := by
  generalize hQ : (rI fun r u => ((r = 0 ∧ ¬ MBN cr (HgN τ) n c p l y) ∨ (r = 1 ∧ MBN cr (HgN τ) n c p l y)) ∧ u = w) = Q
  have hH := Hg_b hR l
  have hp9 : 2 ^ l ≤ 2 ^ 8 := Nat.pow_le_pow_right (by decide) (by omega)
  refine en_239 ?_
  refine ite_i (fun q => ?_) (fun q => ?_)
  · rw [← hQ]
    exact ⟨by decide, Or.inr ⟨rfl, Or.inl (by omega)⟩, rfl⟩
  · have key := Ev.inv (sc := none) (C := Cal 0) (cdk := cd 239) (Q := Q) (N := l) (I := fun i t => ∃ m : Bool, t = (41, [some (.inr (.inr 12)), some (.inl (l : Int)), some (.inl (y : Int)), none, none, some (.inl (bI m)), some (.inl (i : Int))], [], w) ∧ (m = true → cr l y = true ∧ cgN p y l < c ∧ ∀ o, o < i → (HgN τ l).testBit o = true → p o ≤ y) ∧ (m = false → ¬ MBN cr (HgN τ) n c p l y)) (fun i hi t ht h => ?_) (fun t ht => ?_) 0 (Nat.zero_le _)
    · rw [wr_id (x := 5 * (l : Int)) (by omega) (by omega), wr_id (x := 5 * (l : Int) + (y : Int)) (by omega) (by omega), show 5 * (l : Int) + (y : Int) = ((5 * l + y : Nat) : Int) by omega, tn, tn, h198 l y hl (by omega), h202]
      refine ⟨by omega, ?_⟩
      cases hcr : cr l y
      · rw [if_pos (show bI false = 0 from rfl)]
        refine key _ ⟨false, rfl, fun z => absurd z (by decide), fun _ z => ?_⟩
        rcases z with z | ⟨z, _⟩
        · omega
        · rw [hcr] at z
          exact absurd z (by decide)
      · rw [if_neg (show ¬ bI true = 0 by decide)]
        refine ⟨by omega, ite_i (fun r => ?_) (fun r => ?_)⟩
        · exact key _ ⟨true, rfl, fun _ => ⟨hcr, by omega, fun o ho => absurd ho (Nat.not_lt_zero o)⟩, fun z => absurd z (by decide)⟩
        · refine key _ ⟨false, rfl, fun z => absurd z (by decide), fun _ z => ?_⟩
          rcases z with z | ⟨_, z, _⟩
          · omega
          · omega
    · obtain ⟨m, rfl, h1, h0⟩ := ht
      refine bk_239_41 ?_
      have e186 : w 186 l = (HgN τ l : Int) := (r186 hm l).trans hH.1
      rw [if_pos (by omega), tn, e186, tn, h199 i hi, wr_s (show i < 2000000 by omega)]
      cases m
      · rw [if_pos (show bI false = 0 from rfl)]
        exact h _ ⟨false, rfl, fun z => absurd z (by decide), h0⟩
      · rw [if_neg (show ¬ bI true = 0 by decide)]
        obtain ⟨g1, g2, g3⟩ := h1 rfl
        refine ⟨by omega, ite_i (fun r => ?_) (fun r => ⟨by omega, ite_i (fun r2 => ?_) (fun r2 => ?_)⟩)⟩
        · rw [bit_0 (by omega) (by omega)] at r
          refine h _ ⟨true, rfl, fun _ => ⟨g1, g2, fun o ho hb => ?_⟩, fun z => absurd z (by decide)⟩
          by_cases e : o = i
          · rw [e, r] at hb
            exact absurd hb (by decide)
          · exact g3 o (by omega) hb
        · rw [bit_0 (by omega) (by omega), Bool.not_eq_false] at r
          refine h _ ⟨false, rfl, fun z => absurd z (by decide), fun _ z => ?_⟩
          rcases z with z | ⟨_, _, z⟩
          · omega
          · have := z i hi r
            omega
        · refine h _ ⟨true, rfl, fun _ => ⟨g1, g2, fun o ho hb => ?_⟩, fun z => absurd z (by decide)⟩
          by_cases e : o = i
          · rw [e]; omega
          · exact g3 o (by omega) hb
    · obtain ⟨m, rfl, h1, h0⟩ := ht
      refine bk_239_41 ?_
      rw [if_neg (by omega), ← hQ]
      cases m
      · exact ⟨by decide, Or.inl ⟨rfl, h0 rfl⟩, rfl⟩
      · exact ⟨by decide, Or.inr ⟨rfl, Or.inr (h1 rfl)⟩, rfl⟩
theorem NSB.st {u : Wd} (h : NSB κ0 τ n L cr u) {c i : Nat} {x : Int} (hc : c = 199 ∨ c = 200 ∨ c = 201 ∨ c = 202) : NSB κ0 τ n L cr (wst u c i x) := by
  obtain ⟨h1, h2, h3, h4⟩ := h
  refine ⟨?_, ?_, fun l g hl hg => ?_, fun i' hi => ?_⟩
  · rcases hc with rfl | rfl | rfl | rfl
    all_goals (rw [pc_out rfl]; exact h1)
  · rcases hc with rfl | rfl | rfl | rfl
    all_goals (rw [pm_out rfl]; exact h2)
  · rw [wst_ap, if_neg (by omega)]
    exact h3 l g hl hg
  · rw [wst_ap, if_neg (by omega)]
    exact h4 i' hi
/-- the last level: a whole plan -/
theorem dfs_L (hR : RNG τ) (hLe : τ 12 61 = (L : Int)) (hL : L ≤ 9) (hn : n ≤ 5) {p bn : Nat → Nat} {b v : Int} {u : Wd} (hu : NS0 κ0 τ n L cr u L p b bn) (hp : VLN cr (HgN τ) n c p L) (hb : b < (brN p n L : Int)) (hI : IVB cr (HgN τ) n c L b bn) (hK : ∀ u' b' bn', NS0 κ0 τ n L cr u' L p b' bn' → PST cr (HgN τ) n c L L p v b bn b' bn' → HNN K n c b' ((L : Int) - 1) u') : HNN K n c b (L : Int) u := by
  obtain ⟨hB, h199, h201, h202, h200⟩ := hu
  refine bk_237_185 ?_
  have um := hB.2.1
  have e61 : u 12 61 = (L : Int) := (r12_61 um).trans hLe
  rw [if_neg (by omega), e61, if_pos rfl, tn, h201 L (Nat.le_refl _)]
  refine ⟨by omega, ?_⟩
  have key := Ev.inv (sc := none) (C := Cal 3) (cdk := cd 237) (Q := rI K) (N := L) (I := fun i t => ∃ o : Wd, t = (210, [some (.inr (.inr 12)), some (.inl (n : Int)), some (.inl (c : Int)), some (.inl (brN p n L : Int)), some (.inl (L : Int)), some (.inl (i : Int)), none, none], [], o) ∧ NSB κ0 τ n L cr o ∧ o 199 = u 199 ∧ o 201 = u 201 ∧ o 202 = u 202 ∧ ∀ q, q < i → o 200 q = (p q : Int)) (fun i hi t ht h => ?_) (fun t ht => ?_) 0 (Nat.zero_le _)
  · exact key _ ⟨u, rfl, hB, rfl, rfl, rfl, fun q hq => absurd hq (Nat.not_lt_zero q)⟩
  · obtain ⟨o, rfl, oB, o199, o201, o202, o200⟩ := ht
    refine bk_237_210 ?_
    have om := oB.2.1
    have f61 : o 12 61 = (L : Int) := (r12_61 om).trans hLe
    have f199 : o 199 i = (p i : Int) := by rw [o199]; exact h199 i hi
    rw [f61, if_pos (by omega), tn, f199, wr_s (show i < 2000000 by omega)]
    refine ⟨by omega, by omega, h _ ⟨_, rfl, oB.st (by omega), o199, o201, o202, fun q hq => ?_⟩⟩
    rw [wst_ap]
    by_cases e : q = i
    · rw [if_pos ⟨rfl, e⟩, e]
    · rw [if_neg (fun z => e z.2)]
      exact o200 q (by omega)
  · obtain ⟨o, rfl, oB, o199, o201, o202, o200⟩ := ht
    refine bk_237_210 ?_
    have om := oB.2.1
    have f61 : o 12 61 = (L : Int) := (r12_61 om).trans hLe
    rw [f61, if_neg (by omega), wr_id (x := (L : Int) + (-1)) (by omega) (by omega), show (L : Int) + (-1) = (L : Int) - 1 by omega]
    refine hK o (brN p n L : Int) p ⟨oB, fun i hi => by rw [o199]; exact h199 i hi, fun i hi => by rw [o201]; exact h201 i hi, fun g hg => by rw [o202]; exact h202 g hg, fun _ => o200⟩ ⟨Or.inr ⟨hp, rfl⟩, Or.inr ⟨fun _ _ => rfl, fun z => by omega⟩, fun x hx hr => ⟨by omega, ?_⟩, fun hb0 => ⟨by omega, ?_⟩⟩
    · have e1 : brN x n L = brN p n L := brn_c hr.1 n
      have e2 : hrN x n L = hrN p n L := hr_c hr.1 n
      unfold VAL
      rw [e1, e2]
      exact Nat.le_refl _
    · rcases hI with hI | ⟨_, hI⟩
      · omega
      · exact VAL_br hn hL (by omega)
theorem dfs (hR : RNG τ) (hLe : τ 12 61 = (L : Int)) (hL : L ≤ 9) (hn : 1 ≤ n ∧ n ≤ 5) (hc9 : c ≤ 9) : ∀ k l, l + k = L → ∀ (p : Nat → Nat), VLN cr (HgN τ) n c p l → ∀ m, m ≤ n + 1 → ∀ (b : Int) (bn : Nat → Nat) (u : Wd), (l < L → NST κ0 τ n L cr u l p ((n : Int) - m) b bn) → (l = L → NS0 κ0 τ n L cr u l p b bn ∧ b < (brN p n L : Int)) → IVB cr (HgN τ) n c L b bn → LBE L l p ((n : Int) - m) b bn → (∀ u' b' bn', NS0 κ0 τ n L cr u' l p b' bn' → PST cr (HgN τ) n c L l p ((n : Int) - m) b bn b' bn' → HNN K n c b' ((l : Int) - 1) u') → HNN K n c b (l : Int) u := by
  intro k
  induction k with
  | zero =>
    intro l hl p hp m hm b bn u hu hu2 hI hLB hK
    obtain rfl : l = L := by omega
    exact dfs_L hR hLe hL hn.2 (hu2 rfl).1 hp (hu2 rfl).2 hI hK
  | succ k ihk =>
    intro l hl p hp m
    have hlL : l < L := by omega
    induction m using Nat.strongRecOn with
    | _ m ihm =>
      intro hm b bn u hu _ hI hLB hK
      obtain ⟨hB, h199, h201, h202, h200, hv⟩ := hu hlL
      have um := hB.2.1
      have e61 : u 12 61 = (L : Int) := (r12_61 um).trans hLe
      have hbi : -1 ≤ b := by
        rcases hI with h | ⟨_, h⟩
        · omega
        · omega
      -- behind the night y of this line
      have cont : ∀ (j y : Nat), j < m → y + j = n → (∀ y' : Nat, (n : Int) - m < (y' : Int) → y' < y → ¬ MBN cr (HgN τ) n c p l y') → ∀ (b1 : Int) (bn1 : Nat → Nat) (o : Wd), NST κ0 τ n L cr o l p (y : Int) b1 bn1 → IVB cr (HgN τ) n c L b1 bn1 → (b1 = b ∧ bn1 = bn ∨ REG L l p ((n : Int) - m) bn1) → (∀ x, VLN cr (HgN τ) n c x L → REG L l p ((n : Int) - m) x → x l = y → 0 ≤ b1 ∧ VAL n L x ≤ VAL n L bn1) → (0 ≤ b → 0 ≤ b1 ∧ VAL n L bn ≤ VAL n L bn1) → LBE L l p (y : Int) b1 bn1 → HNN K n c b1 (l : Int) o := by
        intro j y hjm hyj hno b1 bn1 o ho hI1 hsm hx1 hb1 hLB1
        have ey : (n : Int) - j = (y : Int) := by omega
        refine ihm j hjm (by omega) b1 bn1 o (fun _ => by rw [ey]; exact ho) (fun z => by omega) hI1 (by rw [ey]; exact hLB1) (fun u' b' bn' hu' hP => ?_)
        rw [ey] at hP
        obtain ⟨p1, p2, p3, p4⟩ := hP
        refine hK u' b' bn' hu' ⟨p1, ?_, fun x hx hr => ?_, fun hb => ?_⟩
        · rcases p2 with ⟨rfl, rfl⟩ | p2
          · exact hsm
          · exact Or.inr ⟨p2.1, fun _ => by have := p2.2 hlL; omega⟩
        · have hmb := VLN_mb hx hlL hr.1
          have h1 := hr.2 hlL
          rcases Nat.lt_trichotomy (x l) y with g | g | g
          · exact absurd hmb (hno (x l) h1 g)
          · have h2 := hx1 x hx hr g
            have h3 := p4 h2.1
            exact ⟨h3.1, Nat.le_trans h2.2 h3.2⟩
          · exact p3 x hx ⟨hr.1, fun _ => by omega⟩
        · have h2 := hb1 hb
          have h3 := p4 h2.1
          exact ⟨h3.1, Nat.le_trans h2.2 h3.2⟩
      -- the night y is taken
      have take : ∀ (j y : Nat) (o : Wd) (s3 : Int), j < m → y + j = n → NS0 κ0 τ n L cr o l p b bn → MBN cr (HgN τ) n c p l y → (∀ y' : Nat, (n : Int) - m < (y' : Int) → y' < y → ¬ MBN cr (HgN τ) n c p l y') → s3 = (if y < n then 1 else 0) → Ev none (Cal 3) (cd 237) (rI K) (365, [some (.inr (.inr 12)), some (.inl (n : Int)), some (.inl (c : Int)), some (.inl b), some (.inl (l : Int)), none, none, none], [.inl s3, .inl ((wst (wst o 199 l (y : Int)) 202 y ((cgN p y l + 1 : Nat) : Int)) 201 l), .inl ((l + 1 : Nat) : Int), .inr (.inr 201)], wst (wst o 199 l (y : Int)) 202 y ((cgN p y l + 1 : Nat) : Int)) := by
        intro j y o s3 hjm hyj ho hmb hno hs3
        obtain ⟨oB, o199, o201, o202, o200⟩ := ho
        have hpv := VLN_up hp (show y ≤ n by omega) hmb
        have e201 : (wst (wst o 199 l (y : Int)) 202 y ((cgN p y l + 1 : Nat) : Int)) 201 l = (brN p n l : Int) := o201 l (Nat.le_refl _)
        have hbl := brn_b p n l
        have hb1 : brN (upP p l y) n (l + 1) = brN p n l + (if y < n then 1 else 0) := by rw [brn_s, brn_c upP_o, upP_l]
        have hbb := brn_b (upP p l y) n (l + 1)
        have hnc := VLN_nc hpv (Nat.le_refl _)
        have hncb : n * c ≤ 5 * 9 := Nat.mul_le_mul hn.2 hc9
        have hcou := cou_b cr n L (L - (l + 1))
        have ws : wr ((brN p n l : Int) + s3) = (brN (upP p l y) n (l + 1) : Int) := by
          rw [hs3, hb1]
          split <;> rw [wr_id (by omega) (by omega)] <;> omega
        rw [e201]
        refine bk_237_365 ?_
        have wl : wr ((l : Int) + 1) = ((l + 1 : Nat) : Int) := wr_s (by omega)
        have wnc : wr ((n : Int) * (c : Int)) = ((n * c : Nat) : Int) := by rw [← Int.natCast_mul, wr_id (by omega) (by omega)]
        rw [ws, wl, wnc, tn]
        generalize hX : wst (wst (wst o 199 l (y : Int)) 202 y ((cgN p y l + 1 : Nat) : Int)) 201 (l + 1) (brN (upP p l y) n (l + 1) : Int) = X
        have XB : NSB κ0 τ n L cr X := by rw [← hX]; exact ((oB.st (by omega)).st (by omega)).st (by omega)
        have X201 : X 201 (l + 1) = (brN (upP p l y) n (l + 1) : Int) := by
          rw [← hX]
          show (if 201 = 201 ∧ l + 1 = l + 1 then _ else _) = _
          rw [if_pos ⟨rfl, rfl⟩]
        have X203 : X 203 (l + 1) = (couN cr n L (L - (l + 1)) : Int) := XB.2.2.2 (l + 1) (by omega)
        have X0 : NS0 κ0 τ n L cr X (l + 1) (upP p l y) b bn := by
          refine ⟨XB, fun i hi => ?_, fun i hi => ?_, fun g hg => ?_, fun hb i hi => by rw [← hX]; exact o200 hb i hi⟩
          · rw [← hX]
            show (if 199 = 199 ∧ i = l then (y : Int) else o 199 i) = _
            by_cases e : i = l
            · rw [if_pos ⟨rfl, e⟩, e, upP_l]
            · rw [if_neg (fun z => e z.2), upP_o i (by omega)]
              exact o199 i (by omega)
          · by_cases e : i = l + 1
            · rw [e]; exact X201
            · rw [← hX]
              show (if 201 = 201 ∧ i = l + 1 then (brN (upP p l y) n (l + 1) : Int) else o 201 i) = _
              rw [if_neg (fun z => e z.2), brn_c (fun q hq => upP_o q (by omega))]
              exact o201 i (by omega)
          · rw [← hX, cg_s, upP_l, cg_c upP_o]
            show (if 202 = 202 ∧ g = y then ((cgN p y l + 1 : Nat) : Int) else o 202 g) = _
            by_cases e : g = y
            · rw [if_pos ⟨rfl, e⟩, if_pos e.symm, e]
            · rw [if_neg (fun z => e z.2), if_neg (fun z => e z.symm)]
              exact o202 g hg
        have XT : NST κ0 τ n L cr X l p (y : Int) b bn := by
          refine ⟨XB, fun i hi => by have := X0.2.1 i (by omega); rw [upP_o i hi] at this; exact this, fun i hi => by have := X0.2.2.1 i (by omega); rw [brn_c (fun q hq => upP_o q (by omega))] at this; exact this, fun g hg => ?_, X0.2.2.2.2, ?_⟩
          · have := X0.2.2.2.1 g hg
            rw [cg_s, upP_l, cg_c upP_o] at this
            rw [this]
            by_cases e : y = g
            · rw [if_pos e, if_pos (by omega)]
              omega
            · rw [if_neg e, if_neg (by omega)]
              omega
          · rw [← hX]
            show (if 199 = 199 ∧ l = l then (y : Int) else _) = _
            rw [if_pos ⟨rfl, rfl⟩]
        have subR : ∀ x, REG L (l + 1) (upP p l y) (-1) x → REG L l p ((n : Int) - m) x ∧ x l = y := by
          intro x hr
          have h1 := hr.1 l (by omega)
          rw [upP_l] at h1
          exact ⟨⟨fun i hi => by rw [hr.1 i (by omega), upP_o i hi], fun _ => by omega⟩, h1⟩
        have supR : ∀ x, REG L l p ((n : Int) - m) x → x l = y → REG L (l + 1) (upP p l y) (-1) x := by
          intro x hr hxy
          refine ⟨fun i hi => ?_, fun _ => by omega⟩
          by_cases e : i = l
          · rw [e, upP_l]; exact hxy
          · rw [upP_o i (by omega)]; exact hr.1 i (by omega)
        -- one level deeper
        have deep : ∀ Y : Wd, ((Y = wst X 199 (l + 1) (-1) ∧ l + 1 < 9) ∨ (Y = X ∧ ¬ l + 1 < 9)) → b < (brN (upP p l y) n (l + 1) : Int) + min (couN cr n L (L - (l + 1)) : Int) ((n * c : Nat) - (brN (upP p l y) n (l + 1) : Int)) → HNN K n c b ((l + 1 : Nat) : Int) Y := by
          intro Y hY hbd
          have hLB2 : LBE L (l + 1) (upP p l y) (-1) b bn := fun hb x hr => hLB hb x (subR x hr).1
          refine ihk (l + 1) (by omega) (upP p l y) hpv (n + 1) (Nat.le_refl _) b bn Y (fun hl1 => ?_) (fun hl1 => ⟨?_, ?_⟩) hI (by rw [show (n : Int) - ((n + 1 : Nat) : Int) = -1 by omega]; exact hLB2) (fun u' b' bn' hu' hP => ?_)
          · rcases hY with ⟨rfl, _⟩ | ⟨_, hY⟩
            · rw [show (n : Int) - ((n + 1 : Nat) : Int) = -1 by omega]
              refine ⟨XB.st (by omega), fun i hi => ?_, X0.2.2.1, fun g hg => ?_, X0.2.2.2.2, ?_⟩
              · rw [wst_ap, if_neg (by omega)]; exact X0.2.1 i hi
              · rw [if_neg (by omega), Int.add_zero]; exact X0.2.2.2.1 g hg
              · rw [wst_ap, if_pos ⟨rfl, rfl⟩]
            · omega
          · rcases hY with ⟨rfl, _⟩ | ⟨rfl, hY⟩
            · exact ⟨XB.st (by omega), fun i hi => by rw [wst_ap, if_neg (by omega)]; exact X0.2.1 i hi, X0.2.2.1, X0.2.2.2.1, X0.2.2.2.2⟩
            · exact X0
          · have : couN cr n L (L - (l + 1)) = 0 := by rw [show L - (l + 1) = 0 by omega]; rfl
            rw [this] at hbd
            rw [hl1] at hbd
            rw [← hl1] at hbd ⊢
            omega
          · rw [show (n : Int) - ((n + 1 : Nat) : Int) = -1 by omega] at hP
            obtain ⟨p1, p2, p3, p4⟩ := hP
            obtain ⟨u1, u2, u3, u4, u5⟩ := hu'
            have hu'T : NST κ0 τ n L cr u' l p (y : Int) b' bn' := by
              refine ⟨u1, fun i hi => by have := u2 i (by omega); rw [upP_o i hi] at this; exact this, fun i hi => by have := u3 i (by omega); rw [brn_c (fun q hq => upP_o q (by omega))] at this; exact this, fun g hg => ?_, u5, ?_⟩
              · have := u4 g hg
                rw [cg_s, upP_l, cg_c upP_o] at this
                rw [this]
                by_cases e : y = g
                · rw [if_pos e, if_pos (by omega)]
                  omega
                · rw [if_neg e, if_neg (by omega)]
                  omega
              · have := u2 l (by omega)
                rw [upP_l] at this
                exact this
            rw [show ((l + 1 : Nat) : Int) - 1 = (l : Int) by omega]
            refine cont j y hjm hyj hno b' bn' u' hu'T p1 ?_ (fun x hx hr hxy => p3 x hx (supR x hr hxy)) p4 (fun hb' x hr => ?_)
            · rcases p2 with p2 | p2
              · exact Or.inl p2
              · exact Or.inr (subR bn' p2).1
            · rcases p2 with ⟨rfl, rfl⟩ | p2
              · exact hLB hb' x ⟨hr.1, fun _ => by have := hr.2 hlL; omega⟩
              · have h1 := subR bn' p2
                have h2 := hr.2 hlL
                exact ⟨l, hlL, fun i hi => by rw [h1.1.1 i hi, hr.1 i hi], by omega⟩
        -- or not
        have shal : (brN (upP p l y) n (l + 1) : Int) + min (couN cr n L (L - (l + 1)) : Int) ((n * c : Nat) - (brN (upP p l y) n (l + 1) : Int)) ≤ b → HNN K n c b (l : Int) X := by
          intro hbd
          have hb0 : 0 ≤ b := by omega
          refine cont j y hjm hyj hno b bn X XT hI (Or.inl ⟨rfl, rfl⟩) (fun x hx hr hxy => ⟨hb0, ?_⟩) (fun _ => ⟨hb0, Nat.le_refl _⟩) (fun hb' x hr => hLB hb' x ⟨hr.1, fun _ => by have := hr.2 hlL; omega⟩)
          rcases hI with h | ⟨hI1, hI2⟩
          · omega
          · refine VAL_lex hn.2 hL (fun i hi => (hx i hi).1) ?_ (hLB hb0 x hr)
            have hsup := supR x hr hxy
            have e1 : brN x n (l + 1) = brN (upP p l y) n (l + 1) := brn_c hsup.1 n
            have h3 := VLN_cou hx (L - (l + 1)) (by omega)
            rw [show L - (L - (l + 1)) = l + 1 by omega, e1] at h3
            have h4 := VLN_nc hx (Nat.le_refl L)
            omega
        have wsub : wr (((n * c : Nat) : Int) - (brN (upP p l y) n (l + 1) : Int)) = ((n * c : Nat) : Int) - (brN (upP p l y) n (l + 1) : Int) := wr_id (by omega) (by omega)
        rw [X201, X203, wsub, wr_id (x := (brN (upP p l y) n (l + 1) : Int) + (couN cr n L (L - (l + 1)) : Int)) (by omega) (by omega), wr_id (x := (brN (upP p l y) n (l + 1) : Int) + (((n * c : Nat) : Int) - (brN (upP p l y) n (l + 1) : Int))) (by omega) (by omega)]
        refine ⟨by omega, by omega, by omega, by omega, ?_⟩
        refine ite_i (fun q => ?_) (fun q => ?_)
        · refine ite_i (fun r => ?_) (fun r => shal (by omega))
          exact ite_i (fun s => ⟨by omega, deep _ (Or.inl ⟨rfl, by omega⟩) (by omega)⟩) (fun s => deep _ (Or.inr ⟨rfl, by omega⟩) (by omega))
        · refine ite_i (fun r => ?_) (fun r => shal (by omega))
          exact ite_i (fun s => ⟨by omega, deep _ (Or.inl ⟨rfl, by omega⟩) (by omega)⟩) (fun s => deep _ (Or.inr ⟨rfl, by omega⟩) (by omega))
      -- the search for a night from y on
      have find : ∀ (j y : Nat) (o : Wd), j < m → y + j = n → NS0 κ0 τ n L cr o l p b bn → (∀ y' : Nat, (n : Int) - m < (y' : Int) → y' < y → ¬ MBN cr (HgN τ) n c p l y') → Ev none (Cal 3) (cd 237) (rI K) (282, [some (.inr (.inr 12)), some (.inl (n : Int)), some (.inl (c : Int)), some (.inl b), some (.inl (l : Int)), some (.inl (y : Int)), none, none], [], o) := by
        intro j
        induction j using Nat.strongRecOn with
        | _ j ihj =>
          intro y o hjm hyj ho hno
          have ho2 := ho
          obtain ⟨oB, o199, o201, o202, o200⟩ := ho
          have om := oB.2.1
          refine bk_237_282 ?_
          rw [if_neg (by omega)]
          refine CalI.to (mayBe_c (c := c) om hR hn.2 hL hlL (by omega) oB.2.2.1 o199 (o202 y (by omega))) (by decide) ?_
          rintro r x ⟨hr, rfl⟩
          have e202 : (wst x 199 l (y : Int)) 202 y = (cgN p y l : Int) := o202 y (by omega)
          have hcg := cg_b p y l
          rw [tn, tn, e202, wr_s (show cgN p y l < 2000000 by omega), wr_s (show l < 2000000 by omega), wr_s (show y < 2000000 by omega)]
          rcases hr with ⟨rfl, hr⟩ | ⟨rfl, hr⟩
          · rw [if_pos rfl]
            have hj0 : ¬ j = 0 := fun z => hr (Or.inl (by omega))
            refine ihj (j - 1) (by omega) (y + 1) x (by omega) (by omega) ho2 (fun y' h1 h2 => ?_)
            by_cases e : y' = y
            · rw [e]; exact hr
            · exact hno y' h1 (by omega)
          · rw [if_neg (by decide), if_neg (by omega)]
            refine ⟨by omega, by omega, by omega, by omega, ite_i (fun g => ?_) (fun g => ?_)⟩
            · exact take j y x 1 hjm hyj ho2 hr hno (by rw [if_pos (by omega)])
            · exact take j y x 0 hjm hyj ho2 hr hno (by rw [if_neg (by omega)])
      have start : ∀ o : Wd, NS0 κ0 τ n L cr o l p b bn → Ev none (Cal 3) (cd 237) (rI K) (282, [some (.inr (.inr 12)), some (.inl (n : Int)), some (.inl (c : Int)), some (.inl b), some (.inl (l : Int)), some (.inl ((n : Int) - m + 1)), none, none], [], o) := by
        intro o ho
        cases m with
        | zero =>
          refine bk_237_282 ?_
          rw [if_pos (by omega), if_pos (by omega), wr_id (x := (l : Int) + (-1)) (by omega) (by omega), show (l : Int) + (-1) = (l : Int) - 1 by omega]
          refine hK o b bn ho ⟨hI, Or.inl ⟨rfl, rfl⟩, fun x hx hr => ?_, fun hb => ⟨hb, Nat.le_refl _⟩⟩
          have h1 := hr.2 hlL
          have h2 := (hx l hlL).1
          omega
        | succ m =>
          obtain ⟨y, hy⟩ : ∃ y : Nat, y + m = n := ⟨n - m, by omega⟩
          rw [show (n : Int) - ((m + 1 : Nat) : Int) + 1 = (y : Int) by omega]
          exact find m y o (by omega) hy ho (fun y' h1 h2 => by omega)
      refine bk_237_185 ?_
      rw [if_neg (by omega), e61, if_neg (by omega), tn, hv]
      refine ⟨by omega, ite_i (fun q => ?_) (fun q => ?_)⟩
      · rw [wr_id (by omega) (by omega)]
        refine ⟨by omega, start u ⟨hB, h199, h201, fun g hg => ?_, h200⟩⟩
        rw [h202 g hg, if_neg (by omega), Int.add_zero]
      · obtain ⟨v, hvn⟩ : ∃ v : Nat, (n : Int) - m = (v : Int) := ⟨((n : Int) - m).toNat, by omega⟩
        have hv2 : u 199 l = (v : Int) := hv.trans hvn
        have e202 : u 202 v = (cgN p v l : Int) + 1 := by rw [h202 v (by omega), if_pos hvn]
        have hcg := cg_b p v l
        have e199 : ∀ z : Int, (wst u 202 v z) 199 l = (v : Int) := fun z => hv2
        have hst := start (wst u 202 v (cgN p v l : Int)) ⟨hB.st (by omega), h199, h201, fun g hg => ?_, h200⟩
        · rw [hvn, tn, e202, e199, show wr ((cgN p v l : Int) + 1 - 1) = (cgN p v l : Int) by rw [wr_id (by omega) (by omega)]; omega, wr_id (x := (v : Int) + 1) (by omega) (by omega)]
          rw [hvn] at hst
          exact ⟨by omega, by omega, by omega, by omega, hst⟩
        · show (if 202 = 202 ∧ g = v then (cgN p v l : Int) else u 202 g) = _
          by_cases e : g = v
          · rw [if_pos ⟨rfl, e⟩, e]
          · rw [if_neg (fun z => e z.2), h202 g hg, if_neg (by omega), Int.add_zero]
end
