/-! divide; the fewest lines left out that carry a night -/
theorem pop_0 : ∀ n : Nat, pop 0 n = 0
  | 0 => rfl
  | n + 1 => by rw [pop_s, pop_0 n, Nat.zero_testBit, if_neg (by decide)]; rfl
def loC (τ : Wd) (g n : Nat) : Prop := stF τ ((nd (2 ^ nL τ - 1) n : Nat) : Int) = ((nd (2 ^ nL τ - 1) n : Nat) : Int) ∧ 0 < mgF τ (nd (2 ^ nL τ - 1) n) g 1
theorem loC_d (τ : Wd) (g n : Nat) : loC τ g n ∨ ¬ loC τ g n := Classical.em _
noncomputable def loN (τ : Wd) (g : Nat) : Nat → Int
  | 0 => -9
  | n + 1 => if stF τ ((nd (2 ^ nL τ - 1) n : Nat) : Int) = ((nd (2 ^ nL τ - 1) n : Nat) : Int) ∧ (loN τ g n < 0 ∨ pop n 9 < pop (loN τ g n).toNat 9) ∧ 0 < mgF τ (nd (2 ^ nL τ - 1) n) g 1 then (n : Int) else loN τ g n
theorem loN_s (τ : Wd) (g n : Nat) : loN τ g (n + 1) = if stF τ ((nd (2 ^ nL τ - 1) n : Nat) : Int) = ((nd (2 ^ nL τ - 1) n : Nat) : Int) ∧ (loN τ g n < 0 ∨ pop n 9 < pop (loN τ g n).toNat 9) ∧ 0 < mgF τ (nd (2 ^ nL τ - 1) n) g 1 then (n : Int) else loN τ g n := rfl
theorem loN_b (τ : Wd) (g n : Nat) : loN τ g n = -9 ∨ (0 ≤ loN τ g n ∧ loN τ g n < n) := by
  induction n with
  | zero => exact Or.inl rfl
  | succ n ih =>
    rw [loN_s]
    split
    · exact Or.inr ⟨by omega, by omega⟩
    · omega
noncomputable def loF (τ : Wd) (g : Nat) : Int := loN τ g (2 ^ nL τ)
section
variable {w κ τ : Wd} {T : Wd → Wd → Prop}
theorem ones_ok {n : Nat} (hn : n < 512) : Cal 1 234 [.inl (n : Int)] w (rI fun y u => y = pop n 9 ∧ u = w) := by
  generalize hQ : (rI fun y u => y = pop n 9 ∧ u = w) = Q
  have key : ∀ b : Nat, b < 512 → ∀ c : Int, 0 ≤ c → c + pop b 9 = pop n 9 → Ev none (Cal 0) (cd 234) Q (4, [none, some (.inl c), some (.inl (b : Int))], [], w) := by
    intro b
    induction b using Nat.strongRecOn with
    | _ b ih =>
      intro hb c h0 hc
      refine bk_234_4 ?_
      refine ite_i (fun q => ?_) (fun q => ?_)
      · have h1 : pop b 9 = pop (b / 2) 8 + ((b % 2 : Nat) : Int) := pop_half b 8
        have h2 : pop (b / 2) 9 = pop (b / 2) 8 := pop_hi (n := 8) (by omega) (by decide)
        have h3 := pop_b n 9
        have h4 := pop_b (b / 2) 9
        refine ⟨by decide, by decide, ?_⟩
        have e1 : imd (b : Int) 2 = ((b % 2 : Nat) : Int) := imd_n (b := 2) (by omega) (by omega)
        have e2 : idv (b : Int) 2 = ((b / 2 : Nat) : Int) := idv_n (b := 2) (by omega) (by omega)
        rw [e1, e2, wr_id (by omega) (by omega)]
        exact ih (b / 2) (by omega) (by omega) _ (by omega) (by omega)
      · obtain rfl : b = 0 := by omega
        rw [pop_0] at hc
        rw [← hQ]
        exact ⟨by omega, rfl⟩
  refine en_234 ?_
  exact key n hn 0 (by omega) (by omega)
theorem nd_9 {τ : Wd} (hR : RNG τ) (n : Nat) : nd (2 ^ nL τ - 1) n < 512 := by
  have := p9 (nL_9 hR).1
  have := nd_le (2 ^ nL τ - 1) n
  omega
theorem leastOut_ok (hc : pc w = κ) (hE : EQ κ τ) (hR : RNG τ) {g : Nat} (hg : g < 5) : Cal 3 136 [.inr (.inr 1), .inl g, .inr (.inr 0), .inr (.inr 2)] w (rI fun y u => y = loF τ g ∧ u = w) := by
  have hL := nL_9 hR
  have hp := p9 hL.1
  generalize hQ : (rI fun y u => y = loF τ g ∧ u = w) = Q
  have key := Ev.count (sc := none) (C := Cal 2) (cdk := cd 136) (Q := Q) (N := 2 ^ nL τ) (S := fun i => (17, [some (.inr (.inr 1)), some (.inl (g : Int)), some (.inr (.inr 0)), some (.inr (.inr 2)), some (.inl ((2 ^ nL τ - 1 : Nat) : Int)), some (.inl (loN τ g i)), some (.inl (if loN τ g i < 0 then 10 else pop (loN τ g i).toNat 9)), some (.inl (i : Int)), none], [], w)) (fun i hi h => ?_) ?_ 0 (Nat.zero_le _)
  · refine en_136 ?_
    refine CalE.to (all_ok hc hE) (by decide) ?_
    rw [alF_n hR]
    exact key
  · refine bk_136_17 ?_
    rw [if_neg (by omega), nand_n (by omega) (by omega), wr_s (by omega)]
    refine CalE.to (bitCount_ok (by omega)) (by decide) ?_
    have hs := loN_s τ g i
    have h9 := nd_9 hR i
    have hpb := pop_b i 9
    have no : ¬ (stF τ ((nd (2 ^ nL τ - 1) i : Nat) : Int) = ((nd (2 ^ nL τ - 1) i : Nat) : Int) ∧ (loN τ g i < 0 ∨ pop i 9 < pop (loN τ g i).toNat 9) ∧ 0 < mgF τ (nd (2 ^ nL τ - 1) i) g 1) → Ev none (Cal 2) (cd 136) Q (17, [some (.inr (.inr 1)), some (.inl (g : Int)), some (.inr (.inr 0)), some (.inr (.inr 2)), some (.inl ((2 ^ nL τ - 1 : Nat) : Int)), some (.inl (loN τ g i)), some (.inl (if loN τ g i < 0 then 10 else pop (loN τ g i).toNat 9)), some (.inl ((i + 1 : Nat) : Int)), none], [], w) := fun z => h.cast (by rw [hs, if_neg z])
    refine ite_i (fun q => ?_) (fun q => ?_)
    · have q2 : loN τ g i < 0 ∨ pop i 9 < pop (loN τ g i).toNat 9 := by
        by_cases r : loN τ g i < 0
        · exact Or.inl r
        · rw [if_neg r] at q
          exact Or.inr q
      refine CalE.to (standing_ok hc hE hR) (by decide) ?_
      refine ite_i (fun r => ?_) (fun r => ?_)
      · refine CalE.to (margin_ok hc hE hR h9 hg (Or.inr rfl)) (by decide) ?_
        refine ite_i (fun s => ?_) (fun s => ?_)
        · refine CalE.to (bitCount_ok (by omega)) (by decide) ?_
          rw [if_pos ⟨r, q2, s⟩] at hs
          refine h.cast ?_
          rw [hs, if_neg (by omega), tn]
        · exact no (fun z => s z.2.2)
      · exact no (fun z => r z.1)
    · refine no (fun z => q ?_)
      rcases z.2.1 with z | z
      · rw [if_pos z]
        omega
      · split
        · omega
        · exact z
  · refine bk_136_17 ?_
    rw [if_pos (by omega), ← hQ]
    exact ⟨rfl, rfl⟩
theorem leftOut_ok (hm : pm w = τ) (hR : RNG τ) {g : Nat} (hg : g < 5) : Cal 4 233 [.inr (.inr 12), .inl g] w (rI fun y u => y = loF τ g ∧ u = w) := by
  have hL := nL_9 hR
  have hp := p9 hL.1
  generalize hQ : (rI fun y u => y = loF τ g ∧ u = w) = Q
  have key := Ev.count (sc := none) (C := Cal 3) (cdk := cd 233) (Q := Q) (N := 2 ^ nL τ) (S := fun i => (5, [some (.inr (.inr 12)), some (.inl (g : Int)), some (.inl (loN τ g i)), some (.inl (i : Int)), none, none], [], w)) (fun i hi h => ?_) ?_ 0 (Nat.zero_le _)
  · exact en_233 key
  · refine bk_233_5 ?_
    refine CalE.to (mall_ok hm) (by decide) ?_
    rw [alF_n hR, if_neg (by omega)]
    refine CalE.to (mall_ok hm) (by decide) ?_
    rw [alF_n hR, nand_n (by omega) (by omega), wr_s (by omega)]
    refine CalE.to (mstanding_ok hm hR) (by decide) ?_
    have hs := loN_s τ g i
    have h9 := nd_9 hR i
    have hlb := loN_b τ g i
    have no : ¬ (stF τ ((nd (2 ^ nL τ - 1) i : Nat) : Int) = ((nd (2 ^ nL τ - 1) i : Nat) : Int) ∧ (loN τ g i < 0 ∨ pop i 9 < pop (loN τ g i).toNat 9) ∧ 0 < mgF τ (nd (2 ^ nL τ - 1) i) g 1) → Ev none (Cal 3) (cd 233) Q (5, [some (.inr (.inr 12)), some (.inl (g : Int)), some (.inl (loN τ g i)), some (.inl ((i + 1 : Nat) : Int)), none, none], [], w) := fun z => h.cast (by rw [hs, if_neg z])
    refine ite_i (fun r => ?_) (fun r => ?_)
    · have go : (loN τ g i < 0 ∨ pop i 9 < pop (loN τ g i).toNat 9) → Cal 3 227 [.inr (.inr 12), .inl ((nd (2 ^ nL τ - 1) i : Nat) : Int), .inl g, .inl 1] w (rI fun v4 w4 => if 0 < v4 then Ev none (Cal 3) (cd 233) Q (5, [some (.inr (.inr 12)), some (.inl (g : Int)), some (.inl (i : Int)), some (.inl ((i + 1 : Nat) : Int)), none, none], [], w4) else Ev none (Cal 3) (cd 233) Q (5, [some (.inr (.inr 12)), some (.inl (g : Int)), some (.inl (loN τ g i)), some (.inl ((i + 1 : Nat) : Int)), none, none], [], w4)) := by
        intro q2
        refine CalE.to (division_ok hm hR r hg (Or.inr rfl)) (by decide) ?_
        refine ite_i (fun s => ?_) (fun s => ?_)
        · rw [if_pos ⟨r, q2, s⟩] at hs
          refine h.cast ?_
          rw [hs]
        · exact no (fun z => s z.2.2)
      refine ite_i (fun q => ?_) (fun q => ?_)
      · exact go (Or.inl q)
      · refine CalE.to (ones_ok (by omega)) (by decide) ?_
        obtain ⟨m, hmm⟩ : ∃ m : Nat, loN τ g i = (m : Int) := ⟨(loN τ g i).toNat, by omega⟩
        have hm9 : Cal 1 234 [.inl (loN τ g i)] w (rI fun y u => y = pop (loN τ g i).toNat 9 ∧ u = w) := by
          rw [hmm, tn]
          exact ones_ok (by omega)
        refine CalE.to hm9 (by decide) ?_
        refine ite_i (fun s => ?_) (fun s => ?_)
        · exact go (Or.inr s)
        · exact no (fun z => by
            rcases z.2.1 with z | z
            · exact q z
            · exact s z)
    · exact no (fun z => r z.1)
  · refine bk_233_5 ?_
    refine CalE.to (mall_ok hm) (by decide) ?_
    rw [alF_n hR, if_pos (by omega), ← hQ]
    exact ⟨rfl, rfl⟩
theorem both_divide (hT : TFr T) (hO : OKW T w) {a b c : Int} (ha : in32 a) : Cal 12 131 [.inr (.inr 11), .inl a, .inl b, .inl c] w (rI fun x u => Cal 12 226 [.inr (.inr 12), .inl a, .inl b, .inl c] u (rI fun y v => x = y ∧ OKW T v)) := by
  have hO2 := hO
  obtain ⟨κ, hc⟩ : ∃ κ, pc w = κ := ⟨_, rfl⟩
  obtain ⟨τ, hm⟩ : ∃ τ, pm w = τ := ⟨_, rfl⟩
  unfold OKW at hO
  rw [hc, hm] at hO
  obtain ⟨hE, hR, ht⟩ := id hO
  unfold in32 at ha
  refine en_131 ?_
  refine CalB (hasOthers_g hc hE hR (x := a) (by omega)) (by decide) (fun q => ?_) (fun q => ?_)
  · rw [if_neg (by decide)]
    refine CalI.to (refuseApart_ok hc hm (by omega)) (by decide) ?_; rintro _ u ⟨rfl, uc, um⟩;
    refine en_226 ?_
    refine CalF (isSet_ok um hR) (by decide) q ?_
    rw [if_pos rfl]
    exact CalK (fin_rfF hT hO uc um (by omega) rfl) (by decide)
  · rw [if_pos rfl]
    refine CalB rIsNight_ok (by decide) (fun r => ?_) (fun r => ?_)
    · rw [if_neg (by decide)]
      refine CalB isWithin_ok (by decide) (fun s => ?_) (fun s => ?_)
      · rw [if_neg (by decide)]
        refine CalE.to (standing_ok hc hE hR) (by decide) ?_
        obtain ⟨z, h1, h2⟩ := stF_n hR a
        have hz : z < 512 := by have := p9 (nL_9 hR).1; omega
        obtain ⟨g, rfl⟩ : ∃ g : Nat, b = (g : Int) := ⟨b.toNat, by omega⟩
        rw [h1]
        refine ite_i (fun t => ?_) (fun t => ?_)
        · refine CalE.to (margin_ok hc hE hR hz (by omega) (Or.inr rfl)) (by decide) ?_
          refine en_226 ?_
          refine CalT (isSet_ok hm hR) (by decide) (Decidable.not_not.1 q) ?_
          rw [if_neg (by decide)]
          refine CalT mIsNight_ok (by decide) r ?_
          rw [if_neg (by decide)]
          refine CalT in_ok (by decide) s ?_
          rw [if_neg (by decide), if_pos t]
          refine CalE.to (division_ok hm hR h1 (by omega) (Or.inr rfl)) (by decide) ?_
          exact ⟨rfl, hO2⟩
        · refine CalE.to (margin_ok hc hE hR hz (by omega) (Or.inl rfl)) (by decide) ?_
          refine en_226 ?_
          refine CalT (isSet_ok hm hR) (by decide) (Decidable.not_not.1 q) ?_
          rw [if_neg (by decide)]
          refine CalT mIsNight_ok (by decide) r ?_
          rw [if_neg (by decide)]
          refine CalT in_ok (by decide) s ?_
          rw [if_neg (by decide), if_neg t]
          refine CalE.to (division_ok hm hR h1 (by omega) (Or.inl rfl)) (by decide) ?_
          exact ⟨rfl, hO2⟩
      · rw [if_pos rfl]
        refine CalI.to (refuseApart_ok hc hm (by omega)) (by decide) ?_; rintro _ u ⟨rfl, uc, um⟩;
        refine en_226 ?_
        refine CalT (isSet_ok um hR) (by decide) (Decidable.not_not.1 q) ?_
        rw [if_neg (by decide)]
        refine CalT mIsNight_ok (by decide) r ?_
        rw [if_neg (by decide)]
        refine CalF in_ok (by decide) s ?_
        rw [if_pos rfl]
        exact CalK (fin_rfF hT hO uc um (by omega) rfl) (by decide)
    · rw [if_pos rfl]
      refine CalI.to (refuseApart_ok hc hm (by omega)) (by decide) ?_; rintro _ u ⟨rfl, uc, um⟩;
      refine en_226 ?_
      refine CalT (isSet_ok um hR) (by decide) (Decidable.not_not.1 q) ?_
      rw [if_neg (by decide)]
      refine CalF mIsNight_ok (by decide) r ?_
      rw [if_pos rfl]
      exact CalK (fin_rfF hT hO uc um (by omega) rfl) (by decide)
theorem mcarry_l (hm : pm w = τ) (hR : RNG τ) {k z : Nat} (hk : k < 8) (hz : z < 2 ^ nL τ) {c : Int} (hc : c = (k : Int) + 1) {d : Nat} {Q : Option AV → Wd → Prop} (hQ : Q (some (.inl (wsF τ k z))) w) : Ev none (Cal d) (cd 232) Q (48, [some (.inr (.inr 12)), none, some (.inl c), some (.inl (z : Int)), some (.inl 0), some (.inl 0)], [], w) := by
  have hL := nL_9 hR
  have hp := p9 hL.1
  have hr := rdn_b hR k
  have hle : z &&& rdn τ k ≤ z := Nat.and_le_left
  have key := Ev.count (sc := none) (C := Cal d) (cdk := cd 232) (Q := Q) (N := nL τ) (S := fun i => (48, [some (.inr (.inr 12)), none, some (.inl c), some (.inl (z : Int)), some (.inl (wsN τ k z i)), some (.inl (i : Int))], [], w)) (fun i hi h => ?_) ?_ 0 (Nat.zero_le _)
  · exact key
  · refine bk_232_48 ?_
    have hb := wsN_b hR k z i
    have hw := hR.M_wants (9 * k + i)
    have e : wr (c - 1) = (k : Int) := by rw [wr_id (by omega) (by omega)]; omega
    rw [e, wr_id (x := 9 * (k : Int)) (by omega) (by omega), wr_id (x := 9 * (k : Int) + (i : Int)) (by omega) (by omega), show 9 * (k : Int) + (i : Int) = ((9 * k + i : Nat) : Int) by omega]
    simp only [tn, r12_61 hm, r193 hm, r195 hm, wr_s (show i < 2000000 by omega), hr.1]
    rw [if_pos (by omega), if_neg (by omega), iand_n (by omega) (by omega)]
    refine ⟨by omega, ?_⟩
    refine ite_i (fun q => ?_) (fun q => ?_)
    · rw [bit_n (by omega) (by omega)] at q
      refine ⟨by omega, ?_⟩
      rw [wr_id (by omega) (by omega)]
      refine h.cast ?_
      rw [wsN_s, if_pos q]
    · rw [bit_n (by omega) (by omega)] at q
      rw [wr_id (by omega) (by omega)]
      refine h.cast ?_
      rw [wsN_s, if_neg q]
  · refine bk_232_48 ?_
    simp only [r12_61 hm]
    rw [if_neg (by omega)]
    have e : wsF τ k z = wsN τ k z (nL τ) := wsN_h hz hL.1
    rw [← e]
    exact hQ
theorem both_carry (hT : TFr T) (hO : OKW T w) {a b : Int} : Cal 12 135 [.inr (.inr 11), .inl a, .inl b] w (rI fun x u => Cal 12 232 [.inr (.inr 12), .inl a, .inl b] u (rI fun y v => x = y ∧ OKW T v)) := by
  have hO2 := hO
  obtain ⟨κ, hc⟩ : ∃ κ, pc w = κ := ⟨_, rfl⟩
  obtain ⟨τ, hm⟩ : ∃ τ, pm w = τ := ⟨_, rfl⟩
  unfold OKW at hO
  rw [hc, hm] at hO
  obtain ⟨hE, hR, ht⟩ := id hO
  refine en_135 ?_
  refine CalB rIsNight_ok (by decide) (fun r => ?_) (fun r => ?_)
  · rw [if_neg (by decide)]
    refine CalB isWithin_ok (by decide) (fun s => ?_) (fun s => ?_)
    · rw [if_neg (by decide)]
      obtain ⟨g, rfl⟩ : ∃ g : Nat, a = (g : Int) := ⟨a.toNat, by omega⟩
      refine CalE.to (leastOut_ok hc hE hR (by omega)) (by decide) ?_
      have mid : ∀ {K : Int → Wd → Prop}, (if b = 0 then K (loF τ g) w else Ev none (Cal 11) (cd 232) (rI K) (48, [some (.inr (.inr 12)), none, some (.inl b), some (.inl (loF τ g)), some (.inl 0), some (.inl 0)], [], w)) → Cal 12 232 [.inr (.inr 12), .inl (g : Int), .inl b] w (rI K) := by
        intro K h
        refine en_232 ?_
        refine CalT mIsNight_ok (by decide) r ?_
        rw [if_neg (by decide)]
        refine CalT in_ok (by decide) s ?_
        rw [if_neg (by decide)]
        refine CalE.to (leftOut_ok hm hR (by omega)) (by decide) ?_
        exact h
      refine ite_i (fun t => ?_) (fun t => ?_)
      · refine mid ?_
        rw [if_pos t]
        exact ⟨rfl, hO2⟩
      · have hL := nL_9 hR
        have hp := p9 hL.1
        have hb := loN_b τ g (2 ^ nL τ)
        refine ite_i (fun v => ?_) (fun v => ?_)
        · refine mid ?_
          rw [if_neg t]
          refine bk_232_48 ?_
          refine ite_i (fun _ => ?_) (fun _ => ⟨rfl, hO2⟩)
          rw [if_pos (by omega)]
          exact ⟨rfl, hO2⟩
        · unfold loF at v ⊢
          obtain ⟨z, hz⟩ : ∃ z : Nat, loN τ g (2 ^ nL τ) = (z : Int) := ⟨(loN τ g (2 ^ nL τ)).toNat, by omega⟩
          obtain ⟨k, hk⟩ : ∃ k : Nat, b = (k : Int) + 1 := ⟨(b - 1).toNat, by omega⟩
          unfold loF at mid
          rw [hz] at mid ⊢
          have e : wr (b - 1) = (k : Int) := by rw [wr_id (by omega) (by omega)]; omega
          rw [e]
          refine CalE.to (wish_ok hc hE hR (by omega) (by omega)) (by decide) ?_
          refine mid ?_
          rw [if_neg t]
          refine mcarry_l hm hR (by omega) (by omega) hk ?_
          exact ⟨rfl, hO2⟩
    · rw [if_pos rfl]
      refine CalI.to (refuseApart_ok hc hm (by omega)) (by decide) ?_; rintro _ u ⟨rfl, uc, um⟩;
      refine en_232 ?_
      refine CalT mIsNight_ok (by decide) r ?_
      rw [if_neg (by decide)]
      refine CalF in_ok (by decide) s ?_
      rw [if_pos rfl]
      exact CalK (fin_rfF hT hO uc um (by omega) rfl) (by decide)
  · rw [if_pos rfl]
    refine CalI.to (refuseApart_ok hc hm (by omega)) (by decide) ?_; rintro _ u ⟨rfl, uc, um⟩;
    refine en_232 ?_
    refine CalF mIsNight_ok (by decide) r ?_
    rw [if_pos rfl]
    exact CalK (fin_rfF hT hO uc um (by omega) rfl) (by decide)
end
