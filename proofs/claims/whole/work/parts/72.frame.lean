/-! contracts with what they leave as it was -/
theorem off_w {u w : Wd} {a i : Nat} {x : Int} (h : ∀ c, ¬ c = a → u c = w c) : ∀ c, ¬ c = a → wst u a i x c = w c := fun c hc => by
  rw [← h c hc]
  funext j
  show (if _ then _ else _) = _
  rw [if_neg (fun z => hc z.1)]
theorem off_f {u w : Wd} {a n : Nat} {x : Int} (h : ∀ c, ¬ c = a → u c = w c) : ∀ c, ¬ c = a → fil u a x n c = w c := fun c hc => by
  rw [← h c hc]
  funext j
  show (if _ then _ else _) = _
  rw [if_neg (fun z => hc z.1)]
section
variable {w κ τ : Wd}
theorem drawListK_ok (hc : pc w = κ) (hm : pm w = τ) (hE : EQ κ τ) (hR : RNG τ) {n j k : Int} (hn : n = τ 12 1) : Cal 2 29 [.inr (.inr 7), .inl n, .inl j, .inl k] w (rV fun u => DL τ j k u ∧ pc u = κ ∧ pm u = τ ∧ u 20 = w 20) := by
  have hb := hR.M_places
  generalize hQ : (rV fun u => DL τ j k u ∧ pc u = κ ∧ pm u = τ ∧ u 20 = w 20) = Q
  have key := Ev.inv (sc := none) (C := Cal 1) (cdk := cd 29) (Q := Q) (N := (τ 12 1).toNat) (I := fun i s => ∃ u : Wd, s = (13, [some (.inr (.inr 7)), none, some (.inl j), some (.inl k), some (.inl (i : Int)), none, none, none, none], [], u) ∧ pc u = κ ∧ pm u = τ ∧ u 20 = w 20 ∧ u 7 11 = τ 12 1 ∧ ∀ q : Nat, q < i → DI τ j k u q 2) (fun i hi s hs h => ?_) (fun s hs => ?_) 0 (Nat.zero_le _)
  · refine en_29 ?_
    have e : min n 16 = τ 12 1 := by omega
    rw [e]
    refine key _ ⟨_, rfl, ?_, ?_, rfl, ?_, fun q hq => absurd hq (Nat.not_lt_zero q)⟩
    · rw [pc_out rfl]; exact hc
    · rw [pm_out rfl]; exact hm
    · simp [wst_ap]
  · obtain ⟨u, rfl, uc, um, u20, ul, hd⟩ := hs
    refine bk_29_13 ?_
    simp only [ul, tn]
    rw [if_pos (by omega)]
    refine ⟨⟨by omega, by omega⟩, ⟨by omega, by omega⟩, ⟨by omega, by omega⟩, ?_⟩
    have key2 := Ev.inv (sc := none) (C := Cal 1) (cdk := cd 29) (Q := Q) (N := 2) (I := fun t s => ∃ v : Wd, s = (49, [some (.inr (.inr 7)), none, some (.inl j), some (.inl k), some (.inl (i : Int)), some (.inl (t : Int)), none, none, none], [], v) ∧ pc v = κ ∧ pm v = τ ∧ v 20 = w 20 ∧ v 7 11 = τ 12 1 ∧ (∀ q : Nat, q < i → DI τ j k v q 2) ∧ DI τ j k v i t) (fun t ht s hs h2 => ?_) (fun s hs => ?_) 0 (Nat.zero_le _)
    · refine key2 _ ⟨_, rfl, ?_, ?_, u20, ?_, fun q hq => ?_, ?_⟩
      · rw [pc_out rfl, pc_out rfl, pc_out rfl]; exact uc
      · rw [pm_out rfl, pm_out rfl, pm_out rfl]; exact um
      · simp [wst_ap, ul]
      · have := hd q hq
        unfold DI at this ⊢
        simpa [wst_ap, show q ≠ i by omega] using this
      · unfold DI
        simp [wst_ap, scN]
    · obtain ⟨v, rfl, vc, vm, v20, vl, hd1, hd2⟩ := hs
      refine bk_29_49 ?_
      rw [if_pos (by omega)]
      rw [wr_id (x := (i : Int) * 2) (by omega) (by omega), wr_id (x := (i : Int) * 2 + t) (by omega) (by omega)]
      have h1 := rolF_b hR i t j k
      have h8 := hR.M_rolls
      refine CalE.to (find_ok vc vm hE hR (p := i) (t := t) (by omega) (by omega)) (by decide) ?_
      have e1 : ∀ f : Wd → Int → Int, f = valF ∨ f = wroF → f τ (if rolF τ i t j k < 0 then -9 else rolF τ i t j k) = f τ (rolF τ i t j k) := by
        intro f hf
        split
        · rename_i hlt
          rcases hf with rfl | rfl <;> simp [valF, wroF, hlt]
        · rfl
      refine CalE.to (valueOf_ok vc hE hR (by split <;> omega)) (by decide) ?_
      refine CalE.to (wrongOf_ok vc hE hR (by split <;> omega)) (by decide) ?_
      rw [e1 valF (Or.inl rfl), e1 wroF (Or.inr rfl)]
      have hval : 0 ≤ valF τ (rolF τ i t j k) ∧ valF τ (rolF τ i t j k) ≤ 9999 := by
        unfold valF
        have := hR.M_rValue (rolF τ i t j k).toNat
        split <;> omega
      have hwro : 0 ≤ wroF τ (rolF τ i t j k) ∧ wroF τ (rolF τ i t j k) ≤ 999 := by
        unfold wroF
        have := hR.M_rWrong (rolF τ i t j k).toNat
        split <;> omega
      have t0 := trm_c hR i j k t
      have b0 := trm_b hR i j k 0 t (by omega)
      have b1 := trm_b hR i j k (-1) t (by omega)
      have b2' := trm_b hR i j k 1 t (by omega)
      have s0 := scN_b hR i j k 0 (by omega) t
      have s1 := scN_b hR i j k (-1) (by omega) t
      have s2 := scN_b hR i j k 1 (by omega) t
      have hw := hR.M_weights t
      have m : ∀ x : Int, 0 ≤ x → x ≤ 10998 → 0 ≤ x * τ 153 t ∧ x * τ 153 t ≤ 10998 * 99 := fun x h0 h1 => ⟨Int.mul_nonneg h0 hw.1, Int.mul_le_mul h1 hw.2 hw.1 (by omega)⟩
      have m0 := m _ b0.1 b0.2
      have m1 := m _ b1.1 b1.2
      have m2 := m _ b2'.1 b2'.2
      obtain ⟨d1, d2, d3, d4⟩ := hd2
      have p0 : wr (scN τ i j k 0 t + wr (valF τ (rolF τ i t j k) * τ 153 t)) = scN τ i j k 0 (t + 1) := by
        rw [scN_s, ← t0.1, Int.mul_comm (τ 153 t), wr_id (x := trm τ i j k 0 t * _) (by omega) (by omega), wr_id (by omega) (by omega)]
      have p1 : wr (scN τ i j k (-1) t + wr (max 0 (wr (valF τ (rolF τ i t j k) - wroF τ (rolF τ i t j k))) * τ 153 t)) = scN τ i j k (-1) (t + 1) := by
        rw [wr_id (x := valF τ (rolF τ i t j k) - _) (by omega) (by omega), scN_s, ← t0.2.1, Int.mul_comm (τ 153 t), wr_id (x := trm τ i j k (-1) t * _) (by omega) (by omega), wr_id (by omega) (by omega)]
      have p2 : wr (scN τ i j k 1 t + wr (wr (valF τ (rolF τ i t j k) + wroF τ (rolF τ i t j k)) * τ 153 t)) = scN τ i j k 1 (t + 1) := by
        rw [wr_id (x := valF τ (rolF τ i t j k) + _) (by omega) (by omega), scN_s, ← t0.2.2, Int.mul_comm (τ 153 t), wr_id (x := trm τ i j k 1 t * _) (by omega) (by omega), wr_id (by omega) (by omega)]
      have tail : ∀ s2 : Int, s2 = valF τ (rolF τ i 0 j k) → Ev none (Cal 1) (cd 29) Q (109, [some (.inr (.inr 7)), none, some (.inl j), some (.inl k), some (.inl (i : Int)), some (.inl (t : Int)), none, some (.inl (valF τ (rolF τ i t j k))), some (.inl (wroF τ (rolF τ i t j k)))], [.inl s2, .inl (i : Int), .inr (.inr 110)], v) := by
        intro s2 hs2
        refine bk_29_109 ?_
        simp only [tn]
        refine ⟨⟨by omega, by omega⟩, ⟨by omega, by omega⟩, ⟨by omega, by omega⟩, ⟨by omega, by omega⟩, ⟨by omega, by omega⟩, ⟨by omega, by omega⟩, ⟨by omega, by omega⟩, ⟨by omega, by omega⟩, ⟨by omega, by omega⟩, ⟨by omega, by omega⟩, ?_⟩
        have hwt : v 109 t = τ 153 t := by rw [r109 vc, hE.Rolls_weights]
        simp only [wst_ap, tn, hwt, d1, d2, d3, Nat.reduceEqDiff, false_and, if_false, and_self, if_true]
        rw [p0, p1, p2, wr_s (show t < 2000000 by omega)]
        refine h2 _ ⟨_, rfl, ?_, ?_, v20, ?_, fun q hq => ?_, ?_⟩
        · rw [pc_out rfl, pc_out rfl, pc_out rfl, pc_out rfl]; exact vc
        · rw [pm_out rfl, pm_out rfl, pm_out rfl, pm_out rfl]; exact vm
        · simp [wst_ap, vl]
        · have := hd1 q hq
          unfold DI at this ⊢
          simpa [wst_ap, show q ≠ i by omega] using this
        · unfold DI
          simp [wst_ap, hs2]
      split
      · rename_i ht0
        obtain rfl : t = 0 := by omega
        exact tail _ rfl
      · rename_i ht0
        refine ⟨⟨by omega, by omega⟩, ?_⟩
        exact tail _ (d4 (by omega))
    · obtain ⟨v, rfl, vc, vm, v20, vl, hd1, hd2⟩ := hs
      refine bk_29_49 ?_
      rw [if_neg (by omega), wr_s (show i < 2000000 by omega)]
      refine h _ ⟨_, rfl, vc, vm, v20, vl, fun q hq => ?_⟩
      rcases Nat.lt_or_ge q i with z | z
      · exact hd1 q z
      · obtain rfl : q = i := by omega
        exact hd2
  · obtain ⟨u, rfl, uc, um, u20, ul, hd⟩ := hs
    refine bk_29_13 ?_
    simp only [ul, tn]
    rw [if_neg (by omega)]
    subst hQ
    refine ⟨⟨ul, fun q hq => ?_⟩, uc, um, u20⟩
    obtain ⟨d1, d2, d3, d4⟩ := hd q (by omega)
    exact ⟨d4 (by omega), d1, d2, d3⟩
theorem findFactsK_ok (hm : pm w = τ) (hR : RNG τ) {who p d : Int} (hd : -365 ≤ d ∧ d ≤ 2000) (hw : 0 ≤ who ∧ who < 40) : Cal 1 192 [.inr (.inr 12), .inl who, .inl p, .inl d] w (rV fun u => (∀ i, i < 5 → u 167 i = fcF τ who p d i) ∧ pm u = τ ∧ pc u = pc w ∧ ∀ c, ¬ c = 167 → u c = w c) := by
  have hb := hR.M_rights
  generalize hQ : (rV fun u => (∀ i, i < 5 → u 167 i = fcF τ who p d i) ∧ pm u = τ ∧ pc u = pc w ∧ ∀ c, ¬ c = 167 → u c = w c) = Q
  have key2 := Ev.inv (sc := none) (C := Cal 0) (cdk := cd 192) (Q := Q) (N := (τ 12 19).toNat) (I := fun i s => ∃ u : Wd, s = (29, [some (.inr (.inr 12)), some (.inl who), some (.inl p), some (.inl d), some (.inl (fcN τ who p d i).2.2.2), some (.inl (i : Int))], [], u) ∧ pc u = pc w ∧ pm u = τ ∧ u 167 0 = (fcN τ who p d i).1 ∧ u 167 1 = (fcN τ who p d i).2.1 ∧ u 167 2 = (fcN τ who p d i).2.2.1 ∧ ∀ c, ¬ c = 167 → u c = w c) (fun i hi s hs h => ?_) (fun s hs => ?_) 0 (Nat.zero_le _)
  · have key := Ev.count (sc := none) (C := Cal 0) (cdk := cd 192) (Q := Q) (N := 5) (S := fun i => (3, [some (.inr (.inr 12)), some (.inl who), some (.inl p), some (.inl d), some (.inl (i : Int)), none], [], fil w 167 0 i)) (fun i hi h => ?_) ?_ 0 (Nat.zero_le _)
    · refine en_192 ?_
      refine key.cast ?_
      have : w = fil w 167 0 0 := by funext c j; simp [fil]
      rw [← this]
      rfl
    · refine bk_192_3 ?_
      rw [if_pos (by omega)]
      refine ⟨⟨by omega, by omega⟩, ?_⟩
      rw [tn, fil_s, wr_s (by omega)]
      exact h
    · refine bk_192_3 ?_
      rw [if_neg (by omega)]
      refine key2 _ ⟨_, rfl, fil_msk (fun _ => rfl), ?_, ?_, ?_, ?_, off_f (fun _ _ => rfl)⟩
      · exact (fil_msk (fun _ => rfl)).trans hm
      all_goals simp [fil, fcN]
  · obtain ⟨u, rfl, uc, um, u0, u1, u2, uo⟩ := hs
    refine bk_192_29 ?_
    have b := fcN_b hR who p d hd.2 i
    have h1 := hR.M_gSince i
    have h2 := hR.M_gSize i
    have h3 := hR.M_gKind i
    simp only [r12_19 um, r159 um, r160 um, r163 um, r164 um, r161 um, r162 um, tn, u0, u1, u2, wr_s (show i < 2000000 by omega)]
    rw [if_pos (by omega)]
    have h' : ∀ (x : Int) (v : Wd), x = (fcN τ who p d (i + 1)).2.2.2 → pc v = pc w → pm v = τ → v 167 0 = (fcN τ who p d (i + 1)).1 → v 167 1 = (fcN τ who p d (i + 1)).2.1 → v 167 2 = (fcN τ who p d (i + 1)).2.2.1 → (∀ c, ¬ c = 167 → v c = w c) → Ev none (Cal 0) (cd 192) Q (29, [some (.inr (.inr 12)), some (.inl who), some (.inl p), some (.inl d), some (.inl x), some (.inl ((i + 1 : Nat) : Int))], [], v) := fun x v e a b c d e' f' => h _ ⟨v, by rw [e], a, b, c, d, e', f'⟩
    rw [wr_id (x := d - τ 163 i) (by omega) (by omega), wr_id (x := d - τ 163 i + 1) (by omega) (by omega)]
    have hwr : τ 161 i = 1 → wr ((fcN τ who p d i).2.1 + τ 162 i) = (fcN τ who p d i).2.1 + τ 162 i := fun q => wr_id (by omega) (by omega)
    repeat' (first | split | (refine And.intro (by first | omega | exact Or.inl trivial | exact Or.inr trivial | exact ⟨trivial, trivial⟩ | fail) ?_) | fail)
    all_goals refine h' _ _ ?_ ?_ ?_ ?_ ?_ ?_ (by first | exact uo | exact off_w uo)
    all_goals (first | (rw [pc_out rfl]; exact uc) | exact uc | (rw [pm_out rfl]; exact um) | exact um | skip)
    all_goals (first | (rw [fcN_s, if_neg (by omega)] <;> first | assumption | rfl) | (rw [fcN_s, if_pos (by omega)] <;> (simp [wst_ap, *]; done)) | (rw [fcN_s, if_pos (by omega)] <;> (simp [wst_ap, *]; omega)) | skip)
  · obtain ⟨u, rfl, uc, um, u0, u1, u2, uo⟩ := hs
    refine bk_192_29 ?_
    simp only [r12_19 um, r154 um, r155 um]
    rw [if_neg (by omega)]
    have h4 := hR.M_since who.toNat
    rw [wr_id (x := d - τ 155 who.toNat) (by omega) (by omega), wr_id (x := d - τ 155 who.toNat + 1) (by omega) (by omega)]
    subst hQ
    repeat' (first | split | (refine And.intro (by first | omega | exact Or.inl trivial | exact Or.inr trivial | exact ⟨trivial, trivial⟩ | fail) ?_) | fail)
    all_goals (refine ⟨fun i hi => ?_, ?_, ?_, off_w (off_w uo)⟩)
    all_goals (first | (rw [pc_out rfl, pc_out rfl]; exact uc) | (rw [pm_out rfl, pm_out rfl]; exact um) | skip)
    all_goals (obtain rfl | rfl | rfl | rfl | rfl : i = 0 ∨ i = 1 ∨ i = 2 ∨ i = 3 ∨ i = 4 := by omega)
    all_goals (simp [wst_ap, fcF, *] <;> omega)
theorem addToFactsK_ok (hc : pc w = κ) (hm : pm w = τ) (hE : EQ κ τ) (hR : RNG τ) {who p d : Int} (hd : -365 ≤ d ∧ d ≤ 2000) {i : Nat} (hi : (i : Int) < τ 12 19) (hI : FI τ who p d i w) (ha : τ 159 i = who ∧ τ 160 i = p ∧ τ 163 i ≤ d ∧ d < τ 164 i) : Cal 1 79 [.inr (.inr 3), .inl (i : Int), .inl d] w (rV fun u => FI τ who p d (i + 1) u ∧ pc u = κ ∧ pm u = τ ∧ ∀ c, ¬ c = 65 → u c = w c) := by
  refine en_79 ?_
  obtain ⟨u0, u1, u2, u3⟩ := hI
  have hb := hR.M_rights
  have b := fcN_b hR who p d hd.2 i
  have h1 := hR.M_gSince i
  have h2 := hR.M_gSize i
  have h3 := hR.M_gKind i
  simp only [r61 hc, hE.People_rightKinds, r63 hc, hE.People_rightSinces, r62 hc, hE.People_rightValues, tn, u0, u1, u2]
  have hwr : τ 161 i = 1 → wr ((fcN τ who p d i).2.1 + τ 162 i) = (fcN τ who p d i).2.1 + τ 162 i := fun q => wr_id (by omega) (by omega)
  rw [wr_id (x := d - τ 163 i) (by omega) (by omega), wr_id (x := d - τ 163 i + 1) (by omega) (by omega)]
  repeat' (first | split | (refine And.intro (by first | omega | exact Or.inl trivial | exact Or.inr trivial | exact ⟨trivial, trivial⟩ | fail) ?_) | fail)
  all_goals refine ⟨⟨?_, ?_, ?_, ?_⟩, ?_, ?_, off_w (fun _ _ => rfl)⟩
  all_goals (first | (rw [pc_out rfl]; exact hc) | (rw [pm_out rfl]; exact hm) | skip)
  all_goals (first | (rw [fcN_s, if_pos ha] <;> (simp [wst_ap, *]; done)) | (rw [fcN_s, if_pos ha] <;> (simp [wst_ap, *]; omega)) | (simp [wst_ap, *]; done) | skip)
  all_goals (have hk : τ 161 i = 2 := by omega)
  all_goals (rw [fcN_s, if_pos ha]; simp only [wst_ap, hk]; simp <;> (repeat' split) <;> omega)
theorem gatherK_ok (hc : pc w = κ) (hm : pm w = τ) (hE : EQ κ τ) (hR : RNG τ) {who p d : Int} (hd : -365 ≤ d ∧ d ≤ 2000) (hw : 0 ≤ who ∧ who < 40) : Cal 2 78 [.inr (.inr 3), .inl who, .inl p, .inl d] w (rV fun u => (∀ i, i < 5 → u 65 i = fcF τ who p d i) ∧ pc u = κ ∧ pm u = τ ∧ ∀ c, ¬ c = 65 → u c = w c) := by
  have hb := hR.M_rights
  generalize hQ : (rV fun u => (∀ i, i < 5 → u 65 i = fcF τ who p d i) ∧ pc u = κ ∧ pm u = τ ∧ ∀ c, ¬ c = 65 → u c = w c) = Q
  have key := Ev.inv (sc := none) (C := Cal 1) (cdk := cd 78) (Q := Q) (N := (τ 12 19).toNat) (I := fun i s => ∃ u : Wd, s = (66, [some (.inr (.inr 3)), some (.inl who), some (.inl p), some (.inl d), none, some (.inl (fcN τ who p d i).2.2.2), some (.inl (i : Int)), none], [], u) ∧ pc u = κ ∧ pm u = τ ∧ FI τ who p d i u ∧ ∀ c, ¬ c = 65 → u c = w c) (fun i hi s hs h => ?_) (fun s hs => ?_) 0 (Nat.zero_le _)
  · refine en_78 ?_
    refine CalVE.to (fill_ok (n := 5) rfl (by omega)) (by decide) ?_
    have fc : pc (fil w 65 0 (5 : Int).toNat) = κ := (fil_msk (fun _ => rfl)).trans hc
    have fm : pm (fil w 65 0 (5 : Int).toNat) = τ := (fil_msk (fun _ => rfl)).trans hm
    have h4 := hR.M_since who.toNat
    simp only [r54 fc, hE.People_homes, r55 fc, hE.People_sinces]
    rw [wr_id (x := d - τ 155 who.toNat) (by omega) (by omega), wr_id (x := d - τ 155 who.toNat + 1) (by omega) (by omega)]
    repeat' (first | split | (refine And.intro (by first | omega | exact Or.inl trivial | exact Or.inr trivial | exact ⟨trivial, trivial⟩ | fail) ?_) | fail)
    all_goals refine key _ ⟨_, rfl, ?_, ?_, ?_, off_w (off_f (fun _ _ => rfl))⟩
    all_goals (first | (rw [pc_out rfl]; exact fc) | (rw [pm_out rfl]; exact fm) | skip)
    all_goals unfold FI
    all_goals (simp [wst_ap, fil_ap, fcN, fcF, *] <;> omega)
  · obtain ⟨u, rfl, uc, um, uf, uo⟩ := hs
    refine bk_78_66 ?_
    have he := hE.ends i
    simp only [r3_12 uc, hE.People_rights, r59 uc, hE.People_rightPersons, r60 uc, hE.People_rightPlaces, r63 uc, hE.People_rightSinces, r64 uc, r61 uc, hE.People_rightKinds, tn, wr_s (show i < 2000000 by omega)]
    rw [if_pos (by omega)]
    have hno : ∀ (x : Int), ¬ (τ 159 i = who ∧ τ 160 i = p ∧ τ 163 i ≤ d ∧ d < τ 164 i) → x = (fcN τ who p d i).2.2.2 → Ev none (Cal 1) (cd 78) Q (66, [some (.inr (.inr 3)), some (.inl who), some (.inl p), some (.inl d), none, some (.inl x), some (.inl ((i + 1 : Nat) : Int)), none], [], u) := fun x hn e => h _ ⟨u, by rw [fcN_s, if_neg hn, e], uc, um, by unfold FI at uf ⊢; rw [fcN_s, if_neg hn]; exact uf, uo⟩
    repeat' (first | split | (refine And.intro (by first | omega | exact Or.inl trivial | exact Or.inr trivial | exact ⟨trivial, trivial⟩ | fail) ?_) | fail)
    all_goals (first | exact hno _ (by omega) rfl | skip)
    have ha : τ 159 i = who ∧ τ 160 i = p ∧ τ 163 i ≤ d ∧ d < τ 164 i := by omega
    refine CalV.to (addToFactsK_ok uc um hE hR hd (by omega) uf ha) (by decide) ?_
    rintro v ⟨v1, v2, v3, v4⟩
    exact h _ ⟨v, by rw [fcN_s, if_pos ha], v2, v3, v1, fun c hc => (v4 c hc).trans (uo c hc)⟩
  · obtain ⟨u, rfl, uc, um, ⟨u0, u1, u2, u3⟩, uo⟩ := hs
    refine bk_78_66 ?_
    simp only [r3_12 uc, hE.People_rights]
    rw [if_neg (by omega)]
    subst hQ
    repeat' (first | split | (refine And.intro (by first | omega | exact Or.inl trivial | exact Or.inr trivial | exact ⟨trivial, trivial⟩ | fail) ?_) | fail)
    all_goals (refine ⟨fun i hi => ?_, ?_, ?_, off_w uo⟩)
    all_goals (first | (rw [pc_out rfl]; exact uc) | (rw [pm_out rfl]; exact um) | skip)
    all_goals (obtain rfl | rfl | rfl | rfl | rfl : i = 0 ∨ i = 1 ∨ i = 2 ∨ i = 3 ∨ i = 4 := by omega)
    all_goals (first | (simp [wst_ap, u3]; done) | (simp [wst_ap, fcF, *]))
end
