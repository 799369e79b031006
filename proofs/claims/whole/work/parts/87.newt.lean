/-! a new text or petition: what is kept -/
theorem OKT.tape0 {T : Wd → Wd → Prop} (hT : TFr T) {κ τ : Wd} (h : OKT T κ τ) : OKT T (wst κ 9 1 0) (wst τ 12 30 0) := by
  obtain ⟨hE, hR, ht⟩ := h
  refine ⟨⟨hE.R_today, hE.R_rowSize, hE.Places_size, hE.Places_olds, hE.Rolls_size, hE.People_size, hE.People_rights, ?_, hE.Texts_size, hE.Petitions_size, hE.Sales_size, hE.Members_size, hE.Bill_size, hE.R_row, hE.Places_seats, hE.Places_patrons, hE.Places_bases, hE.Places_sides, hE.Places_oldPlaces, hE.Places_oldTexts, hE.Places_oldDays, hE.Rolls_asOf, hE.Rolls_toldOn, hE.Rolls_values, hE.Rolls_wrongs, hE.Rolls_weights, hE.People_homes, hE.People_sinces, hE.People_wishes, hE.People_debts, hE.People_away, hE.People_rightPersons, hE.People_rightPlaces, hE.People_rightKinds, hE.People_rightValues, hE.People_rightSinces, hE.Tape_bytes, hE.Sales_sold, hE.Sales_froms, hE.Sales_tos, hE.Members_leans, hE.Bill_kinds, hE.Bill_amounts, hE.Bill_limits, hE.Bill_needs, hE.Knots_bars, hE.Knots_reads, hE.refu, hE.subj, hE.ends, hE.inKn, hE.told0, hE.told1, hE.told2, hE.told3, hE.told4, hE.told5, hE.told6, hE.told7, hE.told8, hE.told9, hE.want0, hE.want1, hE.want2, hE.want3, hE.want4, hE.want5, hE.want6, hE.want7, hE.leas0, hE.leas1, hE.leas2, hE.leas3, hE.leas4, hE.leas5, hE.leas6, hE.leas7, hE.most0, hE.most1, hE.most2, hE.most3, hE.most4, hE.most5, hE.most6, hE.most7, hE.plan0⟩, ⟨hR.M_day, hR.M_places, hR.M_sends, hR.M_patronOf, hR.M_bases, hR.M_sideOf, hR.M_rolls, hR.M_rDay, hR.M_rTold, hR.M_rValue, hR.M_rWrong, hR.M_weights, hR.M_rPlace, hR.M_rWhat, hR.M_people, hR.M_home, hR.M_since, hR.M_wish, hR.M_debt, hR.M_isGone, hR.M_rights, hR.M_gWho, hR.M_gPlace, hR.M_gKind, hR.M_gSize, hR.M_gSince, ?_, hR.M_tape, hR.M_texts, hR.M_petitions, hR.M_writtenMany, hR.M_olds, hR.M_oPlace, hR.M_oDay, hR.M_oText, hR.M_sales, hR.M_sPlace, hR.M_sFrom, hR.M_toldFact, hR.M_members, hR.M_knot, hR.M_lean, hR.M_lines, hR.M_lKind, hR.M_lMany, hR.M_lX, hR.M_lHangs, hR.M_lText, hR.M_wants, hR.M_bars, hR.M_reads, hR.M_leastThere, hR.M_mostThere, hR.M_rowMany⟩, hT κ _ τ _ ⟨rfl, rfl, fun r hr => ?_, rfl, rfl, rfl, rfl, rfl, rfl⟩ ht⟩
  · simp [wst_ap]
  · simp [wst_ap]
  · (funext j; simp only [wst_ap]; repeat (rw [if_neg (by omega)]));
/-- a row of steps kept -/
def rowL (κ : Wd) (t : Nat) (T : List Int) : Wd := fun c j => if 120 ≤ c ∧ c ≤ 139 then (if c = 120 + t ∧ j < T.length then T.getD j 0 else κ c j) else κ c j
/-- n bytes of the tape written as text t -/
def cpy (τ : Wd) (t n : Nat) : Wd := fun c j => if c = 169 ∧ 40 * t ≤ j ∧ j < 40 * t + n then τ 168 (j - 40 * t) else τ c j
def tld (τ : Wd) (p k : Nat) : Wd := fun c j => if c = 179 ∧ 4 * p ≤ j ∧ j < 4 * p + k then 2 else τ c j
def rowT (κ : Wd) (p : Nat) : Wd := fun c j => if 68 ≤ c ∧ c ≤ 77 then (if c = 68 + p ∧ j < 4 then 2 else κ c j) else κ c j
theorem cpy_0 (τ : Wd) (t : Nat) : cpy τ t 0 = τ := by
  funext c j
  unfold cpy
  rw [if_neg (by omega)]
theorem cpy_s (τ : Wd) (t k : Nat) : wst (cpy τ t k) 169 (40 * t + k) (τ 168 k) = cpy τ t (k + 1) := by
  funext c j
  rw [wst_ap]
  unfold cpy
  by_cases q : c = 169
  · by_cases q1 : j = 40 * t + k
    · rw [if_pos ⟨q, q1⟩, if_pos ⟨q, by omega, by omega⟩, show j - 40 * t = k by omega]
    · rw [if_neg (fun z => q1 z.2)]
      by_cases q2 : 40 * t ≤ j ∧ j < 40 * t + k
      · rw [if_pos ⟨q, q2⟩, if_pos ⟨q, by omega, by omega⟩]
      · rw [if_neg (fun z => q2 z.2), if_neg (fun z => q2 (by omega))]
  · rw [if_neg (fun z => q z.1), if_neg (fun z => q z.1), if_neg (fun z => q z.1)]
theorem tld_0 (τ : Wd) (p : Nat) : tld τ p 0 = τ := by
  funext c j
  unfold tld
  rw [if_neg (by omega)]
theorem tld_s (τ : Wd) (p k : Nat) : wst (tld τ p k) 179 (4 * p + k) 2 = tld τ p (k + 1) := by
  funext c j
  rw [wst_ap]
  unfold tld
  by_cases q : c = 179
  · by_cases q1 : j = 4 * p + k
    · rw [if_pos ⟨q, q1⟩, if_pos ⟨q, by omega, by omega⟩]
    · rw [if_neg (fun z => q1 z.2)]
      by_cases q2 : 4 * p ≤ j ∧ j < 4 * p + k
      · rw [if_pos ⟨q, q2⟩, if_pos ⟨q, by omega, by omega⟩]
      · rw [if_neg (fun z => q2 z.2), if_neg (fun z => q2 (by omega))]
  · rw [if_neg (fun z => q z.1), if_neg (fun z => q z.1), if_neg (fun z => q z.1)]
theorem getD_e {T : List Int} {k : Nat} {x : Int} (h : T[k]? = some x) : T.getD k 0 = x := by
  rw [List.getD_eq_getElem?_getD, h]
  rfl
/-- a text more -/
theorem OKT.newt {κ τ : Wd} (h : OKT TXT κ τ) {t n : Nat} (ht : τ 12 31 = (t : Int)) (h20 : t < 20) {T : List Int} (hn : n ≤ 40) (hd : DER 0 (hdF (τ 168) n) 3 0 0 true n T) : OKT TXT (wst (wst (rowL κ t T) 140 t (T.length : Int)) 10 2 ((t : Int) + 1)) (wst (wst (cpy τ t n) 170 t (n : Int)) 12 31 ((t : Int) + 1)) := by
  obtain ⟨hE, hR, x1, x2, x3, x4⟩ := h
  refine ⟨⟨hE.R_today, hE.R_rowSize, hE.Places_size, hE.Places_olds, hE.Rolls_size, hE.People_size, hE.People_rights, hE.Tape_size, ?_, hE.Petitions_size, hE.Sales_size, hE.Members_size, hE.Bill_size, hE.R_row, hE.Places_seats, hE.Places_patrons, hE.Places_bases, hE.Places_sides, hE.Places_oldPlaces, hE.Places_oldTexts, hE.Places_oldDays, hE.Rolls_asOf, hE.Rolls_toldOn, hE.Rolls_values, hE.Rolls_wrongs, hE.Rolls_weights, hE.People_homes, hE.People_sinces, hE.People_wishes, hE.People_debts, hE.People_away, hE.People_rightPersons, hE.People_rightPlaces, hE.People_rightKinds, hE.People_rightValues, hE.People_rightSinces, hE.Tape_bytes, hE.Sales_sold, hE.Sales_froms, hE.Sales_tos, hE.Members_leans, hE.Bill_kinds, hE.Bill_amounts, hE.Bill_limits, hE.Bill_needs, hE.Knots_bars, hE.Knots_reads, hE.refu, hE.subj, hE.ends, hE.inKn, hE.told0, hE.told1, hE.told2, hE.told3, hE.told4, hE.told5, hE.told6, hE.told7, hE.told8, hE.told9, hE.want0, hE.want1, hE.want2, hE.want3, hE.want4, hE.want5, hE.want6, hE.want7, hE.leas0, hE.leas1, hE.leas2, hE.leas3, hE.leas4, hE.leas5, hE.leas6, hE.leas7, hE.most0, hE.most1, hE.most2, hE.most3, hE.most4, hE.most5, hE.most6, hE.most7, hE.plan0⟩, ⟨hR.M_day, hR.M_places, hR.M_sends, hR.M_patronOf, hR.M_bases, hR.M_sideOf, hR.M_rolls, hR.M_rDay, hR.M_rTold, hR.M_rValue, hR.M_rWrong, hR.M_weights, hR.M_rPlace, hR.M_rWhat, hR.M_people, hR.M_home, hR.M_since, hR.M_wish, hR.M_debt, hR.M_isGone, hR.M_rights, hR.M_gWho, hR.M_gPlace, hR.M_gKind, hR.M_gSize, hR.M_gSince, hR.M_tapeMany, hR.M_tape, ?_, hR.M_petitions, ?_, hR.M_olds, hR.M_oPlace, hR.M_oDay, ?_, hR.M_sales, hR.M_sPlace, hR.M_sFrom, hR.M_toldFact, hR.M_members, hR.M_knot, hR.M_lean, hR.M_lines, hR.M_lKind, hR.M_lMany, hR.M_lX, hR.M_lHangs, ?_, hR.M_wants, hR.M_bars, hR.M_reads, hR.M_leastThere, hR.M_mostThere, hR.M_rowMany⟩, ?_, ?_, ?_, ?_⟩
  · simp [wst_ap]
  · simp [wst_ap]; omega
  · intro j; have := hR.M_writtenMany j; show 0 ≤ (if 170 = 170 ∧ j = t then (n : Int) else τ 170 j) ∧ (if 170 = 170 ∧ j = t then (n : Int) else τ 170 j) ≤ 40; split <;> omega
  · intro j hj
    have := hR.M_oText j hj
    show 0 ≤ τ 174 j ∧ τ 174 j < (t : Int) + 1
    omega
  · intro j hj hk
    have := hR.M_lText j hj hk
    show τ 185 j < (t : Int) + 1
    omega
  · intro j
    show 0 ≤ (if 169 = 169 ∧ 40 * t ≤ j ∧ j < 40 * t + n then τ 168 (j - 40 * t) else τ 169 j) ∧ (if 169 = 169 ∧ 40 * t ≤ j ∧ j < 40 * t + n then τ 168 (j - 40 * t) else τ 169 j) ≤ 255
    split
    · exact hR.M_tape _
    · exact x1 j
  · intro t' ht'
    have ht2 : (t' : Int) < (t : Int) + 1 := ht'
    refine ⟨by omega, ?_⟩
    by_cases q : t' = t
    · subst q
      refine ⟨T, ?_, ?_, fun k x hk => ?_⟩
      · have e1 : nT (wst (wst (cpy τ t' n) 170 t' (n : Int)) 12 31 ((t' : Int) + 1)) t' = n := by
          show (if 170 = 170 ∧ t' = t' then (n : Int) else τ 170 t').toNat = n
          rw [if_pos ⟨rfl, rfl⟩]
          rfl
        have e2 : hdT (wst (wst (cpy τ t' n) 170 t' (n : Int)) 12 31 ((t' : Int) + 1)) t' = hdF (τ 168) n := by
          funext i
          unfold hdT hdF
          rw [e1]
          by_cases g : i < n
          · rw [if_pos g, if_pos g]
            show (if 169 = 169 ∧ 40 * t' ≤ 40 * t' + i ∧ 40 * t' + i < 40 * t' + n then τ 168 (40 * t' + i - 40 * t') else τ 169 (40 * t' + i)) = _
            rw [if_pos ⟨rfl, by omega, by omega⟩, show 40 * t' + i - 40 * t' = i by omega]
          · rw [if_neg g, if_neg g]
        rw [e1, e2]
        exact hd
      · show (if 140 = 140 ∧ t' = t' then (T.length : Int) else _) = _
        rw [if_pos ⟨rfl, rfl⟩]
      · have hk2 : k < T.length := by
          rcases Nat.lt_or_ge k T.length with g | g
          · exact g
          · rw [List.getElem?_eq_none g] at hk
            exact absurd hk (by simp)
        rw [wst_ap, if_neg (by omega), wst_ap, if_neg (by omega)]
        unfold rowL
        rw [if_pos (by omega), if_pos ⟨rfl, hk2⟩]
        exact getD_e hk
    · obtain ⟨_, T', t1, t2, t3⟩ := x2 t' (by omega)
      have hw := nT_40 hR t'
      have hh := hdT_c (τ := τ) (τ' := wst (wst (cpy τ t n) 170 t (n : Int)) 12 31 ((t : Int) + 1)) (t := t') (by
        show (if 170 = 170 ∧ t' = t then (n : Int) else τ 170 t') = _
        rw [if_neg (fun z => q z.2)]) (fun i hi => by
        show (if 169 = 169 ∧ 40 * t ≤ 40 * t' + i ∧ 40 * t' + i < 40 * t + n then τ 168 (40 * t' + i - 40 * t) else τ 169 (40 * t' + i)) = _
        rw [if_neg (by omega)])
      refine ⟨T', ?_, ?_, fun k x hk => ?_⟩
      · rw [hh.1, hh.2]
        exact t1
      · show (if 140 = 140 ∧ t' = t then (T.length : Int) else κ 140 t') = _
        rw [if_neg (fun z => q z.2)]
        exact t2
      · rw [wst_ap, if_neg (by omega), wst_ap, if_neg (by omega)]
        unfold rowL
        rw [if_pos (by omega), if_neg (fun z => q (by omega))]
        exact t3 k x hk
  · intro p hp
    obtain ⟨T', t1, t2⟩ := x3 p hp
    have hw := nT_40 hR (20 + p)
    have hh := hdT_c (τ := τ) (τ' := wst (wst (cpy τ t n) 170 t (n : Int)) 12 31 ((t : Int) + 1)) (t := 20 + p) (by
      show (if 170 = 170 ∧ 20 + p = t then (n : Int) else τ 170 (20 + p)) = _
      rw [if_neg (by omega)]) (fun i hi => by
      show (if 169 = 169 ∧ 40 * t ≤ 40 * (20 + p) + i ∧ 40 * (20 + p) + i < 40 * t + n then τ 168 (40 * (20 + p) + i - 40 * t) else τ 169 (40 * (20 + p) + i)) = _
      rw [if_neg (by omega)])
    refine ⟨T', ?_, t2⟩
    rw [hh.1, hh.2]
    exact t1
  · exact x4
/-- a petition more -/
theorem OKT.newp {κ τ : Wd} (h : OKT TXT κ τ) {p n z : Nat} (ht : τ 12 32 = (p : Int)) (h20 : p < 10) {T : List Int} (hn : n ≤ 40) (hd : DER 1 (hdF (τ 168) n) 3 0 0 true n T) (hz : z < 65536) (hv : ∀ s, s < 16 → z.testBit s = vlF (fS s) 4 T) : OKT TXT (wst (rowT (wst κ 66 p (z : Int)) p) 4 2 ((p : Int) + 1)) (wst (tld (wst (cpy τ (20 + p) n) 170 (20 + p) (n : Int)) p 4) 12 32 ((p : Int) + 1)) := by
  obtain ⟨hE, hR, x1, x2, x3, x4⟩ := h
  have hrow : ∀ i : Nat, i < 10 → ∀ f : Nat, f < 4 → (if 68 + i = 68 + p ∧ f < 4 then (2 : Int) else κ (68 + i) f) = (if 179 = 179 ∧ 4 * p ≤ 4 * i + f ∧ 4 * i + f < 4 * p + 4 then (2 : Int) else τ 179 (4 * i + f)) := by
    intro i hi f hf
    by_cases q : i = p
    · rw [if_pos ⟨by omega, hf⟩, if_pos ⟨rfl, by omega, by omega⟩]
    · rw [if_neg (fun y => q (by omega)), if_neg (by omega)]
      exact hE.told i f hi hf
  refine ⟨⟨hE.R_today, hE.R_rowSize, hE.Places_size, hE.Places_olds, hE.Rolls_size, hE.People_size, hE.People_rights, hE.Tape_size, hE.Texts_size, ?_, hE.Sales_size, hE.Members_size, hE.Bill_size, hE.R_row, hE.Places_seats, hE.Places_patrons, hE.Places_bases, hE.Places_sides, hE.Places_oldPlaces, hE.Places_oldTexts, hE.Places_oldDays, hE.Rolls_asOf, hE.Rolls_toldOn, hE.Rolls_values, hE.Rolls_wrongs, hE.Rolls_weights, hE.People_homes, hE.People_sinces, hE.People_wishes, hE.People_debts, hE.People_away, hE.People_rightPersons, hE.People_rightPlaces, hE.People_rightKinds, hE.People_rightValues, hE.People_rightSinces, hE.Tape_bytes, hE.Sales_sold, hE.Sales_froms, hE.Sales_tos, hE.Members_leans, hE.Bill_kinds, hE.Bill_amounts, hE.Bill_limits, hE.Bill_needs, hE.Knots_bars, hE.Knots_reads, hE.refu, hE.subj, hE.ends, hE.inKn, ?_, ?_, ?_, ?_, ?_, ?_, ?_, ?_, ?_, ?_, hE.want0, hE.want1, hE.want2, hE.want3, hE.want4, hE.want5, hE.want6, hE.want7, hE.leas0, hE.leas1, hE.leas2, hE.leas3, hE.leas4, hE.leas5, hE.leas6, hE.leas7, hE.most0, hE.most1, hE.most2, hE.most3, hE.most4, hE.most5, hE.most6, hE.most7, hE.plan0⟩, ⟨hR.M_day, hR.M_places, hR.M_sends, hR.M_patronOf, hR.M_bases, hR.M_sideOf, hR.M_rolls, hR.M_rDay, hR.M_rTold, hR.M_rValue, hR.M_rWrong, hR.M_weights, hR.M_rPlace, hR.M_rWhat, hR.M_people, hR.M_home, hR.M_since, hR.M_wish, hR.M_debt, hR.M_isGone, hR.M_rights, hR.M_gWho, hR.M_gPlace, hR.M_gKind, hR.M_gSize, hR.M_gSince, hR.M_tapeMany, hR.M_tape, hR.M_texts, ?_, ?_, hR.M_olds, hR.M_oPlace, hR.M_oDay, hR.M_oText, hR.M_sales, hR.M_sPlace, hR.M_sFrom, ?_, hR.M_members, hR.M_knot, hR.M_lean, hR.M_lines, hR.M_lKind, hR.M_lMany, hR.M_lX, hR.M_lHangs, hR.M_lText, hR.M_wants, hR.M_bars, hR.M_reads, hR.M_leastThere, hR.M_mostThere, hR.M_rowMany⟩, ?_, ?_, ?_, ?_⟩
  · simp [wst_ap]
  · exact hrow 0 (by decide)
  · exact hrow 1 (by decide)
  · exact hrow 2 (by decide)
  · exact hrow 3 (by decide)
  · exact hrow 4 (by decide)
  · exact hrow 5 (by decide)
  · exact hrow 6 (by decide)
  · exact hrow 7 (by decide)
  · exact hrow 8 (by decide)
  · exact hrow 9 (by decide)
  · simp [wst_ap]; omega
  · intro j; have := hR.M_writtenMany j; show 0 ≤ (if 170 = 170 ∧ j = 20 + p then (n : Int) else τ 170 j) ∧ (if 170 = 170 ∧ j = 20 + p then (n : Int) else τ 170 j) ≤ 40; split <;> omega
  · intro j; have := hR.M_toldFact j; show 0 ≤ (if 179 = 179 ∧ 4 * p ≤ j ∧ j < 4 * p + 4 then (2 : Int) else τ 179 j) ∧ (if 179 = 179 ∧ 4 * p ≤ j ∧ j < 4 * p + 4 then (2 : Int) else τ 179 j) ≤ 2; split <;> omega
  · intro j
    show 0 ≤ (if 169 = 169 ∧ 40 * (20 + p) ≤ j ∧ j < 40 * (20 + p) + n then τ 168 (j - 40 * (20 + p)) else τ 169 j) ∧ (if 169 = 169 ∧ 40 * (20 + p) ≤ j ∧ j < 40 * (20 + p) + n then τ 168 (j - 40 * (20 + p)) else τ 169 j) ≤ 255
    split
    · exact hR.M_tape _
    · exact x1 j
  · intro t' ht'
    obtain ⟨q, T', t1, t2, t3⟩ := x2 t' ht'
    have hw := nT_40 hR t'
    have hh := hdT_c (τ := τ) (τ' := wst (tld (wst (cpy τ (20 + p) n) 170 (20 + p) (n : Int)) p 4) 12 32 ((p : Int) + 1)) (t := t') (by
      show (if 170 = 170 ∧ t' = 20 + p then (n : Int) else τ 170 t') = _
      rw [if_neg (by omega)]) (fun i hi => by
      show (if 169 = 169 ∧ 40 * (20 + p) ≤ 40 * t' + i ∧ 40 * t' + i < 40 * (20 + p) + n then τ 168 (40 * t' + i - 40 * (20 + p)) else τ 169 (40 * t' + i)) = _
      rw [if_neg (by omega)])
    refine ⟨q, T', ?_, t2, fun k x hk => ?_⟩
    · rw [hh.1, hh.2]
      exact t1
    · rw [wst_ap, if_neg (by omega)]
      unfold rowT
      rw [if_neg (by omega), wst_ap, if_neg (by omega)]
      exact t3 k x hk
  · intro p' hp'
    have hp2 : (p' : Int) < (p : Int) + 1 := hp'
    by_cases q : p' = p
    · subst q
      refine ⟨T, ?_, z, ?_, hz, hv⟩
      · have e1 : nT (wst (tld (wst (cpy τ (20 + p') n) 170 (20 + p') (n : Int)) p' 4) 12 32 ((p' : Int) + 1)) (20 + p') = n := by
          show (if 170 = 170 ∧ 20 + p' = 20 + p' then (n : Int) else τ 170 (20 + p')).toNat = n
          rw [if_pos ⟨rfl, rfl⟩]
          rfl
        have e2 : hdT (wst (tld (wst (cpy τ (20 + p') n) 170 (20 + p') (n : Int)) p' 4) 12 32 ((p' : Int) + 1)) (20 + p') = hdF (τ 168) n := by
          funext i
          unfold hdT hdF
          rw [e1]
          by_cases g : i < n
          · rw [if_pos g, if_pos g]
            show (if 169 = 169 ∧ 40 * (20 + p') ≤ 40 * (20 + p') + i ∧ 40 * (20 + p') + i < 40 * (20 + p') + n then τ 168 (40 * (20 + p') + i - 40 * (20 + p')) else τ 169 (40 * (20 + p') + i)) = _
            rw [if_pos ⟨rfl, by omega, by omega⟩, show 40 * (20 + p') + i - 40 * (20 + p') = i by omega]
          · rw [if_neg g, if_neg g]
        rw [e1, e2]
        exact hd
      · show (if 66 = 66 ∧ p' = p' then (z : Int) else κ 66 p') = _
        rw [if_pos ⟨rfl, rfl⟩]
    · obtain ⟨T', t1, z', t2, t3⟩ := x3 p' (by omega)
      have hw := nT_40 hR (20 + p')
      have hh := hdT_c (τ := τ) (τ' := wst (tld (wst (cpy τ (20 + p) n) 170 (20 + p) (n : Int)) p 4) 12 32 ((p : Int) + 1)) (t := 20 + p') (by
        show (if 170 = 170 ∧ 20 + p' = 20 + p then (n : Int) else τ 170 (20 + p')) = _
        rw [if_neg (by omega)]) (fun i hi => by
        show (if 169 = 169 ∧ 40 * (20 + p) ≤ 40 * (20 + p') + i ∧ 40 * (20 + p') + i < 40 * (20 + p) + n then τ 168 (40 * (20 + p') + i - 40 * (20 + p)) else τ 169 (40 * (20 + p') + i)) = _
        rw [if_neg (by omega)])
      refine ⟨T', ?_, z', ?_, t3⟩
      · rw [hh.1, hh.2]
        exact t1
      · show (if 66 = 66 ∧ p' = p then (z : Int) else κ 66 p') = _
        rw [if_neg (fun y => q y.2)]
        exact t2
  · intro p' hp'
    have hp2 : (p : Int) + 1 ≤ (p' : Int) := hp'
    show (if 66 = 66 ∧ p' = p then (z : Int) else κ 66 p') = _
    rw [if_neg (by omega)]
    exact x4 p' (by omega)
