/-! public methods: what is kept between calls; refusals -/
/-- what a further relation of texts and petitions may depend on -/
def Teq (κ κ' τ τ' : Wd) : Prop := κ' 10 2 = κ 10 2 ∧ κ' 140 = κ 140 ∧ (∀ r, r < 20 → κ' (119 + 1 + r) = κ (119 + 1 + r)) ∧ κ' 4 2 = κ 4 2 ∧ κ' 66 = κ 66 ∧ τ' 12 31 = τ 12 31 ∧ τ' 12 32 = τ 12 32 ∧ τ' 169 = τ 169 ∧ τ' 170 = τ 170
def TFr (T : Wd → Wd → Prop) : Prop := ∀ κ κ' τ τ', Teq κ κ' τ τ' → T κ τ → T κ' τ'
def OKT (T : Wd → Wd → Prop) (κ τ : Wd) : Prop := EQ κ τ ∧ RNG τ ∧ T κ τ
def OKW (T : Wd → Wd → Prop) (w : Wd) : Prop := OKT T (pc w) (pm w)
theorem OKT.rf {T : Wd → Wd → Prop} (hT : TFr T) {κ τ : Wd} (h : OKT T κ τ) {g : Int} (hg : -6 ≤ g ∧ g ≤ -1) : OKT T (rfC κ g) (rfM τ g) := by
  obtain ⟨hE, hR, ht⟩ := h
  refine ⟨⟨hE.R_today, hE.R_rowSize, hE.Places_size, hE.Places_olds, hE.Rolls_size, hE.People_size, hE.People_rights, hE.Tape_size, hE.Texts_size, hE.Petitions_size, hE.Sales_size, hE.Members_size, hE.Bill_size, hE.R_row, hE.Places_seats, hE.Places_patrons, hE.Places_bases, hE.Places_sides, hE.Places_oldPlaces, hE.Places_oldTexts, hE.Places_oldDays, hE.Rolls_asOf, hE.Rolls_toldOn, hE.Rolls_values, hE.Rolls_wrongs, hE.Rolls_weights, hE.People_homes, hE.People_sinces, hE.People_wishes, hE.People_debts, hE.People_away, hE.People_rightPersons, hE.People_rightPlaces, hE.People_rightKinds, hE.People_rightValues, hE.People_rightSinces, hE.Tape_bytes, hE.Sales_sold, hE.Sales_froms, hE.Sales_tos, hE.Members_leans, hE.Bill_kinds, hE.Bill_amounts, hE.Bill_limits, hE.Bill_needs, hE.Knots_bars, hE.Knots_reads, ?_, hE.subj, hE.ends, hE.inKn, hE.told0, hE.told1, hE.told2, hE.told3, hE.told4, hE.told5, hE.told6, hE.told7, hE.told8, hE.told9, hE.want0, hE.want1, hE.want2, hE.want3, hE.want4, hE.want5, hE.want6, hE.want7, hE.leas0, hE.leas1, hE.leas2, hE.leas3, hE.leas4, hE.leas5, hE.leas6, hE.leas7, hE.most0, hE.most1, hE.most2, hE.most3, hE.most4, hE.most5, hE.most6, hE.most7, hE.plan0⟩, ⟨hR.M_day, hR.M_places, hR.M_sends, hR.M_patronOf, hR.M_bases, hR.M_sideOf, hR.M_rolls, hR.M_rDay, hR.M_rTold, hR.M_rValue, hR.M_rWrong, hR.M_weights, hR.M_rPlace, hR.M_rWhat, hR.M_people, hR.M_home, hR.M_since, hR.M_wish, hR.M_debt, hR.M_isGone, hR.M_rights, hR.M_gWho, hR.M_gPlace, hR.M_gKind, hR.M_gSize, hR.M_gSince, hR.M_tapeMany, hR.M_tape, hR.M_texts, hR.M_petitions, hR.M_writtenMany, hR.M_olds, hR.M_oPlace, hR.M_oDay, hR.M_oText, hR.M_sales, hR.M_sPlace, hR.M_sFrom, hR.M_toldFact, hR.M_members, hR.M_knot, hR.M_lean, hR.M_lines, hR.M_lKind, hR.M_lMany, hR.M_lX, hR.M_lHangs, hR.M_lText, hR.M_wants, hR.M_bars, hR.M_reads, hR.M_leastThere, hR.M_mostThere, hR.M_rowMany⟩, hT κ _ τ _ ⟨rfl, rfl, fun r hr => ?_, rfl, rfl, rfl, rfl, rfl, rfl⟩ ht⟩
  · intro j
    have h1 := hE.refu
    unfold rfC rfM
    simp only [wst_ap, true_and, h1, show (-g - 1).toNat + 1 = (-g).toNat by omega]
    by_cases q : j = (-g - 1).toNat
    · rw [if_pos q, if_pos (by omega)]
    · rw [if_neg q, if_neg (by omega)]
  · funext j
    unfold rfC
    simp only [wst_ap]
    rw [if_neg (by omega)]
section
variable {w κ τ : Wd} {T : Wd → Wd → Prop}
theorem OKW.of {v : Wd} {κ τ : Wd} (h : OKT T κ τ) (hc : pc v = κ) (hm : pm v = τ) : OKW T v := by
  unfold OKW
  rw [hc, hm]
  exact h
/-- the reference refuses as the class did -/
theorem fin_rf (hT : TFr T) (h : OKT T κ τ) {u : Wd} {x g : Int} (uc : pc u = rfC κ g) (um : pm u = τ) (hg : -6 ≤ g ∧ g ≤ -1) (hx : x = g) : Cal 1 158 [.inr (.inr 12), .inl x] u (rI fun y v => g = y ∧ OKW T v) :=
  (mrefuse_ok um hg hx).up (Nat.le_refl _) (rI_m fun y v q => ⟨q.1.symm, OKW.of (h.rf hT hg) (q.2.1.trans uc) q.2.2⟩)
theorem fin_rfF (hT : TFr T) (h : OKT T κ τ) {u : Wd} {x g : Int} (uc : pc u = rfC κ g) (um : pm u = τ) (hg : -6 ≤ g ∧ g ≤ -1) (hx : x = g) : Cal 1 219 [.inr (.inr 12), .inl x] u (rI fun y v => 1000000000 - g = y ∧ OKW T v) :=
  (mrefuseFar_ok um hg hx).up (Nat.le_refl _) (rI_m fun y v q => ⟨q.1.symm, OKW.of (h.rf hT hg) (q.2.1.trans uc) q.2.2⟩)
theorem CalK {n d k : Nat} {as : List AV} {w : Wd} {K : Option AV → Wd → Prop} (h : Cal n k as w K) (hn : n ≤ d) : Cal d k as w K := h.up hn (fun _ _ q => q)
/-- days -/
theorem both_days (hT : TFr T) (hO : OKW T w) {a : Int} (ha : in32 a) : Cal 12 13 [.inr (.inr 11), .inl a] w (rI fun x u => Cal 12 157 [.inr (.inr 12), .inl a] u (rI fun y v => x = y ∧ OKW T v)) := by
  obtain ⟨κ, hc⟩ : ∃ κ, pc w = κ := ⟨_, rfl⟩
  obtain ⟨τ, hm⟩ : ∃ τ, pm w = τ := ⟨_, rfl⟩
  unfold OKW at hO
  rw [hc, hm] at hO
  obtain ⟨hE, hR, ht⟩ := id hO
  unfold in32 at ha
  have hd := hR.M_day
  refine en_13 ?_
  simp only [r11_15 hc, hE.R_today]
  rw [wr_id (x := 2000 - _) (by omega) (by omega)]
  split
  · refine CalI.to (refuse_ok hc hm (g := -4) (by omega)) (by decide) ?_
    rintro _ u ⟨rfl, uc, um⟩
    refine en_157 ?_
    rw [if_pos (by omega)]
    exact CalK (fin_rf hT hO uc um (by omega) rfl) (by decide)
  · split
    · refine CalI.to (refuse_ok hc hm (g := -6) (by omega)) (by decide) ?_
      rintro _ u ⟨rfl, uc, um⟩
      refine en_157 ?_
      simp only [r12_0 um]
      rw [wr_id (x := 2000 - _) (by omega) (by omega), if_neg (by omega), if_pos (by omega)]
      exact CalK (fin_rf hT hO uc um (by omega) rfl) (by decide)
    · rw [wr_id (x := _ + a) (by omega) (by omega)]
      have uc : pc (wst w 11 15 (τ 12 0 + a)) = wst κ 11 15 (τ 12 0 + a) := by rw [pc_in rfl, hc]
      have um : pm (wst w 11 15 (τ 12 0 + a)) = τ := by rw [pm_out rfl, hm]
      refine en_157 ?_
      simp only [r12_0 um]
      rw [wr_id (x := 2000 - _) (by omega) (by omega), if_neg (by omega), if_neg (by omega), wr_id (x := _ + a) (by omega) (by omega)]
      refine ⟨?_, OKW.of (κ := wst κ 11 15 (τ 12 0 + a)) (τ := wst τ 12 0 (τ 12 0 + a)) ⟨⟨?_, hE.R_rowSize, hE.Places_size, hE.Places_olds, hE.Rolls_size, hE.People_size, hE.People_rights, hE.Tape_size, hE.Texts_size, hE.Petitions_size, hE.Sales_size, hE.Members_size, hE.Bill_size, hE.R_row, hE.Places_seats, hE.Places_patrons, hE.Places_bases, hE.Places_sides, hE.Places_oldPlaces, hE.Places_oldTexts, hE.Places_oldDays, hE.Rolls_asOf, hE.Rolls_toldOn, hE.Rolls_values, hE.Rolls_wrongs, hE.Rolls_weights, hE.People_homes, hE.People_sinces, hE.People_wishes, hE.People_debts, hE.People_away, hE.People_rightPersons, hE.People_rightPlaces, hE.People_rightKinds, hE.People_rightValues, hE.People_rightSinces, hE.Tape_bytes, hE.Sales_sold, hE.Sales_froms, hE.Sales_tos, hE.Members_leans, hE.Bill_kinds, hE.Bill_amounts, hE.Bill_limits, hE.Bill_needs, hE.Knots_bars, hE.Knots_reads, hE.refu, hE.subj, hE.ends, hE.inKn, hE.told0, hE.told1, hE.told2, hE.told3, hE.told4, hE.told5, hE.told6, hE.told7, hE.told8, hE.told9, hE.want0, hE.want1, hE.want2, hE.want3, hE.want4, hE.want5, hE.want6, hE.want7, hE.leas0, hE.leas1, hE.leas2, hE.leas3, hE.leas4, hE.leas5, hE.leas6, hE.leas7, hE.most0, hE.most1, hE.most2, hE.most3, hE.most4, hE.most5, hE.most6, hE.most7, hE.plan0⟩, ⟨?_, hR.M_places, hR.M_sends, hR.M_patronOf, hR.M_bases, hR.M_sideOf, hR.M_rolls, hR.M_rDay, hR.M_rTold, hR.M_rValue, hR.M_rWrong, hR.M_weights, hR.M_rPlace, hR.M_rWhat, hR.M_people, hR.M_home, hR.M_since, hR.M_wish, hR.M_debt, hR.M_isGone, hR.M_rights, hR.M_gWho, hR.M_gPlace, hR.M_gKind, hR.M_gSize, hR.M_gSince, hR.M_tapeMany, hR.M_tape, hR.M_texts, hR.M_petitions, hR.M_writtenMany, hR.M_olds, hR.M_oPlace, hR.M_oDay, hR.M_oText, hR.M_sales, hR.M_sPlace, hR.M_sFrom, hR.M_toldFact, hR.M_members, hR.M_knot, hR.M_lean, hR.M_lines, hR.M_lKind, hR.M_lMany, hR.M_lX, hR.M_lHangs, hR.M_lText, hR.M_wants, hR.M_bars, hR.M_reads, hR.M_leastThere, hR.M_mostThere, hR.M_rowMany⟩, hT κ _ τ _ ⟨rfl, rfl, fun r hr => ?_, rfl, rfl, rfl, rfl, rfl, rfl⟩ ht⟩ ?_ ?_⟩
      · simp [wst_ap]
      · simp [wst_ap]
      · simp only [wst_ap, and_self, if_true]; omega
      · funext j; simp only [wst_ap]; rw [if_neg (by omega)]
      · rw [pc_out rfl, uc]
      · rw [pm_in rfl, um]
end
