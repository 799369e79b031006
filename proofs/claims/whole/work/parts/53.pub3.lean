/-! one more: sell, old, person, right, roll, put, member -/
section
variable {w : Wd} {T : Wd → Wd → Prop}
theorem both_sell (hT : TFr T) (hO : OKW T w) {a b c d : Int} : Cal 12 81 [.inr (.inr 11), .inl a, .inl b, .inl c, .inl d] w (rI fun x u => Cal 12 195 [.inr (.inr 12), .inl a, .inl b, .inl c, .inl d] u (rI fun y v => x = y ∧ OKW T v)) := by
  obtain ⟨κ, hc⟩ : ∃ κ, pc w = κ := ⟨_, rfl⟩
  obtain ⟨τ, hm⟩ : ∃ τ, pm w = τ := ⟨_, rfl⟩
  unfold OKW at hO
  rw [hc, hm] at hO
  obtain ⟨hE, hR, ht⟩ := id hO
  have hdy := hR.M_day
  have hd := hR.M_sales
  have hp := hR.M_places
  have e0 := (r11_15 hc).trans hE.R_today
  have e1 := (r8_3 hc).trans hE.Sales_size
  refine en_81 ?_
  repeat' (first | (rw [if_neg (show ¬ (1 : Int) = 0 by decide)]) | (rw [if_pos (show (0 : Int) = 0 from rfl)]) | (rw [if_pos trivial]) | (refine And.intro (by first | omega | exact Or.inl trivial | exact Or.inr trivial | exact ⟨trivial, trivial⟩ | fail) ?_) | (refine CalB isWithin_ok (by decide) (fun _ => ?_) (fun _ => ?_)) | (refine CalB isPatronOrNone_ok (by decide) (fun _ => ?_) (fun _ => ?_)) | (refine CalB (placesHas_ok hc hE) (by decide) (fun _ => ?_) (fun _ => ?_)) | (refine CalB (peopleHas_ok hc hE) (by decide) (fun _ => ?_) (fun _ => ?_)) | (refine CalB (textsHas_ok hc hE) (by decide) (fun _ => ?_) (fun _ => ?_)) | (refine CalB (petHas_ok hc hE) (by decide) (fun _ => ?_) (fun _ => ?_)) | (refine CalB (billHas_ok hc hE) (by decide) (fun _ => ?_) (fun _ => ?_)) | (refine CalB rIsKnot_ok (by decide) (fun _ => ?_) (fun _ => ?_)) | (refine CalB rIsNight_ok (by decide) (fun _ => ?_) (fun _ => ?_)) | (refine refuseDays_br hc hm (fun _ => ?_) (fun g u hg uc um => ?_)) | (refine bk_40_53 ?_) | (refine bk_40_80 ?_) | split | fail);
  all_goals try (refine CalI.to (refuse_ok hc hm (by omega)) (by decide) ?_; rintro _ u ⟨rfl, uc, um⟩; have e2 := r12_50 um; have e3 := r12_0 um; refine en_195 ?_; repeat' (first | (rw [if_pos (by omega)]) | (rw [if_neg (by omega)]) | (refine And.intro (by first | omega | exact Or.inl trivial | exact Or.inr trivial | exact ⟨trivial, trivial⟩ | fail) ?_) | (refine CalT in_ok (by decide) (by omega) ?_) | (refine CalF in_ok (by decide) (by omega) ?_) | (refine CalT (isPlace_ok um hR) (by decide) (by omega) ?_) | (refine CalF (isPlace_ok um hR) (by decide) (by omega) ?_) | (refine CalT (isPerson_ok um hR) (by decide) (by omega) ?_) | (refine CalF (isPerson_ok um hR) (by decide) (by omega) ?_) | (refine CalT (isText_ok um hR) (by decide) (by omega) ?_) | (refine CalF (isText_ok um hR) (by decide) (by omega) ?_) | (refine CalT (isPetitionAt_ok um hR) (by decide) (by omega) ?_) | (refine CalF (isPetitionAt_ok um hR) (by decide) (by omega) ?_) | (refine CalT (isLine_ok um hR) (by decide) (by omega) ?_) | (refine CalF (isLine_ok um hR) (by decide) (by omega) ?_) | (refine CalT mIsKnot_ok (by decide) (by omega) ?_) | (refine CalF mIsKnot_ok (by decide) (by omega) ?_) | (refine CalT mIsNight_ok (by decide) (by omega) ?_) | (refine CalF mIsNight_ok (by decide) (by omega) ?_) | (refine bk_175_75 ?_) | (refine CalE.to bounds_ok (by decide) ?_) | (refine CalE.to wrongDays_ok (by decide) ?_) | (exact CalK (fin_rf hT hO uc um (by omega) (by omega)) (by decide)) | (exact CalK (fin_rfF hT hO uc um (by omega) (by omega)) (by decide)) | fail);;)
  all_goals (
    obtain ⟨n, hn⟩ : ∃ n : Nat, τ 12 50 = (n : Int) := ⟨(τ 12 50).toNat, by omega⟩
    rw [hn] at e1 hd
    refine en_82 ?_
    simp only [wst_ap, Nat.reduceEqDiff, false_and, and_false, if_false, and_self, if_true, true_and, e1, e0, tn]
    rw [wr_id (x := (n : Int) + 1) (by omega) (by omega), wr_id (x := (n : Int) + 1 - 1) (by omega) (by omega)]
    repeat' (first | (refine And.intro (by first | omega | exact ⟨by omega, by omega⟩ | fail) ?_) | fail)
    generalize hu : wst (wst (wst (wst w 114 n a) 115 n b) 116 n c) 8 3 ((n : Int) + 1) = u
    have uc : pc u = wst (wst (wst (wst κ 114 n a) 115 n b) 116 n c) 8 3 ((n : Int) + 1) := by rw [← hu, pc_in rfl, pc_in rfl, pc_in rfl, pc_in rfl, hc]
    have um : pm u = τ := by rw [← hu, pm_out rfl, pm_out rfl, pm_out rfl, pm_out rfl, hm]
    have e2 := r12_50 um
    rw [hn] at e2
    have e3 := r12_0 um
    refine en_195 ?_
    simp only [wst_ap, Nat.reduceEqDiff, false_and, and_false, if_false, and_self, if_true, true_and]
    repeat' (first | (rw [if_pos (by omega)]) | (rw [if_neg (by omega)]) | (refine And.intro (by first | omega | exact Or.inl trivial | exact Or.inr trivial | exact ⟨trivial, trivial⟩ | fail) ?_) | (refine CalT in_ok (by decide) (by omega) ?_) | (refine CalF in_ok (by decide) (by omega) ?_) | (refine CalT (isPlace_ok um hR) (by decide) (by omega) ?_) | (refine CalF (isPlace_ok um hR) (by decide) (by omega) ?_) | (refine CalT (isPerson_ok um hR) (by decide) (by omega) ?_) | (refine CalF (isPerson_ok um hR) (by decide) (by omega) ?_) | (refine CalT (isText_ok um hR) (by decide) (by omega) ?_) | (refine CalF (isText_ok um hR) (by decide) (by omega) ?_) | (refine CalT (isPetitionAt_ok um hR) (by decide) (by omega) ?_) | (refine CalF (isPetitionAt_ok um hR) (by decide) (by omega) ?_) | (refine CalT (isLine_ok um hR) (by decide) (by omega) ?_) | (refine CalF (isLine_ok um hR) (by decide) (by omega) ?_) | (refine CalT mIsKnot_ok (by decide) (by omega) ?_) | (refine CalF mIsKnot_ok (by decide) (by omega) ?_) | (refine CalT mIsNight_ok (by decide) (by omega) ?_) | (refine CalF mIsNight_ok (by decide) (by omega) ?_) | (refine bk_175_75 ?_) | (refine CalE.to bounds_ok (by decide) ?_) | (refine CalE.to wrongDays_ok (by decide) ?_) | (exact CalK (fin_rf hT hO uc um (by omega) (by omega)) (by decide)) | (exact CalK (fin_rfF hT hO uc um (by omega) (by omega)) (by decide)) | fail);
    simp only [e2, e3, tn, wr_id (show -2147483648 ≤ (n : Int) + 1 by omega) (show (n : Int) + 1 < 2147483648 by omega)]
    refine ⟨by (try rw [wr_id (by omega) (by omega)]) <;> omega, ?_⟩
    refine OKW.of (κ := wst (wst (wst (wst κ 114 n a) 115 n b) 116 n c) 8 3 ((n : Int) + 1)) (τ := wst (wst (wst (wst τ 176 n a) 177 n b) 178 n c) 12 50 ((n : Int) + 1)) ⟨⟨hE.R_today, hE.R_rowSize, hE.Places_size, hE.Places_olds, hE.Rolls_size, hE.People_size, hE.People_rights, hE.Tape_size, hE.Texts_size, hE.Petitions_size, ?_, hE.Members_size, hE.Bill_size, hE.R_row, hE.Places_seats, hE.Places_patrons, hE.Places_bases, hE.Places_sides, hE.Places_oldPlaces, hE.Places_oldTexts, hE.Places_oldDays, hE.Rolls_asOf, hE.Rolls_toldOn, hE.Rolls_values, hE.Rolls_wrongs, hE.Rolls_weights, hE.People_homes, hE.People_sinces, hE.People_wishes, hE.People_debts, hE.People_away, hE.People_rightPersons, hE.People_rightPlaces, hE.People_rightKinds, hE.People_rightValues, hE.People_rightSinces, hE.Tape_bytes, ?_, ?_, ?_, hE.Members_leans, hE.Bill_kinds, hE.Bill_amounts, hE.Bill_limits, hE.Bill_needs, hE.Knots_bars, hE.Knots_reads, hE.refu, hE.subj, hE.ends, hE.inKn, hE.told0, hE.told1, hE.told2, hE.told3, hE.told4, hE.told5, hE.told6, hE.told7, hE.told8, hE.told9, hE.want0, hE.want1, hE.want2, hE.want3, hE.want4, hE.want5, hE.want6, hE.want7, hE.leas0, hE.leas1, hE.leas2, hE.leas3, hE.leas4, hE.leas5, hE.leas6, hE.leas7, hE.most0, hE.most1, hE.most2, hE.most3, hE.most4, hE.most5, hE.most6, hE.most7, hE.plan0⟩, ⟨hR.M_day, hR.M_places, hR.M_sends, hR.M_patronOf, hR.M_bases, hR.M_sideOf, hR.M_rolls, hR.M_rDay, hR.M_rTold, hR.M_rValue, hR.M_rWrong, hR.M_weights, hR.M_rPlace, hR.M_rWhat, hR.M_people, hR.M_home, hR.M_since, hR.M_wish, hR.M_debt, hR.M_isGone, hR.M_rights, hR.M_gWho, hR.M_gPlace, hR.M_gKind, hR.M_gSize, hR.M_gSince, hR.M_tapeMany, hR.M_tape, hR.M_texts, hR.M_petitions, hR.M_writtenMany, hR.M_olds, hR.M_oPlace, hR.M_oDay, hR.M_oText, ?_, ?_, ?_, hR.M_toldFact, hR.M_members, hR.M_knot, hR.M_lean, hR.M_lines, hR.M_lKind, hR.M_lMany, hR.M_lX, hR.M_lHangs, hR.M_lText, hR.M_wants, hR.M_bars, hR.M_reads, hR.M_leastThere, hR.M_mostThere, hR.M_rowMany⟩, hT κ _ τ _ ⟨rfl, rfl, fun r hr => ?_, rfl, rfl, rfl, rfl, rfl, rfl⟩ ht⟩ ?_ ?_
    · simp [wst_ap]
    · simp [wst_ap, hE.Sales_sold]
    · simp [wst_ap, hE.Sales_froms]
    · simp [wst_ap, hE.Sales_tos]
    · simp [wst_ap]; omega
    · intro j; have := hR.M_sPlace j; simp only [wst_ap, Nat.reduceEqDiff, false_and, and_false, if_false, and_self, if_true, true_and]; split <;> omega
    · intro j; have := hR.M_sFrom j; simp only [wst_ap, Nat.reduceEqDiff, false_and, and_false, if_false, and_self, if_true, true_and]; split <;> omega
    · (funext j; simp only [wst_ap]; repeat (rw [if_neg (by omega)]));
    · rw [pc_out rfl, pc_out rfl, pc_out rfl, pc_out rfl, uc]
    · rw [pm_in rfl, pm_in rfl, pm_in rfl, pm_in rfl, um])
theorem both_old (hT : TFr T) (hO : OKW T w) {a b c : Int} : Cal 12 72 [.inr (.inr 11), .inl a, .inl b, .inl c] w (rI fun x u => Cal 12 187 [.inr (.inr 12), .inl a, .inl b, .inl c] u (rI fun y v => x = y ∧ OKW T v)) := by
  obtain ⟨κ, hc⟩ : ∃ κ, pc w = κ := ⟨_, rfl⟩
  obtain ⟨τ, hm⟩ : ∃ τ, pm w = τ := ⟨_, rfl⟩
  unfold OKW at hO
  rw [hc, hm] at hO
  obtain ⟨hE, hR, ht⟩ := id hO
  have hdy := hR.M_day
  have hd := hR.M_olds
  have hp := hR.M_places
  have e0 := (r11_15 hc).trans hE.R_today
  have e1 := (r5_8 hc).trans hE.Places_olds
  refine en_72 ?_
  repeat' (first | (rw [if_neg (show ¬ (1 : Int) = 0 by decide)]) | (rw [if_pos (show (0 : Int) = 0 from rfl)]) | (rw [if_pos trivial]) | (refine And.intro (by first | omega | exact Or.inl trivial | exact Or.inr trivial | exact ⟨trivial, trivial⟩ | fail) ?_) | (refine CalB isWithin_ok (by decide) (fun _ => ?_) (fun _ => ?_)) | (refine CalB isPatronOrNone_ok (by decide) (fun _ => ?_) (fun _ => ?_)) | (refine CalB (placesHas_ok hc hE) (by decide) (fun _ => ?_) (fun _ => ?_)) | (refine CalB (peopleHas_ok hc hE) (by decide) (fun _ => ?_) (fun _ => ?_)) | (refine CalB (textsHas_ok hc hE) (by decide) (fun _ => ?_) (fun _ => ?_)) | (refine CalB (petHas_ok hc hE) (by decide) (fun _ => ?_) (fun _ => ?_)) | (refine CalB (billHas_ok hc hE) (by decide) (fun _ => ?_) (fun _ => ?_)) | (refine CalB rIsKnot_ok (by decide) (fun _ => ?_) (fun _ => ?_)) | (refine CalB rIsNight_ok (by decide) (fun _ => ?_) (fun _ => ?_)) | (refine refuseDays_br hc hm (fun _ => ?_) (fun g u hg uc um => ?_)) | (refine bk_40_53 ?_) | (refine bk_40_80 ?_) | split | fail);
  all_goals try (refine CalI.to (refuse_ok hc hm (by omega)) (by decide) ?_; rintro _ u ⟨rfl, uc, um⟩; have e2 := r12_46 um; have e3 := r12_0 um; refine en_187 ?_; repeat' (first | (rw [if_pos (by omega)]) | (rw [if_neg (by omega)]) | (refine And.intro (by first | omega | exact Or.inl trivial | exact Or.inr trivial | exact ⟨trivial, trivial⟩ | fail) ?_) | (refine CalT in_ok (by decide) (by omega) ?_) | (refine CalF in_ok (by decide) (by omega) ?_) | (refine CalT (isPlace_ok um hR) (by decide) (by omega) ?_) | (refine CalF (isPlace_ok um hR) (by decide) (by omega) ?_) | (refine CalT (isPerson_ok um hR) (by decide) (by omega) ?_) | (refine CalF (isPerson_ok um hR) (by decide) (by omega) ?_) | (refine CalT (isText_ok um hR) (by decide) (by omega) ?_) | (refine CalF (isText_ok um hR) (by decide) (by omega) ?_) | (refine CalT (isPetitionAt_ok um hR) (by decide) (by omega) ?_) | (refine CalF (isPetitionAt_ok um hR) (by decide) (by omega) ?_) | (refine CalT (isLine_ok um hR) (by decide) (by omega) ?_) | (refine CalF (isLine_ok um hR) (by decide) (by omega) ?_) | (refine CalT mIsKnot_ok (by decide) (by omega) ?_) | (refine CalF mIsKnot_ok (by decide) (by omega) ?_) | (refine CalT mIsNight_ok (by decide) (by omega) ?_) | (refine CalF mIsNight_ok (by decide) (by omega) ?_) | (refine bk_175_75 ?_) | (refine CalE.to bounds_ok (by decide) ?_) | (refine CalE.to wrongDays_ok (by decide) ?_) | (exact CalK (fin_rf hT hO uc um (by omega) (by omega)) (by decide)) | (exact CalK (fin_rfF hT hO uc um (by omega) (by omega)) (by decide)) | fail);;)
  all_goals (
    obtain ⟨n, hn⟩ : ∃ n : Nat, τ 12 46 = (n : Int) := ⟨(τ 12 46).toNat, by omega⟩
    rw [hn] at e1 hd
    refine en_74 ?_
    simp only [wst_ap, Nat.reduceEqDiff, false_and, and_false, if_false, and_self, if_true, true_and, e1, e0, tn]
    rw [wr_id (x := (n : Int) + 1) (by omega) (by omega)]
    repeat' (first | (refine And.intro (by first | omega | exact ⟨by omega, by omega⟩ | fail) ?_) | fail)
    generalize hu : wst (wst (wst (wst w 83 n a) 84 n b) 85 n c) 5 8 ((n : Int) + 1) = u
    have uc : pc u = wst (wst (wst (wst κ 83 n a) 84 n b) 85 n c) 5 8 ((n : Int) + 1) := by rw [← hu, pc_in rfl, pc_in rfl, pc_in rfl, pc_in rfl, hc]
    have um : pm u = τ := by rw [← hu, pm_out rfl, pm_out rfl, pm_out rfl, pm_out rfl, hm]
    have e2 := r12_46 um
    rw [hn] at e2
    have e3 := r12_0 um
    refine en_187 ?_
    simp only [wst_ap, Nat.reduceEqDiff, false_and, and_false, if_false, and_self, if_true, true_and]
    repeat' (first | (rw [if_pos (by omega)]) | (rw [if_neg (by omega)]) | (refine And.intro (by first | omega | exact Or.inl trivial | exact Or.inr trivial | exact ⟨trivial, trivial⟩ | fail) ?_) | (refine CalT in_ok (by decide) (by omega) ?_) | (refine CalF in_ok (by decide) (by omega) ?_) | (refine CalT (isPlace_ok um hR) (by decide) (by omega) ?_) | (refine CalF (isPlace_ok um hR) (by decide) (by omega) ?_) | (refine CalT (isPerson_ok um hR) (by decide) (by omega) ?_) | (refine CalF (isPerson_ok um hR) (by decide) (by omega) ?_) | (refine CalT (isText_ok um hR) (by decide) (by omega) ?_) | (refine CalF (isText_ok um hR) (by decide) (by omega) ?_) | (refine CalT (isPetitionAt_ok um hR) (by decide) (by omega) ?_) | (refine CalF (isPetitionAt_ok um hR) (by decide) (by omega) ?_) | (refine CalT (isLine_ok um hR) (by decide) (by omega) ?_) | (refine CalF (isLine_ok um hR) (by decide) (by omega) ?_) | (refine CalT mIsKnot_ok (by decide) (by omega) ?_) | (refine CalF mIsKnot_ok (by decide) (by omega) ?_) | (refine CalT mIsNight_ok (by decide) (by omega) ?_) | (refine CalF mIsNight_ok (by decide) (by omega) ?_) | (refine bk_175_75 ?_) | (refine CalE.to bounds_ok (by decide) ?_) | (refine CalE.to wrongDays_ok (by decide) ?_) | (exact CalK (fin_rf hT hO uc um (by omega) (by omega)) (by decide)) | (exact CalK (fin_rfF hT hO uc um (by omega) (by omega)) (by decide)) | fail);
    simp only [e2, e3, tn, wr_id (show -2147483648 ≤ (n : Int) + 1 by omega) (show (n : Int) + 1 < 2147483648 by omega)]
    refine ⟨by (try rw [wr_id (by omega) (by omega)]) <;> omega, ?_⟩
    refine OKW.of (κ := wst (wst (wst (wst κ 83 n a) 84 n b) 85 n c) 5 8 ((n : Int) + 1)) (τ := wst (wst (wst (wst τ 173 n a) 174 n b) 175 n c) 12 46 ((n : Int) + 1)) ⟨⟨hE.R_today, hE.R_rowSize, hE.Places_size, ?_, hE.Rolls_size, hE.People_size, hE.People_rights, hE.Tape_size, hE.Texts_size, hE.Petitions_size, hE.Sales_size, hE.Members_size, hE.Bill_size, hE.R_row, hE.Places_seats, hE.Places_patrons, hE.Places_bases, hE.Places_sides, ?_, ?_, ?_, hE.Rolls_asOf, hE.Rolls_toldOn, hE.Rolls_values, hE.Rolls_wrongs, hE.Rolls_weights, hE.People_homes, hE.People_sinces, hE.People_wishes, hE.People_debts, hE.People_away, hE.People_rightPersons, hE.People_rightPlaces, hE.People_rightKinds, hE.People_rightValues, hE.People_rightSinces, hE.Tape_bytes, hE.Sales_sold, hE.Sales_froms, hE.Sales_tos, hE.Members_leans, hE.Bill_kinds, hE.Bill_amounts, hE.Bill_limits, hE.Bill_needs, hE.Knots_bars, hE.Knots_reads, hE.refu, hE.subj, hE.ends, hE.inKn, hE.told0, hE.told1, hE.told2, hE.told3, hE.told4, hE.told5, hE.told6, hE.told7, hE.told8, hE.told9, hE.want0, hE.want1, hE.want2, hE.want3, hE.want4, hE.want5, hE.want6, hE.want7, hE.leas0, hE.leas1, hE.leas2, hE.leas3, hE.leas4, hE.leas5, hE.leas6, hE.leas7, hE.most0, hE.most1, hE.most2, hE.most3, hE.most4, hE.most5, hE.most6, hE.most7, hE.plan0⟩, ⟨hR.M_day, hR.M_places, hR.M_sends, hR.M_patronOf, hR.M_bases, hR.M_sideOf, hR.M_rolls, hR.M_rDay, hR.M_rTold, hR.M_rValue, hR.M_rWrong, hR.M_weights, hR.M_rPlace, hR.M_rWhat, hR.M_people, hR.M_home, hR.M_since, hR.M_wish, hR.M_debt, hR.M_isGone, hR.M_rights, hR.M_gWho, hR.M_gPlace, hR.M_gKind, hR.M_gSize, hR.M_gSince, hR.M_tapeMany, hR.M_tape, hR.M_texts, hR.M_petitions, hR.M_writtenMany, ?_, ?_, ?_, ?_, hR.M_sales, hR.M_sPlace, hR.M_sFrom, hR.M_toldFact, hR.M_members, hR.M_knot, hR.M_lean, hR.M_lines, hR.M_lKind, hR.M_lMany, hR.M_lX, hR.M_lHangs, hR.M_lText, hR.M_wants, hR.M_bars, hR.M_reads, hR.M_leastThere, hR.M_mostThere, hR.M_rowMany⟩, hT κ _ τ _ ⟨rfl, rfl, fun r hr => ?_, rfl, rfl, rfl, rfl, rfl, rfl⟩ ht⟩ ?_ ?_
    · simp [wst_ap]
    · simp [wst_ap, hE.Places_oldPlaces]
    · simp [wst_ap, hE.Places_oldTexts]
    · simp [wst_ap, hE.Places_oldDays]
    · simp [wst_ap]; omega
    · intro j; have := hR.M_oPlace j; simp only [wst_ap, Nat.reduceEqDiff, false_and, and_false, if_false, and_self, if_true, true_and]; split <;> omega
    · intro j; have := hR.M_oDay j; simp only [wst_ap, Nat.reduceEqDiff, false_and, and_false, if_false, and_self, if_true, true_and]; split <;> omega
    · intro j; have := hR.M_oText j; simp only [wst_ap, Nat.reduceEqDiff, false_and, and_false, if_false, and_self, if_true, true_and]; split <;> omega
    · (funext j; simp only [wst_ap]; repeat (rw [if_neg (by omega)]));
    · rw [pc_out rfl, pc_out rfl, pc_out rfl, pc_out rfl, uc]
    · rw [pm_in rfl, pm_in rfl, pm_in rfl, pm_in rfl, um])
theorem both_person (hT : TFr T) (hO : OKW T w) {a b c d : Int} : Cal 12 36 [.inr (.inr 11), .inl a, .inl b, .inl c, .inl d] w (rI fun x u => Cal 12 172 [.inr (.inr 12), .inl a, .inl b, .inl c, .inl d] u (rI fun y v => x = y ∧ OKW T v)) := by
  obtain ⟨κ, hc⟩ : ∃ κ, pc w = κ := ⟨_, rfl⟩
  obtain ⟨τ, hm⟩ : ∃ τ, pm w = τ := ⟨_, rfl⟩
  unfold OKW at hO
  rw [hc, hm] at hO
  obtain ⟨hE, hR, ht⟩ := id hO
  have hdy := hR.M_day
  have hd := hR.M_people
  have hp := hR.M_places
  have e0 := (r11_15 hc).trans hE.R_today
  have e1 := (r3_5 hc).trans hE.People_size
  refine en_36 ?_
  repeat' (first | (rw [if_neg (show ¬ (1 : Int) = 0 by decide)]) | (rw [if_pos (show (0 : Int) = 0 from rfl)]) | (rw [if_pos trivial]) | (refine And.intro (by first | omega | exact Or.inl trivial | exact Or.inr trivial | exact ⟨trivial, trivial⟩ | fail) ?_) | (refine CalB isWithin_ok (by decide) (fun _ => ?_) (fun _ => ?_)) | (refine CalB isPatronOrNone_ok (by decide) (fun _ => ?_) (fun _ => ?_)) | (refine CalB (placesHas_ok hc hE) (by decide) (fun _ => ?_) (fun _ => ?_)) | (refine CalB (peopleHas_ok hc hE) (by decide) (fun _ => ?_) (fun _ => ?_)) | (refine CalB (textsHas_ok hc hE) (by decide) (fun _ => ?_) (fun _ => ?_)) | (refine CalB (petHas_ok hc hE) (by decide) (fun _ => ?_) (fun _ => ?_)) | (refine CalB (billHas_ok hc hE) (by decide) (fun _ => ?_) (fun _ => ?_)) | (refine CalB rIsKnot_ok (by decide) (fun _ => ?_) (fun _ => ?_)) | (refine CalB rIsNight_ok (by decide) (fun _ => ?_) (fun _ => ?_)) | (refine refuseDays_br hc hm (fun _ => ?_) (fun g u hg uc um => ?_)) | (refine bk_40_53 ?_) | (refine bk_40_80 ?_) | split | fail);
  all_goals try (refine CalI.to (refuse_ok hc hm (by omega)) (by decide) ?_; rintro _ u ⟨rfl, uc, um⟩; have e2 := r12_13 um; have e3 := r12_0 um; refine en_172 ?_; repeat' (first | (rw [if_pos (by omega)]) | (rw [if_neg (by omega)]) | (refine And.intro (by first | omega | exact Or.inl trivial | exact Or.inr trivial | exact ⟨trivial, trivial⟩ | fail) ?_) | (refine CalT in_ok (by decide) (by omega) ?_) | (refine CalF in_ok (by decide) (by omega) ?_) | (refine CalT (isPlace_ok um hR) (by decide) (by omega) ?_) | (refine CalF (isPlace_ok um hR) (by decide) (by omega) ?_) | (refine CalT (isPerson_ok um hR) (by decide) (by omega) ?_) | (refine CalF (isPerson_ok um hR) (by decide) (by omega) ?_) | (refine CalT (isText_ok um hR) (by decide) (by omega) ?_) | (refine CalF (isText_ok um hR) (by decide) (by omega) ?_) | (refine CalT (isPetitionAt_ok um hR) (by decide) (by omega) ?_) | (refine CalF (isPetitionAt_ok um hR) (by decide) (by omega) ?_) | (refine CalT (isLine_ok um hR) (by decide) (by omega) ?_) | (refine CalF (isLine_ok um hR) (by decide) (by omega) ?_) | (refine CalT mIsKnot_ok (by decide) (by omega) ?_) | (refine CalF mIsKnot_ok (by decide) (by omega) ?_) | (refine CalT mIsNight_ok (by decide) (by omega) ?_) | (refine CalF mIsNight_ok (by decide) (by omega) ?_) | (refine bk_175_75 ?_) | (refine CalE.to bounds_ok (by decide) ?_) | (refine CalE.to wrongDays_ok (by decide) ?_) | (exact CalK (fin_rf hT hO uc um (by omega) (by omega)) (by decide)) | (exact CalK (fin_rfF hT hO uc um (by omega) (by omega)) (by decide)) | fail);;)
  all_goals (
    obtain ⟨n, hn⟩ : ∃ n : Nat, τ 12 13 = (n : Int) := ⟨(τ 12 13).toNat, by omega⟩
    rw [hn] at e1 hd
    refine en_37 ?_
    simp only [wst_ap, Nat.reduceEqDiff, false_and, and_false, if_false, and_self, if_true, true_and, e1, e0, tn]
    rw [wr_id (x := (n : Int) + 1) (by omega) (by omega), wr_id (x := (n : Int) + 1 - 1) (by omega) (by omega)]
    repeat' (first | (refine And.intro (by first | omega | exact ⟨by omega, by omega⟩ | fail) ?_) | fail)
    generalize hu : wst (wst (wst (wst (wst w 54 n a) 55 n b) 56 n c) 57 n d) 3 5 ((n : Int) + 1) = u
    have uc : pc u = wst (wst (wst (wst (wst κ 54 n a) 55 n b) 56 n c) 57 n d) 3 5 ((n : Int) + 1) := by rw [← hu, pc_in rfl, pc_in rfl, pc_in rfl, pc_in rfl, pc_in rfl, hc]
    have um : pm u = τ := by rw [← hu, pm_out rfl, pm_out rfl, pm_out rfl, pm_out rfl, pm_out rfl, hm]
    have e2 := r12_13 um
    rw [hn] at e2
    have e3 := r12_0 um
    refine en_172 ?_
    simp only [wst_ap, Nat.reduceEqDiff, false_and, and_false, if_false, and_self, if_true, true_and]
    repeat' (first | (rw [if_pos (by omega)]) | (rw [if_neg (by omega)]) | (refine And.intro (by first | omega | exact Or.inl trivial | exact Or.inr trivial | exact ⟨trivial, trivial⟩ | fail) ?_) | (refine CalT in_ok (by decide) (by omega) ?_) | (refine CalF in_ok (by decide) (by omega) ?_) | (refine CalT (isPlace_ok um hR) (by decide) (by omega) ?_) | (refine CalF (isPlace_ok um hR) (by decide) (by omega) ?_) | (refine CalT (isPerson_ok um hR) (by decide) (by omega) ?_) | (refine CalF (isPerson_ok um hR) (by decide) (by omega) ?_) | (refine CalT (isText_ok um hR) (by decide) (by omega) ?_) | (refine CalF (isText_ok um hR) (by decide) (by omega) ?_) | (refine CalT (isPetitionAt_ok um hR) (by decide) (by omega) ?_) | (refine CalF (isPetitionAt_ok um hR) (by decide) (by omega) ?_) | (refine CalT (isLine_ok um hR) (by decide) (by omega) ?_) | (refine CalF (isLine_ok um hR) (by decide) (by omega) ?_) | (refine CalT mIsKnot_ok (by decide) (by omega) ?_) | (refine CalF mIsKnot_ok (by decide) (by omega) ?_) | (refine CalT mIsNight_ok (by decide) (by omega) ?_) | (refine CalF mIsNight_ok (by decide) (by omega) ?_) | (refine bk_175_75 ?_) | (refine CalE.to bounds_ok (by decide) ?_) | (refine CalE.to wrongDays_ok (by decide) ?_) | (exact CalK (fin_rf hT hO uc um (by omega) (by omega)) (by decide)) | (exact CalK (fin_rfF hT hO uc um (by omega) (by omega)) (by decide)) | fail);
    simp only [e2, e3, tn, wr_id (show -2147483648 ≤ (n : Int) + 1 by omega) (show (n : Int) + 1 < 2147483648 by omega)]
    refine ⟨by (try rw [wr_id (by omega) (by omega)]) <;> omega, ?_⟩
    refine OKW.of (κ := wst (wst (wst (wst (wst κ 54 n a) 55 n b) 56 n c) 57 n d) 3 5 ((n : Int) + 1)) (τ := wst (wst (wst (wst (wst τ 154 n a) 155 n b) 156 n c) 157 n d) 12 13 ((n : Int) + 1)) ⟨⟨hE.R_today, hE.R_rowSize, hE.Places_size, hE.Places_olds, hE.Rolls_size, ?_, hE.People_rights, hE.Tape_size, hE.Texts_size, hE.Petitions_size, hE.Sales_size, hE.Members_size, hE.Bill_size, hE.R_row, hE.Places_seats, hE.Places_patrons, hE.Places_bases, hE.Places_sides, hE.Places_oldPlaces, hE.Places_oldTexts, hE.Places_oldDays, hE.Rolls_asOf, hE.Rolls_toldOn, hE.Rolls_values, hE.Rolls_wrongs, hE.Rolls_weights, ?_, ?_, ?_, ?_, hE.People_away, hE.People_rightPersons, hE.People_rightPlaces, hE.People_rightKinds, hE.People_rightValues, hE.People_rightSinces, hE.Tape_bytes, hE.Sales_sold, hE.Sales_froms, hE.Sales_tos, hE.Members_leans, hE.Bill_kinds, hE.Bill_amounts, hE.Bill_limits, hE.Bill_needs, hE.Knots_bars, hE.Knots_reads, hE.refu, hE.subj, hE.ends, hE.inKn, hE.told0, hE.told1, hE.told2, hE.told3, hE.told4, hE.told5, hE.told6, hE.told7, hE.told8, hE.told9, hE.want0, hE.want1, hE.want2, hE.want3, hE.want4, hE.want5, hE.want6, hE.want7, hE.leas0, hE.leas1, hE.leas2, hE.leas3, hE.leas4, hE.leas5, hE.leas6, hE.leas7, hE.most0, hE.most1, hE.most2, hE.most3, hE.most4, hE.most5, hE.most6, hE.most7, hE.plan0⟩, ⟨hR.M_day, hR.M_places, hR.M_sends, hR.M_patronOf, hR.M_bases, hR.M_sideOf, hR.M_rolls, hR.M_rDay, hR.M_rTold, hR.M_rValue, hR.M_rWrong, hR.M_weights, hR.M_rPlace, hR.M_rWhat, ?_, ?_, ?_, ?_, ?_, hR.M_isGone, hR.M_rights, hR.M_gWho, hR.M_gPlace, hR.M_gKind, hR.M_gSize, hR.M_gSince, hR.M_tapeMany, hR.M_tape, hR.M_texts, hR.M_petitions, hR.M_writtenMany, hR.M_olds, hR.M_oPlace, hR.M_oDay, hR.M_oText, hR.M_sales, hR.M_sPlace, hR.M_sFrom, hR.M_toldFact, hR.M_members, hR.M_knot, hR.M_lean, hR.M_lines, hR.M_lKind, hR.M_lMany, hR.M_lX, hR.M_lHangs, hR.M_lText, hR.M_wants, hR.M_bars, hR.M_reads, hR.M_leastThere, hR.M_mostThere, hR.M_rowMany⟩, hT κ _ τ _ ⟨rfl, rfl, fun r hr => ?_, rfl, rfl, rfl, rfl, rfl, rfl⟩ ht⟩ ?_ ?_
    · simp [wst_ap]
    · simp [wst_ap, hE.People_homes]
    · simp [wst_ap, hE.People_sinces]
    · simp [wst_ap, hE.People_wishes]
    · simp [wst_ap, hE.People_debts]
    · simp [wst_ap]; omega
    · intro j; have := hR.M_home j; simp only [wst_ap, Nat.reduceEqDiff, false_and, and_false, if_false, and_self, if_true, true_and]; split <;> omega
    · intro j; have := hR.M_since j; simp only [wst_ap, Nat.reduceEqDiff, false_and, and_false, if_false, and_self, if_true, true_and]; split <;> omega
    · intro j; have := hR.M_wish j; simp only [wst_ap, Nat.reduceEqDiff, false_and, and_false, if_false, and_self, if_true, true_and]; split <;> omega
    · intro j; have := hR.M_debt j; simp only [wst_ap, Nat.reduceEqDiff, false_and, and_false, if_false, and_self, if_true, true_and]; split <;> omega
    · (funext j; simp only [wst_ap]; repeat (rw [if_neg (by omega)]));
    · rw [pc_out rfl, pc_out rfl, pc_out rfl, pc_out rfl, pc_out rfl, uc]
    · rw [pm_in rfl, pm_in rfl, pm_in rfl, pm_in rfl, pm_in rfl, um])
end
