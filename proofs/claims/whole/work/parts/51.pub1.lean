/-! place, weigh, base, patron, put -/
section
variable {w : Wd} {T : Wd → Wd → Prop}
theorem both_place (hT : TFr T) (hO : OKW T w) {a b : Int} : Cal 12 15 [.inr (.inr 11), .inl a, .inl b] w (rI fun x u => Cal 12 159 [.inr (.inr 12), .inl a, .inl b] u (rI fun y v => x = y ∧ OKW T v)) := by
  obtain ⟨κ, hc⟩ : ∃ κ, pc w = κ := ⟨_, rfl⟩
  obtain ⟨τ, hm⟩ : ∃ τ, pm w = τ := ⟨_, rfl⟩
  unfold OKW at hO
  rw [hc, hm] at hO
  obtain ⟨hE, hR, ht⟩ := id hO
  have hd := hR.M_places
  have e1 := (r5_4 hc).trans hE.Places_size
  refine en_15 ?_
  repeat' (first | (rw [if_neg (show ¬ (1 : Int) = 0 by decide)]) | (rw [if_pos (show (0 : Int) = 0 from rfl)]) | (rw [if_pos trivial]) | (refine And.intro (by first | omega | exact Or.inl trivial | exact Or.inr trivial | exact ⟨trivial, trivial⟩ | fail) ?_) | (refine CalB isWithin_ok (by decide) (fun _ => ?_) (fun _ => ?_)) | (refine CalB isPatronOrNone_ok (by decide) (fun _ => ?_) (fun _ => ?_)) | (refine CalB (placesHas_ok hc hE) (by decide) (fun _ => ?_) (fun _ => ?_)) | (refine CalB (peopleHas_ok hc hE) (by decide) (fun _ => ?_) (fun _ => ?_)) | (refine CalB (textsHas_ok hc hE) (by decide) (fun _ => ?_) (fun _ => ?_)) | (refine CalB (petHas_ok hc hE) (by decide) (fun _ => ?_) (fun _ => ?_)) | (refine CalB (billHas_ok hc hE) (by decide) (fun _ => ?_) (fun _ => ?_)) | (refine CalB rIsKnot_ok (by decide) (fun _ => ?_) (fun _ => ?_)) | (refine CalB rIsNight_ok (by decide) (fun _ => ?_) (fun _ => ?_)) | (refine refuseDays_br hc hm (fun _ => ?_) (fun g u hg uc um => ?_)) | (refine bk_40_53 ?_) | (refine bk_40_80 ?_) | split | fail);
  all_goals try (refine CalI.to (refuse_ok hc hm (by omega)) (by decide) ?_; rintro _ u ⟨rfl, uc, um⟩; have e2 := r12_1 um; refine en_159 ?_; repeat' (first | (rw [if_pos (by omega)]) | (rw [if_neg (by omega)]) | (refine And.intro (by first | omega | exact Or.inl trivial | exact Or.inr trivial | exact ⟨trivial, trivial⟩ | fail) ?_) | (refine CalT in_ok (by decide) (by omega) ?_) | (refine CalF in_ok (by decide) (by omega) ?_) | (refine CalT (isPlace_ok um hR) (by decide) (by omega) ?_) | (refine CalF (isPlace_ok um hR) (by decide) (by omega) ?_) | (refine CalT (isPerson_ok um hR) (by decide) (by omega) ?_) | (refine CalF (isPerson_ok um hR) (by decide) (by omega) ?_) | (refine CalT (isText_ok um hR) (by decide) (by omega) ?_) | (refine CalF (isText_ok um hR) (by decide) (by omega) ?_) | (refine CalT (isPetitionAt_ok um hR) (by decide) (by omega) ?_) | (refine CalF (isPetitionAt_ok um hR) (by decide) (by omega) ?_) | (refine CalT (isLine_ok um hR) (by decide) (by omega) ?_) | (refine CalF (isLine_ok um hR) (by decide) (by omega) ?_) | (refine CalT mIsKnot_ok (by decide) (by omega) ?_) | (refine CalF mIsKnot_ok (by decide) (by omega) ?_) | (refine CalT mIsNight_ok (by decide) (by omega) ?_) | (refine CalF mIsNight_ok (by decide) (by omega) ?_) | (refine bk_175_75 ?_) | (refine CalE.to bounds_ok (by decide) ?_) | (refine CalE.to wrongDays_ok (by decide) ?_) | (exact CalK (fin_rf hT hO uc um (by omega) (by omega)) (by decide)) | (exact CalK (fin_rfF hT hO uc um (by omega) (by omega)) (by decide)) | fail);;)
  obtain ⟨n, hn⟩ : ∃ n : Nat, τ 12 1 = (n : Int) := ⟨(τ 12 1).toNat, by omega⟩
  rw [hn] at e1 hd
  refine en_17 ?_
  simp only [wst_ap, Nat.reduceEqDiff, false_and, and_false, if_false, and_self, if_true, e1]
  rw [wr_id (x := (n : Int) + 1) (by omega) (by omega), wr_id (x := (n : Int) + 1 - 1) (by omega) (by omega)]
  simp only [tn]
  refine ⟨⟨by omega, by omega⟩, ⟨by omega, by omega⟩, ⟨by omega, by omega⟩, ?_⟩
  generalize hu : wst (wst (wst (wst w 79 n a) 80 n b) 81 n 100) 5 4 ((n : Int) + 1) = u
  have uc : pc u = wst (wst (wst (wst κ 79 n a) 80 n b) 81 n 100) 5 4 ((n : Int) + 1) := by rw [← hu, pc_in rfl, pc_in rfl, pc_in rfl, pc_in rfl, hc]
  have um : pm u = τ := by rw [← hu, pm_out rfl, pm_out rfl, pm_out rfl, pm_out rfl, hm]
  have e2 := r12_1 um
  rw [hn] at e2
  refine en_159 ?_
  simp only [wst_ap, Nat.reduceEqDiff, false_and, and_false, if_false, and_self, if_true]
  repeat' (first | (rw [if_pos (by omega)]) | (rw [if_neg (by omega)]) | (refine And.intro (by first | omega | exact Or.inl trivial | exact Or.inr trivial | exact ⟨trivial, trivial⟩ | fail) ?_) | (refine CalT in_ok (by decide) (by omega) ?_) | (refine CalF in_ok (by decide) (by omega) ?_) | (refine CalT (isPlace_ok um hR) (by decide) (by omega) ?_) | (refine CalF (isPlace_ok um hR) (by decide) (by omega) ?_) | (refine CalT (isPerson_ok um hR) (by decide) (by omega) ?_) | (refine CalF (isPerson_ok um hR) (by decide) (by omega) ?_) | (refine CalT (isText_ok um hR) (by decide) (by omega) ?_) | (refine CalF (isText_ok um hR) (by decide) (by omega) ?_) | (refine CalT (isPetitionAt_ok um hR) (by decide) (by omega) ?_) | (refine CalF (isPetitionAt_ok um hR) (by decide) (by omega) ?_) | (refine CalT (isLine_ok um hR) (by decide) (by omega) ?_) | (refine CalF (isLine_ok um hR) (by decide) (by omega) ?_) | (refine CalT mIsKnot_ok (by decide) (by omega) ?_) | (refine CalF mIsKnot_ok (by decide) (by omega) ?_) | (refine CalT mIsNight_ok (by decide) (by omega) ?_) | (refine CalF mIsNight_ok (by decide) (by omega) ?_) | (refine bk_175_75 ?_) | (refine CalE.to bounds_ok (by decide) ?_) | (refine CalE.to wrongDays_ok (by decide) ?_) | (exact CalK (fin_rf hT hO uc um (by omega) (by omega)) (by decide)) | (exact CalK (fin_rfF hT hO uc um (by omega) (by omega)) (by decide)) | fail);
  refine ⟨by rw [e2, wr_id (x := (n : Int) + 1) (by omega) (by omega), wr_id (x := (n : Int) + 1 - 1) (by omega) (by omega)] <;> omega, ?_⟩
  rw [e2, tn, wr_id (x := (n : Int) + 1) (by omega) (by omega)]
  have hj : ∀ j : Nat, (if j = n then a else τ 144 j) = (if j = n then a else τ 144 j) := fun _ => rfl
  refine OKW.of (κ := wst (wst (wst (wst κ 79 n a) 80 n b) 81 n 100) 5 4 ((n : Int) + 1)) (τ := wst (wst (wst (wst τ 144 n a) 145 n b) 146 n 100) 12 1 ((n : Int) + 1)) ⟨⟨hE.R_today, hE.R_rowSize, ?_, hE.Places_olds, hE.Rolls_size, hE.People_size, hE.People_rights, hE.Tape_size, hE.Texts_size, hE.Petitions_size, hE.Sales_size, hE.Members_size, hE.Bill_size, hE.R_row, ?_, ?_, ?_, hE.Places_sides, hE.Places_oldPlaces, hE.Places_oldTexts, hE.Places_oldDays, hE.Rolls_asOf, hE.Rolls_toldOn, hE.Rolls_values, hE.Rolls_wrongs, hE.Rolls_weights, hE.People_homes, hE.People_sinces, hE.People_wishes, hE.People_debts, hE.People_away, hE.People_rightPersons, hE.People_rightPlaces, hE.People_rightKinds, hE.People_rightValues, hE.People_rightSinces, hE.Tape_bytes, hE.Sales_sold, hE.Sales_froms, hE.Sales_tos, hE.Members_leans, hE.Bill_kinds, hE.Bill_amounts, hE.Bill_limits, hE.Bill_needs, hE.Knots_bars, hE.Knots_reads, hE.refu, hE.subj, hE.ends, hE.inKn, hE.told0, hE.told1, hE.told2, hE.told3, hE.told4, hE.told5, hE.told6, hE.told7, hE.told8, hE.told9, hE.want0, hE.want1, hE.want2, hE.want3, hE.want4, hE.want5, hE.want6, hE.want7, hE.leas0, hE.leas1, hE.leas2, hE.leas3, hE.leas4, hE.leas5, hE.leas6, hE.leas7, hE.most0, hE.most1, hE.most2, hE.most3, hE.most4, hE.most5, hE.most6, hE.most7, hE.plan0⟩, ⟨hR.M_day, ?_, ?_, ?_, ?_, hR.M_sideOf, hR.M_rolls, hR.M_rDay, hR.M_rTold, hR.M_rValue, hR.M_rWrong, hR.M_weights, hR.M_rPlace, hR.M_rWhat, hR.M_people, hR.M_home, hR.M_since, hR.M_wish, hR.M_debt, hR.M_isGone, hR.M_rights, hR.M_gWho, hR.M_gPlace, hR.M_gKind, hR.M_gSize, hR.M_gSince, hR.M_tapeMany, hR.M_tape, hR.M_texts, hR.M_petitions, hR.M_writtenMany, hR.M_olds, hR.M_oPlace, hR.M_oDay, hR.M_oText, hR.M_sales, hR.M_sPlace, hR.M_sFrom, hR.M_toldFact, hR.M_members, hR.M_knot, hR.M_lean, hR.M_lines, hR.M_lKind, hR.M_lMany, hR.M_lX, hR.M_lHangs, hR.M_lText, hR.M_wants, hR.M_bars, hR.M_reads, hR.M_leastThere, hR.M_mostThere, hR.M_rowMany⟩, hT κ _ τ _ ⟨rfl, rfl, fun r hr => ?_, rfl, rfl, rfl, rfl, rfl, rfl⟩ ht⟩ ?_ ?_
  · simp [wst_ap]
  · simp [wst_ap, hE.Places_seats]
  · simp [wst_ap, hE.Places_patrons]
  · simp [wst_ap, hE.Places_bases]
  · simp [wst_ap]; omega
  · intro j; have := hR.M_sends j; simp only [wst_ap, Nat.reduceEqDiff, false_and, if_false, true_and]; split <;> omega
  · intro j; have := hR.M_patronOf j; simp only [wst_ap, Nat.reduceEqDiff, false_and, if_false, true_and]; split <;> omega
  · intro j; have := hR.M_bases j; simp only [wst_ap, Nat.reduceEqDiff, false_and, if_false, true_and]; split <;> omega
  · (funext j; simp only [wst_ap]; repeat (rw [if_neg (by omega)]));
  · rw [pc_out rfl, pc_out rfl, pc_out rfl, pc_out rfl, uc]
  · rw [pm_in rfl, pm_in rfl, pm_in rfl, pm_in rfl, um]
end
