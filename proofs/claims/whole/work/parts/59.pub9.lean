/-! members and bytes -/
theorem by_rng (y : Int) : 0 ≤ l2i (land y 255) ∧ l2i (land y 255) ≤ 255 := by
  unfold l2i land lop
  rw [Int64.ofInt_toInt]
  generalize Int64.ofInt y = z
  have h2 : (z.toBitVec &&& 255#64).toNat ≤ 255 := by
    rw [BitVec.toNat_and]
    exact Nat.and_le_right
  have h : (z &&& Int64.ofInt 255).toInt = ((z.toBitVec &&& 255#64).toNat : Int) := by
    show (z.toBitVec &&& 255#64).toInt = _
    rw [BitVec.toInt_eq_toNat_of_lt (by omega)]
  rw [Int64.toInt_toInt32, h, Int.bmod_eq_of_le (by omega) (by omega)]
  omega
theorem kcnt_w {f g : Nat → Int} {k n : Nat} (h : ∀ j, j < n → f j = g j) : kcnt f k n = kcnt g k n := by
  induction n with
  | zero => rfl
  | succ n ih =>
    unfold kcnt
    rw [ih (fun j hj => h j (by omega)), h n (by omega)]
theorem kcnt_b (f : Nat → Int) (k n : Nat) : 0 ≤ kcnt f k n ∧ kcnt f k n ≤ n := by
  induction n with
  | zero => exact ⟨Int.le_refl _, Int.le_refl _⟩
  | succ n ih =>
    unfold kcnt
    split <;> omega
section
variable {w κ τ : Wd} {T : Wd → Wd → Prop}
theorem both_member (hT : TFr T) (hO : OKW T w) {a b : Int} : Cal 12 98 [.inr (.inr 11), .inl a, .inl b] w (rI fun x u => Cal 12 205 [.inr (.inr 12), .inl a, .inl b] u (rI fun y v => x = y ∧ OKW T v)) := by
  obtain ⟨κ, hc⟩ : ∃ κ, pc w = κ := ⟨_, rfl⟩
  obtain ⟨τ, hm⟩ : ∃ τ, pm w = τ := ⟨_, rfl⟩
  unfold OKW at hO
  rw [hc, hm] at hO
  obtain ⟨hE, hR, ht⟩ := id hO
  have hd := hR.M_members
  have e1 := (r2_1 hc).trans hE.Members_size
  refine en_98 ?_
  repeat' (first | (rw [if_neg (show ¬ (1 : Int) = 0 by decide)]) | (rw [if_pos (show (0 : Int) = 0 from rfl)]) | (rw [if_pos trivial]) | (refine And.intro (by first | omega | exact Or.inl trivial | exact Or.inr trivial | exact ⟨trivial, trivial⟩ | fail) ?_) | (refine CalB isWithin_ok (by decide) (fun _ => ?_) (fun _ => ?_)) | (refine CalB isPatronOrNone_ok (by decide) (fun _ => ?_) (fun _ => ?_)) | (refine CalB (placesHas_ok hc hE) (by decide) (fun _ => ?_) (fun _ => ?_)) | (refine CalB (peopleHas_ok hc hE) (by decide) (fun _ => ?_) (fun _ => ?_)) | (refine CalB (textsHas_ok hc hE) (by decide) (fun _ => ?_) (fun _ => ?_)) | (refine CalB (petHas_ok hc hE) (by decide) (fun _ => ?_) (fun _ => ?_)) | (refine CalB (billHas_ok hc hE) (by decide) (fun _ => ?_) (fun _ => ?_)) | (refine CalB rIsKnot_ok (by decide) (fun _ => ?_) (fun _ => ?_)) | (refine CalB rIsNight_ok (by decide) (fun _ => ?_) (fun _ => ?_)) | (refine refuseDays_br hc hm (fun _ => ?_) (fun g u hg uc um => ?_)) | (refine bk_40_53 ?_) | (refine bk_40_80 ?_) | split | fail);
  all_goals try (refine CalI.to (refuse_ok hc hm (by omega)) (by decide) ?_; rintro _ u ⟨rfl, uc, um⟩; have e2 := r12_57 um; refine en_205 ?_; repeat' (first | (rw [if_pos (by omega)]) | (rw [if_neg (by omega)]) | (refine And.intro (by first | omega | exact Or.inl trivial | exact Or.inr trivial | exact ⟨trivial, trivial⟩ | fail) ?_) | (refine CalT in_ok (by decide) (by omega) ?_) | (refine CalF in_ok (by decide) (by omega) ?_) | (refine CalT (isPlace_ok um hR) (by decide) (by omega) ?_) | (refine CalF (isPlace_ok um hR) (by decide) (by omega) ?_) | (refine CalT (isPerson_ok um hR) (by decide) (by omega) ?_) | (refine CalF (isPerson_ok um hR) (by decide) (by omega) ?_) | (refine CalT (isText_ok um hR) (by decide) (by omega) ?_) | (refine CalF (isText_ok um hR) (by decide) (by omega) ?_) | (refine CalT (isPetitionAt_ok um hR) (by decide) (by omega) ?_) | (refine CalF (isPetitionAt_ok um hR) (by decide) (by omega) ?_) | (refine CalT (isLine_ok um hR) (by decide) (by omega) ?_) | (refine CalF (isLine_ok um hR) (by decide) (by omega) ?_) | (refine CalT mIsKnot_ok (by decide) (by omega) ?_) | (refine CalF mIsKnot_ok (by decide) (by omega) ?_) | (refine CalT mIsNight_ok (by decide) (by omega) ?_) | (refine CalF mIsNight_ok (by decide) (by omega) ?_) | (refine bk_175_75 ?_) | (refine CalE.to bounds_ok (by decide) ?_) | (refine CalE.to wrongDays_ok (by decide) ?_) | (exact CalK (fin_rf hT hO uc um (by omega) (by omega)) (by decide)) | (exact CalK (fin_rfF hT hO uc um (by omega) (by omega)) (by decide)) | fail);;)
  all_goals (
    obtain ⟨n, hn⟩ : ∃ n : Nat, τ 12 57 = (n : Int) := ⟨(τ 12 57).toNat, by omega⟩
    rw [hn] at e1 hd
    obtain ⟨q, rfl⟩ : ∃ q : Nat, a = (q : Int) := ⟨a.toNat, by omega⟩
    have e4 : w 51 q = kcnt (τ 180) q n := by
      rw [r51 hc, hE.inKn, hn, tn]
    have hk := kcnt_b (τ 180) q n
    refine en_100 ?_
    simp only [wst_ap, Nat.reduceEqDiff, false_and, and_false, if_false, and_self, if_true, true_and, e1, e4, tn]
    rw [wr_id (x := (n : Int) + 1) (by omega) (by omega), wr_id (x := kcnt (τ 180) q n + 1) (by omega) (by omega)]
    repeat' (first | (refine And.intro (by first | omega | exact ⟨by omega, by omega⟩ | fail) ?_) | fail)
    generalize hu : wst (wst (wst w 50 n b) 51 q (kcnt (τ 180) q n + 1)) 2 1 ((n : Int) + 1) = u
    have uc : pc u = wst (wst (wst κ 50 n b) 51 q (kcnt (τ 180) q n + 1)) 2 1 ((n : Int) + 1) := by rw [← hu, pc_in rfl, pc_in rfl, pc_in rfl, hc]
    have um : pm u = τ := by rw [← hu, pm_out rfl, pm_out rfl, pm_out rfl, hm]
    have e2 := r12_57 um
    rw [hn] at e2
    refine en_205 ?_
    simp only [wst_ap, Nat.reduceEqDiff, false_and, and_false, if_false, and_self, if_true, true_and]
    repeat' (first | (rw [if_pos (by omega)]) | (rw [if_neg (by omega)]) | (refine And.intro (by first | omega | exact Or.inl trivial | exact Or.inr trivial | exact ⟨trivial, trivial⟩ | fail) ?_) | (refine CalT in_ok (by decide) (by omega) ?_) | (refine CalF in_ok (by decide) (by omega) ?_) | (refine CalT (isPlace_ok um hR) (by decide) (by omega) ?_) | (refine CalF (isPlace_ok um hR) (by decide) (by omega) ?_) | (refine CalT (isPerson_ok um hR) (by decide) (by omega) ?_) | (refine CalF (isPerson_ok um hR) (by decide) (by omega) ?_) | (refine CalT (isText_ok um hR) (by decide) (by omega) ?_) | (refine CalF (isText_ok um hR) (by decide) (by omega) ?_) | (refine CalT (isPetitionAt_ok um hR) (by decide) (by omega) ?_) | (refine CalF (isPetitionAt_ok um hR) (by decide) (by omega) ?_) | (refine CalT (isLine_ok um hR) (by decide) (by omega) ?_) | (refine CalF (isLine_ok um hR) (by decide) (by omega) ?_) | (refine CalT mIsKnot_ok (by decide) (by omega) ?_) | (refine CalF mIsKnot_ok (by decide) (by omega) ?_) | (refine CalT mIsNight_ok (by decide) (by omega) ?_) | (refine CalF mIsNight_ok (by decide) (by omega) ?_) | (refine bk_175_75 ?_) | (refine CalE.to bounds_ok (by decide) ?_) | (refine CalE.to wrongDays_ok (by decide) ?_) | (exact CalK (fin_rf hT hO uc um (by omega) (by omega)) (by decide)) | (exact CalK (fin_rfF hT hO uc um (by omega) (by omega)) (by decide)) | fail);
    simp only [e2, tn, wr_id (show -2147483648 ≤ (n : Int) + 1 by omega) (show (n : Int) + 1 < 2147483648 by omega)]
    refine ⟨by (try rw [wr_id (by omega) (by omega)]) <;> omega, ?_⟩
    refine OKW.of (κ := wst (wst (wst κ 50 n b) 51 q (kcnt (τ 180) q n + 1)) 2 1 ((n : Int) + 1)) (τ := wst (wst (wst τ 180 n q) 181 n b) 12 57 ((n : Int) + 1)) ⟨⟨hE.R_today, hE.R_rowSize, hE.Places_size, hE.Places_olds, hE.Rolls_size, hE.People_size, hE.People_rights, hE.Tape_size, hE.Texts_size, hE.Petitions_size, hE.Sales_size, ?_, hE.Bill_size, hE.R_row, hE.Places_seats, hE.Places_patrons, hE.Places_bases, hE.Places_sides, hE.Places_oldPlaces, hE.Places_oldTexts, hE.Places_oldDays, hE.Rolls_asOf, hE.Rolls_toldOn, hE.Rolls_values, hE.Rolls_wrongs, hE.Rolls_weights, hE.People_homes, hE.People_sinces, hE.People_wishes, hE.People_debts, hE.People_away, hE.People_rightPersons, hE.People_rightPlaces, hE.People_rightKinds, hE.People_rightValues, hE.People_rightSinces, hE.Tape_bytes, hE.Sales_sold, hE.Sales_froms, hE.Sales_tos, ?_, hE.Bill_kinds, hE.Bill_amounts, hE.Bill_limits, hE.Bill_needs, hE.Knots_bars, hE.Knots_reads, hE.refu, hE.subj, hE.ends, ?_, hE.told0, hE.told1, hE.told2, hE.told3, hE.told4, hE.told5, hE.told6, hE.told7, hE.told8, hE.told9, hE.want0, hE.want1, hE.want2, hE.want3, hE.want4, hE.want5, hE.want6, hE.want7, hE.leas0, hE.leas1, hE.leas2, hE.leas3, hE.leas4, hE.leas5, hE.leas6, hE.leas7, hE.most0, hE.most1, hE.most2, hE.most3, hE.most4, hE.most5, hE.most6, hE.most7, hE.plan0⟩, ⟨hR.M_day, hR.M_places, hR.M_sends, hR.M_patronOf, hR.M_bases, hR.M_sideOf, hR.M_rolls, hR.M_rDay, hR.M_rTold, hR.M_rValue, hR.M_rWrong, hR.M_weights, hR.M_rPlace, hR.M_rWhat, hR.M_people, hR.M_home, hR.M_since, hR.M_wish, hR.M_debt, hR.M_isGone, hR.M_rights, hR.M_gWho, hR.M_gPlace, hR.M_gKind, hR.M_gSize, hR.M_gSince, hR.M_tapeMany, hR.M_tape, hR.M_texts, hR.M_petitions, hR.M_writtenMany, hR.M_olds, hR.M_oPlace, hR.M_oDay, hR.M_oText, hR.M_sales, hR.M_sPlace, hR.M_sFrom, hR.M_toldFact, ?_, ?_, ?_, hR.M_lines, hR.M_lKind, hR.M_lMany, hR.M_lX, hR.M_lHangs, hR.M_lText, hR.M_wants, hR.M_bars, hR.M_reads, hR.M_leastThere, hR.M_mostThere, hR.M_rowMany⟩, hT κ _ τ _ ⟨rfl, rfl, fun r hr => ?_, rfl, rfl, rfl, rfl, rfl, rfl⟩ ht⟩ ?_ ?_
    · simp [wst_ap]
    · simp [wst_ap, hE.Members_leans]
    · intro k
      simp only [wst_ap, Nat.reduceEqDiff, false_and, and_false, if_false, and_self, if_true, true_and]
      have e5 := hE.inKn k
      rw [hn, tn] at e5
      rw [show ((n : Int) + 1).toNat = n + 1 by omega]
      show _ = kcnt _ k n + _
      have e6 : ∀ j, (wst (wst (wst τ 180 n q) 181 n b) 12 57 ((n : Int) + 1)) 180 j = if j = n then (q : Int) else τ 180 j := fun j => by simp [wst_ap]
      rw [kcnt_w (g := τ 180) (fun j hj => (e6 j).trans (if_neg (by omega))), e6 n, if_pos rfl]
      by_cases hkq : k = q
      · subst hkq
        rw [if_pos rfl, if_pos rfl]
      · rw [if_neg hkq, if_neg (by omega), e5]
        omega
    · simp [wst_ap]; omega
    · intro j; have := hR.M_knot j; simp only [wst_ap, Nat.reduceEqDiff, false_and, and_false, if_false, and_self, if_true, true_and]; split <;> omega
    · intro j; have := hR.M_lean j; simp only [wst_ap, Nat.reduceEqDiff, false_and, and_false, if_false, and_self, if_true, true_and]; split <;> omega
    · (funext j; simp only [wst_ap]; repeat (rw [if_neg (by omega)]));
    · rw [pc_out rfl, pc_out rfl, pc_out rfl, uc]
    · rw [pm_in rfl, pm_in rfl, pm_in rfl, um])
end
