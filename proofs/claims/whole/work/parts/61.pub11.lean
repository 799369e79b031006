/-! a line of the bill: the lines it hangs on -/
theorem nand_m {x s : Nat} (hx : x < 2 ^ 31) (hs : s ≤ 9) : x &&& ((2 ^ (32 - s) - 1) <<< s) = 0 ↔ x < 2 ^ s := by
  constructor
  · intro h
    apply Nat.lt_of_not_le
    intro hge
    obtain ⟨i, hi, ht⟩ := Nat.exists_ge_and_testBit_of_ge_two_pow hge
    have h31 : i < 31 := by
      apply Nat.lt_of_not_le
      intro q
      rw [Nat.testBit_lt_two_pow (Nat.lt_of_lt_of_le hx (Nat.pow_le_pow_right (by decide) q))] at ht
      exact absurd ht (by decide)
    have h2 := Nat.zero_testBit i
    rw [← h, Nat.testBit_and, ht, Nat.testBit_shiftLeft, Nat.testBit_two_pow_sub_one] at h2
    simp at h2
    omega
  · intro h
    apply Nat.eq_of_testBit_eq
    intro i
    rw [Nat.zero_testBit, Nat.testBit_and, Nat.testBit_shiftLeft]
    by_cases q : i < s
    · simp; omega
    · rw [Nat.testBit_lt_two_pow (Nat.lt_of_lt_of_le h (Nat.pow_le_pow_right (by decide) (by omega)))]
      rfl
theorem msk_n : ∀ s : Nat, s ≤ 9 → (Int32.ofInt (ixor (wr (ishl 1 s - 1)) (-1))).toBitVec.toNat = (2 ^ (32 - s) - 1) <<< s := by decide +kernel
theorem shl_n : ∀ s : Nat, s ≤ 9 → ishl 1 s = ((2 ^ s : Nat) : Int) := by decide +kernel
theorem oth_i {x : Int} {s : Nat} (hx : 0 ≤ x ∧ x < 2147483648) (hs : s ≤ 9) : iand x (ixor (wr (ishl 1 s - 1)) (-1)) = 0 ↔ x < ishl 1 s := by
  obtain ⟨n, rfl⟩ : ∃ n : Nat, x = (n : Int) := ⟨x.toNat, by omega⟩
  have h1 : (Int32.ofInt (n : Int)).toBitVec.toNat = n := by
    show (BitVec.ofInt 32 (n : Int)).toNat = n
    rw [BitVec.toNat_ofInt]
    omega
  have h2 : iand (n : Int) (ixor (wr (ishl 1 s - 1)) (-1)) = 0 ↔ n &&& ((2 ^ (32 - s) - 1) <<< s) = 0 := by
    have h3 : ((Int32.ofInt (n : Int)) &&& (Int32.ofInt (ixor (wr (ishl 1 s - 1)) (-1)))).toBitVec.toNat = n &&& ((2 ^ (32 - s) - 1) <<< s) := by
      rw [Int32.toBitVec_and, BitVec.toNat_and, h1, msk_n s hs]
    rw [← h3]
    constructor
    · intro h
      have h4 : ((Int32.ofInt (n : Int)) &&& (Int32.ofInt (ixor (wr (ishl 1 s - 1)) (-1)))).toBitVec.toInt = 0 := h
      rw [show ((Int32.ofInt (n : Int)) &&& (Int32.ofInt (ixor (wr (ishl 1 s - 1)) (-1)))).toBitVec = 0#32 from BitVec.eq_of_toInt_eq h4]
      rfl
    · intro h
      show ((Int32.ofInt (n : Int)) &&& (Int32.ofInt (ixor (wr (ishl 1 s - 1)) (-1)))).toBitVec.toInt = 0
      rw [show ((Int32.ofInt (n : Int)) &&& (Int32.ofInt (ixor (wr (ishl 1 s - 1)) (-1)))).toBitVec = 0#32 from BitVec.eq_of_toNat_eq h]
      rfl
  rw [h2, nand_m (by omega) hs, shl_n s hs]
  omega
section
variable {w κ τ : Wd} {T : Wd → Wd → Prop}
theorem hasOthers_ok (hc : pc w = κ) (hE : EQ κ τ) (hR : RNG τ) {x : Int} (hx : 0 ≤ x ∧ x < 2147483648) : Cal 2 108 [.inr (.inr 0), .inl x] w (rI fun y u => y = b2 (¬ x < ishl 1 (τ 12 61)) ∧ u = w) := by
  have hb := hR.M_lines
  have e1 := (r0_4 hc).trans hE.Bill_size
  obtain ⟨n, hn⟩ : ∃ n : Nat, τ 12 61 = (n : Int) := ⟨(τ 12 61).toNat, by omega⟩
  refine en_108 ?_
  have hA : Cal 1 109 [.inr (.inr 0)] w (rI fun y u => y = wr (ishl 1 (n : Int) - 1) ∧ u = w) := by
    refine en_109 ?_
    simp only [e1, hn]
    exact ⟨rfl, rfl⟩
  refine CalE.to hA (by decide) ?_
  have h := oth_i (x := x) (s := n) hx (by omega)
  rw [hn]
  unfold b2
  split
  · rename_i q
    rw [if_neg (fun g => g (h.1 q))]
    exact ⟨Or.inl rfl, rfl, rfl⟩
  · rename_i q
    rw [if_pos (fun g => q (h.2 g))]
    exact ⟨Or.inr rfl, rfl, rfl⟩
theorem ite_i {c : Prop} [Decidable c] {A B : Prop} (h1 : c → A) (h0 : ¬ c → B) : if c then A else B := by
  split
  · exact h1 (by assumption)
  · exact h0 (by assumption)
theorem OKT.line (hT : TFr T) (h : OKT T κ τ) {n : Nat} {a b c e : Int} (hn : τ 12 61 = (n : Int)) (h9 : n < 9) (ha : 0 ≤ a ∧ a ≤ 2) (hb : 1 ≤ b ∧ b ≤ 2) (hc : 0 ≤ c ∧ c ≤ 9999) (he : 0 ≤ e ∧ e < 2 ^ n) (hx : a = 2 → c < τ 12 31) : OKT T (wst (wst (wst (wst (wst κ 13 n a) 14 n b) 15 n c) 16 n e) 0 4 ((n : Int) + 1)) (wst (wst (wst (wst (wst τ 183 n a) 184 n b) 185 n c) 186 n e) 12 61 ((n : Int) + 1)) := by
  obtain ⟨hE, hR, ht⟩ := h
  refine ⟨⟨hE.R_today, hE.R_rowSize, hE.Places_size, hE.Places_olds, hE.Rolls_size, hE.People_size, hE.People_rights, hE.Tape_size, hE.Texts_size, hE.Petitions_size, hE.Sales_size, hE.Members_size, ?_, hE.R_row, hE.Places_seats, hE.Places_patrons, hE.Places_bases, hE.Places_sides, hE.Places_oldPlaces, hE.Places_oldTexts, hE.Places_oldDays, hE.Rolls_asOf, hE.Rolls_toldOn, hE.Rolls_values, hE.Rolls_wrongs, hE.Rolls_weights, hE.People_homes, hE.People_sinces, hE.People_wishes, hE.People_debts, hE.People_away, hE.People_rightPersons, hE.People_rightPlaces, hE.People_rightKinds, hE.People_rightValues, hE.People_rightSinces, hE.Tape_bytes, hE.Sales_sold, hE.Sales_froms, hE.Sales_tos, hE.Members_leans, ?_, ?_, ?_, ?_, hE.Knots_bars, hE.Knots_reads, hE.refu, hE.subj, hE.ends, hE.inKn, hE.told0, hE.told1, hE.told2, hE.told3, hE.told4, hE.told5, hE.told6, hE.told7, hE.told8, hE.told9, hE.want0, hE.want1, hE.want2, hE.want3, hE.want4, hE.want5, hE.want6, hE.want7, hE.leas0, hE.leas1, hE.leas2, hE.leas3, hE.leas4, hE.leas5, hE.leas6, hE.leas7, hE.most0, hE.most1, hE.most2, hE.most3, hE.most4, hE.most5, hE.most6, hE.most7, hE.plan0⟩, ⟨hR.M_day, hR.M_places, hR.M_sends, hR.M_patronOf, hR.M_bases, hR.M_sideOf, hR.M_rolls, hR.M_rDay, hR.M_rTold, hR.M_rValue, hR.M_rWrong, hR.M_weights, hR.M_rPlace, hR.M_rWhat, hR.M_people, hR.M_home, hR.M_since, hR.M_wish, hR.M_debt, hR.M_isGone, hR.M_rights, hR.M_gWho, hR.M_gPlace, hR.M_gKind, hR.M_gSize, hR.M_gSince, hR.M_tapeMany, hR.M_tape, hR.M_texts, hR.M_petitions, hR.M_writtenMany, hR.M_olds, hR.M_oPlace, hR.M_oDay, hR.M_oText, hR.M_sales, hR.M_sPlace, hR.M_sFrom, hR.M_toldFact, hR.M_members, hR.M_knot, hR.M_lean, ?_, ?_, ?_, ?_, ?_, ?_, hR.M_wants, hR.M_bars, hR.M_reads, hR.M_leastThere, hR.M_mostThere, hR.M_rowMany⟩, hT κ _ τ _ ⟨rfl, rfl, fun r hr => ?_, rfl, rfl, rfl, rfl, rfl, rfl⟩ ht⟩
  · simp [wst_ap]
  · simp [wst_ap, hE.Bill_kinds]
  · simp [wst_ap, hE.Bill_amounts]
  · simp [wst_ap, hE.Bill_limits]
  · simp [wst_ap, hE.Bill_needs]
  · simp [wst_ap]; omega
  · intro j; have := hR.M_lKind j; simp only [wst_ap, Nat.reduceEqDiff, false_and, and_false, if_false, and_self, if_true, true_and]; split <;> omega
  · intro j; have := hR.M_lMany j; simp only [wst_ap, Nat.reduceEqDiff, false_and, and_false, if_false, and_self, if_true, true_and]; split <;> omega
  · intro j; have := hR.M_lX j; simp only [wst_ap, Nat.reduceEqDiff, false_and, and_false, if_false, and_self, if_true, true_and]; split <;> omega
  · intro j; have := hR.M_lHangs j; simp only [wst_ap, Nat.reduceEqDiff, false_and, and_false, if_false, and_self, if_true, true_and]
    split
    · rename_i q
      subst q
      exact he
    · exact this
  · intro j
    have h5 := hR.M_lText j
    rw [hn] at h5
    simp only [wst_ap, Nat.reduceEqDiff, false_and, and_false, if_false, and_self, if_true, true_and]
    split
    · intro _ q
      exact hx q
    · intro q1 q2
      exact h5 (by omega) q2
  · (funext j; simp only [wst_ap]; repeat (rw [if_neg (by omega)]));
theorem both_line (hT : TFr T) (hO : OKW T w) {a b c e : Int} (he : in32 e) : Cal 12 107 [.inr (.inr 11), .inl a, .inl b, .inl c, .inl e] w (rI fun x u => Cal 12 209 [.inr (.inr 12), .inl a, .inl b, .inl c, .inl e] u (rI fun y v => x = y ∧ OKW T v)) := by
  obtain ⟨κ, hc⟩ : ∃ κ, pc w = κ := ⟨_, rfl⟩
  obtain ⟨τ, hm⟩ : ∃ τ, pm w = τ := ⟨_, rfl⟩
  unfold OKW at hO
  rw [hc, hm] at hO
  obtain ⟨hE, hR, ht⟩ := id hO
  unfold in32 at he
  have hd := hR.M_lines
  have hs : ∀ s : Nat, s ≤ 9 → ishl 1 s = ((2 ^ s : Nat) : Int) := shl_n
  have e1 := (r0_4 hc).trans hE.Bill_size
  obtain ⟨n, hn⟩ : ∃ n : Nat, τ 12 61 = (n : Int) := ⟨(τ 12 61).toNat, by omega⟩
  refine en_107 ?_
  repeat' (first | (rw [if_neg (show ¬ (1 : Int) = 0 by decide)]) | (rw [if_pos (show (0 : Int) = 0 from rfl)]) | (rw [if_pos trivial]) | (refine And.intro (by first | omega | exact Or.inl trivial | exact Or.inr trivial | exact ⟨trivial, trivial⟩ | fail) ?_) | (refine CalB isWithin_ok (by decide) (fun _ => ?_) (fun _ => ?_)) | (refine CalB isPatronOrNone_ok (by decide) (fun _ => ?_) (fun _ => ?_)) | (refine CalB (placesHas_ok hc hE) (by decide) (fun _ => ?_) (fun _ => ?_)) | (refine CalB (peopleHas_ok hc hE) (by decide) (fun _ => ?_) (fun _ => ?_)) | (refine CalB (textsHas_ok hc hE) (by decide) (fun _ => ?_) (fun _ => ?_)) | (refine CalB (petHas_ok hc hE) (by decide) (fun _ => ?_) (fun _ => ?_)) | (refine CalB (billHas_ok hc hE) (by decide) (fun _ => ?_) (fun _ => ?_)) | (refine CalB rIsKnot_ok (by decide) (fun _ => ?_) (fun _ => ?_)) | (refine CalB rIsNight_ok (by decide) (fun _ => ?_) (fun _ => ?_)) | (refine refuseDays_br hc hm (fun _ => ?_) (fun g u hg uc um => ?_)) | (refine bk_40_53 ?_) | (refine bk_40_80 ?_) | (refine ite_i (fun _ => ?_) (fun _ => ?_)) | (refine CalB (hasOthers_ok hc hE hR (by omega)) (by decide) (fun _ => ?_) (fun _ => ?_)) | fail);
  all_goals try (refine CalI.to (refuse_ok hc hm (by omega)) (by decide) ?_; rintro _ u ⟨rfl, uc, um⟩; have e2 := r12_61 um; have e7 : ishl 1 (u 12 61) = ishl 1 (τ 12 61) := (by rw [e2]); refine en_209 ?_; repeat' (first | (rw [if_pos (by omega)]) | (rw [if_neg (by omega)]) | (refine And.intro (by first | omega | exact Or.inl trivial | exact Or.inr trivial | exact ⟨trivial, trivial⟩ | fail) ?_) | (refine CalT in_ok (by decide) (by omega) ?_) | (refine CalF in_ok (by decide) (by omega) ?_) | (refine CalT (isPlace_ok um hR) (by decide) (by omega) ?_) | (refine CalF (isPlace_ok um hR) (by decide) (by omega) ?_) | (refine CalT (isPerson_ok um hR) (by decide) (by omega) ?_) | (refine CalF (isPerson_ok um hR) (by decide) (by omega) ?_) | (refine CalT (isText_ok um hR) (by decide) (by omega) ?_) | (refine CalF (isText_ok um hR) (by decide) (by omega) ?_) | (refine CalT (isPetitionAt_ok um hR) (by decide) (by omega) ?_) | (refine CalF (isPetitionAt_ok um hR) (by decide) (by omega) ?_) | (refine CalT (isLine_ok um hR) (by decide) (by omega) ?_) | (refine CalF (isLine_ok um hR) (by decide) (by omega) ?_) | (refine CalT mIsKnot_ok (by decide) (by omega) ?_) | (refine CalF mIsKnot_ok (by decide) (by omega) ?_) | (refine CalT mIsNight_ok (by decide) (by omega) ?_) | (refine CalF mIsNight_ok (by decide) (by omega) ?_) | (refine bk_175_75 ?_) | (refine CalE.to bounds_ok (by decide) ?_) | (refine CalE.to wrongDays_ok (by decide) ?_) | (exact CalK (fin_rf hT hO uc um (by omega) (by omega)) (by decide)) | (exact CalK (fin_rfF hT hO uc um (by omega) (by omega)) (by decide)) | fail);;)
  all_goals (
    rw [hn] at e1 hd
    have he2 : 0 ≤ e ∧ e < 2 ^ n := by
      have h8 := hs n (by omega)
      rw [← hn] at h8
      have h10 : ((2 ^ n : Nat) : Int) = (2 : Int) ^ n := by rw [Int.natCast_pow]; rfl
      rw [h10] at h8
      omega
    refine en_110 ?_
    simp only [wst_ap, Nat.reduceEqDiff, false_and, and_false, if_false, and_self, if_true, true_and, e1, tn]
    rw [wr_id (x := (n : Int) + 1) (by omega) (by omega)]
    repeat' (first | (refine And.intro (by first | omega | exact ⟨by omega, by omega⟩ | fail) ?_) | fail)
    generalize hu : wst (wst (wst (wst (wst w 13 n a) 14 n b) 15 n c) 16 n e) 0 4 ((n : Int) + 1) = u
    have uc : pc u = wst (wst (wst (wst (wst κ 13 n a) 14 n b) 15 n c) 16 n e) 0 4 ((n : Int) + 1) := by rw [← hu, pc_in rfl, pc_in rfl, pc_in rfl, pc_in rfl, pc_in rfl, hc]
    have um : pm u = τ := by rw [← hu, pm_out rfl, pm_out rfl, pm_out rfl, pm_out rfl, pm_out rfl, hm]
    clear hu
    have e2 := r12_61 um
    have e7 : ishl 1 (u 12 61) = ishl 1 (τ 12 61) := (by rw [e2])
    refine en_209 ?_
    repeat' (first | (rw [if_pos (by omega)]) | (rw [if_neg (by omega)]) | (refine And.intro (by first | omega | exact Or.inl trivial | exact Or.inr trivial | exact ⟨trivial, trivial⟩ | fail) ?_) | (refine CalT in_ok (by decide) (by omega) ?_) | (refine CalF in_ok (by decide) (by omega) ?_) | (refine CalT (isPlace_ok um hR) (by decide) (by omega) ?_) | (refine CalF (isPlace_ok um hR) (by decide) (by omega) ?_) | (refine CalT (isPerson_ok um hR) (by decide) (by omega) ?_) | (refine CalF (isPerson_ok um hR) (by decide) (by omega) ?_) | (refine CalT (isText_ok um hR) (by decide) (by omega) ?_) | (refine CalF (isText_ok um hR) (by decide) (by omega) ?_) | (refine CalT (isPetitionAt_ok um hR) (by decide) (by omega) ?_) | (refine CalF (isPetitionAt_ok um hR) (by decide) (by omega) ?_) | (refine CalT (isLine_ok um hR) (by decide) (by omega) ?_) | (refine CalF (isLine_ok um hR) (by decide) (by omega) ?_) | (refine CalT mIsKnot_ok (by decide) (by omega) ?_) | (refine CalF mIsKnot_ok (by decide) (by omega) ?_) | (refine CalT mIsNight_ok (by decide) (by omega) ?_) | (refine CalF mIsNight_ok (by decide) (by omega) ?_) | (refine bk_175_75 ?_) | (refine CalE.to bounds_ok (by decide) ?_) | (refine CalE.to wrongDays_ok (by decide) ?_) | (exact CalK (fin_rf hT hO uc um (by omega) (by omega)) (by decide)) | (exact CalK (fin_rfF hT hO uc um (by omega) (by omega)) (by decide)) | fail);
    rw [hn] at e2
    simp only [wst_ap, Nat.reduceEqDiff, false_and, and_false, if_false, and_self, if_true, true_and, e2, tn]
    rw [wr_id (x := (n : Int) + 1) (by omega) (by omega)]
    repeat' (first | (refine And.intro (by first | omega | exact ⟨by omega, by omega⟩ | fail) ?_) | fail)
    refine OKW.of (hO.line (n := n) (a := a) (b := b) (c := c) (e := e) hT hn (by omega) (by omega) (by omega) (by omega) he2 (by omega)) ?_ ?_
    · rw [pc_out rfl, pc_out rfl, pc_out rfl, pc_out rfl, pc_out rfl, uc]
    · rw [pm_in rfl, pm_in rfl, pm_in rfl, pm_in rfl, pm_in rfl, um])
end
