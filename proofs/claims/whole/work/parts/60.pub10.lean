/-! feed -/
def byt (x : Int) (i : Nat) : Int := l2i (land (lshr x (wr (8 * (i : Int)))) 255)
def fd (A oc fo : Nat) (x : Int) (n : Nat) (w : Wd) : Nat → Wd
  | 0 => w
  | i + 1 => wst (wst (fd A oc fo x n w i) A (n + i) (byt x i)) oc fo ((n : Int) + i + 1)
section
variable {w κ τ : Wd} {T : Wd → Wd → Prop}
theorem fd_m {A oc fo n i : Nat} {x : Int} (h : w oc fo = (n : Int)) : fd A oc fo x n w i oc fo = (n : Int) + i := by
  cases i with
  | zero => exact h.trans (by omega)
  | succ i =>
    show (if oc = oc ∧ fo = fo then _ else _) = _
    rw [if_pos ⟨rfl, rfl⟩]
    omega
theorem fdC_pc {n i : Nat} {x : Int} : pc (fd 117 9 1 x n w i) = fd 117 9 1 x n (pc w) i := by
  induction i with
  | zero => rfl
  | succ i ih => show pc (wst (wst _ _ _ _) _ _ _) = wst (wst _ _ _ _) _ _ _; rw [pc_in rfl, pc_in rfl, ih]
theorem fdC_pm {n i : Nat} {x : Int} : pm (fd 117 9 1 x n w i) = pm w := by
  induction i with
  | zero => rfl
  | succ i ih => show pm (wst (wst _ _ _ _) _ _ _) = _; rw [pm_out rfl, pm_out rfl, ih]
theorem fdM_pc {n i : Nat} {x : Int} : pc (fd 168 12 30 x n w i) = pc w := by
  induction i with
  | zero => rfl
  | succ i ih => show pc (wst (wst _ _ _ _) _ _ _) = _; rw [pc_out rfl, pc_out rfl, ih]
theorem fdM_pm {n i : Nat} {x : Int} : pm (fd 168 12 30 x n w i) = fd 168 12 30 x n (pm w) i := by
  induction i with
  | zero => rfl
  | succ i ih => show pm (wst (wst _ _ _ _) _ _ _) = wst (wst _ _ _ _) _ _ _; rw [pm_in rfl, pm_in rfl, ih]
theorem OKT.byte (hT : TFr T) (h : OKT T κ τ) {m : Nat} {v k : Int} (hm : m < 40) (hv : 0 ≤ v ∧ v ≤ 255) (hk : 0 ≤ k ∧ k ≤ 40) : OKT T (wst (wst κ 117 m v) 9 1 k) (wst (wst τ 168 m v) 12 30 k) := by
  obtain ⟨hE, hR, ht⟩ := h
  refine ⟨⟨hE.R_today, hE.R_rowSize, hE.Places_size, hE.Places_olds, hE.Rolls_size, hE.People_size, hE.People_rights, ?_, hE.Texts_size, hE.Petitions_size, hE.Sales_size, hE.Members_size, hE.Bill_size, hE.R_row, hE.Places_seats, hE.Places_patrons, hE.Places_bases, hE.Places_sides, hE.Places_oldPlaces, hE.Places_oldTexts, hE.Places_oldDays, hE.Rolls_asOf, hE.Rolls_toldOn, hE.Rolls_values, hE.Rolls_wrongs, hE.Rolls_weights, hE.People_homes, hE.People_sinces, hE.People_wishes, hE.People_debts, hE.People_away, hE.People_rightPersons, hE.People_rightPlaces, hE.People_rightKinds, hE.People_rightValues, hE.People_rightSinces, ?_, hE.Sales_sold, hE.Sales_froms, hE.Sales_tos, hE.Members_leans, hE.Bill_kinds, hE.Bill_amounts, hE.Bill_limits, hE.Bill_needs, hE.Knots_bars, hE.Knots_reads, hE.refu, hE.subj, hE.ends, hE.inKn, hE.told0, hE.told1, hE.told2, hE.told3, hE.told4, hE.told5, hE.told6, hE.told7, hE.told8, hE.told9, hE.want0, hE.want1, hE.want2, hE.want3, hE.want4, hE.want5, hE.want6, hE.want7, hE.leas0, hE.leas1, hE.leas2, hE.leas3, hE.leas4, hE.leas5, hE.leas6, hE.leas7, hE.most0, hE.most1, hE.most2, hE.most3, hE.most4, hE.most5, hE.most6, hE.most7, hE.plan0⟩, ⟨hR.M_day, hR.M_places, hR.M_sends, hR.M_patronOf, hR.M_bases, hR.M_sideOf, hR.M_rolls, hR.M_rDay, hR.M_rTold, hR.M_rValue, hR.M_rWrong, hR.M_weights, hR.M_rPlace, hR.M_rWhat, hR.M_people, hR.M_home, hR.M_since, hR.M_wish, hR.M_debt, hR.M_isGone, hR.M_rights, hR.M_gWho, hR.M_gPlace, hR.M_gKind, hR.M_gSize, hR.M_gSince, ?_, ?_, hR.M_texts, hR.M_petitions, hR.M_writtenMany, hR.M_olds, hR.M_oPlace, hR.M_oDay, hR.M_oText, hR.M_sales, hR.M_sPlace, hR.M_sFrom, hR.M_toldFact, hR.M_members, hR.M_knot, hR.M_lean, hR.M_lines, hR.M_lKind, hR.M_lMany, hR.M_lX, hR.M_lHangs, hR.M_lText, hR.M_wants, hR.M_bars, hR.M_reads, hR.M_leastThere, hR.M_mostThere, hR.M_rowMany⟩, hT κ _ τ _ ⟨rfl, rfl, fun r hr => ?_, rfl, rfl, rfl, rfl, rfl, rfl⟩ ht⟩
  · simp [wst_ap]
  · simp [wst_ap, hE.Tape_bytes]
  · simp [wst_ap]; omega
  · intro j; have := hR.M_tape j; simp only [wst_ap, Nat.reduceEqDiff, false_and, and_false, if_false, and_self, if_true, true_and]; split <;> omega
  · (funext j; simp only [wst_ap]; repeat (rw [if_neg (by omega)]));
theorem OKT.feed (hT : TFr T) (h : OKT T κ τ) {n i : Nat} {x : Int} (hi : n + i ≤ 40) : OKT T (fd 117 9 1 x n κ i) (fd 168 12 30 x n τ i) := by
  induction i with
  | zero => exact h
  | succ i ih => exact (ih (by omega)).byte hT (by omega) (by_rng _) (by omega)
theorem both_feed (hT : TFr T) (hO : OKW T w) {a x : Int} : Cal 12 43 [.inr (.inr 11), .inl a, .inr (.inl x)] w (rI fun x' u => Cal 12 177 [.inr (.inr 12), .inl a, .inr (.inl x)] u (rI fun y v => x' = y ∧ OKW T v)) := by
  obtain ⟨κ, hc⟩ : ∃ κ, pc w = κ := ⟨_, rfl⟩
  obtain ⟨τ, hm⟩ : ∃ τ, pm w = τ := ⟨_, rfl⟩
  unfold OKW at hO
  rw [hc, hm] at hO
  obtain ⟨hE, hR, ht⟩ := id hO
  have hd := hR.M_tapeMany
  have e1 := (r9_1 hc).trans hE.Tape_size
  obtain ⟨n, hn⟩ : ∃ n : Nat, τ 12 30 = (n : Int) := ⟨(τ 12 30).toNat, by omega⟩
  rw [hn] at e1 hd
  refine en_43 ?_
  simp only [e1]
  split
  · refine CalI.to (refuse_ok hc hm (by omega)) (by decide) ?_; rintro _ u ⟨rfl, uc, um⟩;
    refine en_177 ?_
    repeat' (first | (rw [if_pos (by omega)]) | (rw [if_neg (by omega)]) | (refine And.intro (by first | omega | exact Or.inl trivial | exact Or.inr trivial | exact ⟨trivial, trivial⟩ | fail) ?_) | (refine CalT in_ok (by decide) (by omega) ?_) | (refine CalF in_ok (by decide) (by omega) ?_) | (refine CalT (isPlace_ok um hR) (by decide) (by omega) ?_) | (refine CalF (isPlace_ok um hR) (by decide) (by omega) ?_) | (refine CalT (isPerson_ok um hR) (by decide) (by omega) ?_) | (refine CalF (isPerson_ok um hR) (by decide) (by omega) ?_) | (refine CalT (isText_ok um hR) (by decide) (by omega) ?_) | (refine CalF (isText_ok um hR) (by decide) (by omega) ?_) | (refine CalT (isPetitionAt_ok um hR) (by decide) (by omega) ?_) | (refine CalF (isPetitionAt_ok um hR) (by decide) (by omega) ?_) | (refine CalT (isLine_ok um hR) (by decide) (by omega) ?_) | (refine CalF (isLine_ok um hR) (by decide) (by omega) ?_) | (refine CalT mIsKnot_ok (by decide) (by omega) ?_) | (refine CalF mIsKnot_ok (by decide) (by omega) ?_) | (refine CalT mIsNight_ok (by decide) (by omega) ?_) | (refine CalF mIsNight_ok (by decide) (by omega) ?_) | (refine bk_175_75 ?_) | (refine CalE.to bounds_ok (by decide) ?_) | (refine CalE.to wrongDays_ok (by decide) ?_) | (exact CalK (fin_rf hT hO uc um (by omega) (by omega)) (by decide)) | (exact CalK (fin_rfF hT hO uc um (by omega) (by omega)) (by decide)) | fail);;
  split
  · refine CalI.to (refuse_ok hc hm (by omega)) (by decide) ?_; rintro _ u ⟨rfl, uc, um⟩;
    refine en_177 ?_
    repeat' (first | (rw [if_pos (by omega)]) | (rw [if_neg (by omega)]) | (refine And.intro (by first | omega | exact Or.inl trivial | exact Or.inr trivial | exact ⟨trivial, trivial⟩ | fail) ?_) | (refine CalT in_ok (by decide) (by omega) ?_) | (refine CalF in_ok (by decide) (by omega) ?_) | (refine CalT (isPlace_ok um hR) (by decide) (by omega) ?_) | (refine CalF (isPlace_ok um hR) (by decide) (by omega) ?_) | (refine CalT (isPerson_ok um hR) (by decide) (by omega) ?_) | (refine CalF (isPerson_ok um hR) (by decide) (by omega) ?_) | (refine CalT (isText_ok um hR) (by decide) (by omega) ?_) | (refine CalF (isText_ok um hR) (by decide) (by omega) ?_) | (refine CalT (isPetitionAt_ok um hR) (by decide) (by omega) ?_) | (refine CalF (isPetitionAt_ok um hR) (by decide) (by omega) ?_) | (refine CalT (isLine_ok um hR) (by decide) (by omega) ?_) | (refine CalF (isLine_ok um hR) (by decide) (by omega) ?_) | (refine CalT mIsKnot_ok (by decide) (by omega) ?_) | (refine CalF mIsKnot_ok (by decide) (by omega) ?_) | (refine CalT mIsNight_ok (by decide) (by omega) ?_) | (refine CalF mIsNight_ok (by decide) (by omega) ?_) | (refine bk_175_75 ?_) | (refine CalE.to bounds_ok (by decide) ?_) | (refine CalE.to wrongDays_ok (by decide) ?_) | (exact CalK (fin_rf hT hO uc um (by omega) (by omega)) (by decide)) | (exact CalK (fin_rfF hT hO uc um (by omega) (by omega)) (by decide)) | fail);;
  rw [wr_id (x := (n : Int) + a) (by omega) (by omega)]
  split
  · refine CalI.to (refuse_ok hc hm (by omega)) (by decide) ?_; rintro _ u ⟨rfl, uc, um⟩;
    have e2 := (r12_30 um).trans hn
    refine en_177 ?_
    simp only [e2]
    rw [wr_id (x := (n : Int) + a) (by omega) (by omega)]
    repeat' (first | (rw [if_pos (by omega)]) | (rw [if_neg (by omega)]) | (refine And.intro (by first | omega | exact Or.inl trivial | exact Or.inr trivial | exact ⟨trivial, trivial⟩ | fail) ?_) | (refine CalT in_ok (by decide) (by omega) ?_) | (refine CalF in_ok (by decide) (by omega) ?_) | (refine CalT (isPlace_ok um hR) (by decide) (by omega) ?_) | (refine CalF (isPlace_ok um hR) (by decide) (by omega) ?_) | (refine CalT (isPerson_ok um hR) (by decide) (by omega) ?_) | (refine CalF (isPerson_ok um hR) (by decide) (by omega) ?_) | (refine CalT (isText_ok um hR) (by decide) (by omega) ?_) | (refine CalF (isText_ok um hR) (by decide) (by omega) ?_) | (refine CalT (isPetitionAt_ok um hR) (by decide) (by omega) ?_) | (refine CalF (isPetitionAt_ok um hR) (by decide) (by omega) ?_) | (refine CalT (isLine_ok um hR) (by decide) (by omega) ?_) | (refine CalF (isLine_ok um hR) (by decide) (by omega) ?_) | (refine CalT mIsKnot_ok (by decide) (by omega) ?_) | (refine CalF mIsKnot_ok (by decide) (by omega) ?_) | (refine CalT mIsNight_ok (by decide) (by omega) ?_) | (refine CalF mIsNight_ok (by decide) (by omega) ?_) | (refine bk_175_75 ?_) | (refine CalE.to bounds_ok (by decide) ?_) | (refine CalE.to wrongDays_ok (by decide) ?_) | (exact CalK (fin_rf hT hO uc um (by omega) (by omega)) (by decide)) | (exact CalK (fin_rfF hT hO uc um (by omega) (by omega)) (by decide)) | fail);;
  obtain ⟨q, rfl⟩ : ∃ q : Nat, a = (q : Int) := ⟨a.toNat, by omega⟩
  have hX : Cal 1 44 [.inr (.inr 9), .inl q, .inr (.inl x)] w (rI fun y u => y = (n : Int) + q ∧ u = fd 117 9 1 x n w q) := by
    generalize hQ : (rI fun y u => y = (n : Int) + q ∧ u = fd 117 9 1 x n w q) = Q
    have key := Ev.count (sc := none) (C := Cal 0) (cdk := cd 44) (Q := Q) (N := q) (S := fun i => (3, [some (.inr (.inr 9)), some (.inl (q : Int)), some (.inr (.inl x)), none, some (.inl (i : Int))], [], fd 117 9 1 x n w i)) (fun i hi h => ?_) ?_ 0 (Nat.zero_le _)
    · exact en_44 key
    · refine bk_44_3 ?_
      have e3 : fd 117 9 1 x n w i 9 1 = (n : Int) + i := fd_m e1
      simp only [e3, wst_ap, Nat.reduceEqDiff, false_and, and_false, if_false, and_self, if_true, true_and]
      rw [if_pos (by omega), if_pos (by omega), wr_s (by omega), wr_id (x := (n : Int) + i + 1) (by omega) (by omega), show ((n : Int) + i).toNat = n + i by omega]
      refine ⟨by omega, ?_⟩
      exact h
    · refine bk_44_3 ?_
      rw [if_neg (by omega)]
      have e3 : fd 117 9 1 x n w q 9 1 = (n : Int) + q := fd_m e1
      rw [← hQ]
      exact ⟨e3, rfl⟩
  refine CalI.to hX (by decide) ?_
  · rintro _ u ⟨rfl, hu⟩
    have uc : pc u = fd 117 9 1 x n κ q := by rw [hu, fdC_pc, hc]
    have um : pm u = τ := by rw [hu, fdC_pm, hm]
    clear hu
    have e2 := (r12_30 um).trans hn
    show Cal 12 177 [.inr (.inr 12), .inl (q : Int), .inr (.inl x)] u (rI fun y v => (n : Int) + q = y ∧ OKW T v)
    generalize hQ : (rI fun y v => (n : Int) + q = y ∧ OKW T v) = Q
    have key := Ev.count (sc := none) (C := Cal 11) (cdk := cd 177) (Q := Q) (N := q) (S := fun i => (39, [some (.inr (.inr 12)), some (.inl (q : Int)), some (.inr (.inl x)), none, some (.inl (i : Int))], [], fd 168 12 30 x n u i)) (fun i hi h => ?_) ?_ 0 (Nat.zero_le _)
    · refine en_177 ?_
      simp only [e2]
      rw [wr_id (x := (n : Int) + q) (by omega) (by omega)]
      rw [if_neg (by omega), if_neg (by omega), if_neg (by omega)]
      exact key
    · refine bk_177_39 ?_
      have e3 : fd 168 12 30 x n u i 12 30 = (n : Int) + i := fd_m e2
      simp only [e3, wst_ap, Nat.reduceEqDiff, false_and, and_false, if_false, and_self, if_true, true_and]
      rw [if_pos (by omega), wr_s (by omega), wr_id (x := (n : Int) + i + 1) (by omega) (by omega), show ((n : Int) + i).toNat = n + i by omega]
      refine ⟨by omega, ?_⟩
      exact h
    · refine bk_177_39 ?_
      rw [if_neg (by omega)]
      have e3 : fd 168 12 30 x n u q 12 30 = (n : Int) + q := fd_m e2
      rw [← hQ]
      refine ⟨e3.symm, OKW.of (hO.feed (n := n) (i := q) (x := x) hT (by omega)) ?_ ?_⟩
      · rw [fdM_pc, uc]
      · rw [fdM_pm, um]
end
