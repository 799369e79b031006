/-! number, list, ranked -/
section
variable {w κ τ : Wd} {T : Wd → Wd → Prop}
theorem refuseDays_br (hc : pc w = κ) (hm : pm w = τ) {j k : Int} {d : Nat} {K : Int → Wd → Prop} (h0 : 0 ≤ j ∧ j ≤ 2000 ∧ 0 ≤ k ∧ k ≤ 2000 → K 0 w) (h1 : ∀ g u, (g = -4 ∧ (j < 0 ∨ k < 0) ∨ g = -6 ∧ 0 ≤ j ∧ 0 ≤ k ∧ (2000 < j ∨ 2000 < k)) → pc u = rfC κ g → pm u = τ → K g u) : Cal (d + 2) 23 [.inr (.inr 11), .inl j, .inl k] w (rI K) := by
  refine en_23 ?_
  repeat' split
  all_goals (first | exact h0 (by omega) | (refine CalI.to (refuse_ok hc hm (by omega)) (by omega) ?_; rintro _ u ⟨rfl, uc, um⟩; exact h1 _ u (by omega) uc um) | fail)
theorem both_number (hT : TFr T) (hO : OKW T w) {a b c e f : Int} : Cal 12 22 [.inr (.inr 11), .inl a, .inl b, .inl c, .inl e, .inl f] w (rI fun x u => Cal 12 163 [.inr (.inr 12), .inl a, .inl b, .inl c, .inl e, .inl f] u (rI fun y v => x = y ∧ OKW T v)) := by
  obtain ⟨κ, hc⟩ : ∃ κ, pc w = κ := ⟨_, rfl⟩
  obtain ⟨τ, hm⟩ : ∃ τ, pm w = τ := ⟨_, rfl⟩
  unfold OKW at hO
  rw [hc, hm] at hO
  obtain ⟨hE, hR, ht⟩ := id hO
  have hp := hR.M_places
  refine en_22 ?_
  repeat' (first | (rw [if_neg (show ¬ (1 : Int) = 0 by decide)]) | (rw [if_pos (show (0 : Int) = 0 from rfl)]) | (rw [if_pos trivial]) | (refine And.intro (by first | omega | exact Or.inl trivial | exact Or.inr trivial | exact ⟨trivial, trivial⟩ | fail) ?_) | (refine CalB isWithin_ok (by decide) (fun _ => ?_) (fun _ => ?_)) | (refine CalB isPatronOrNone_ok (by decide) (fun _ => ?_) (fun _ => ?_)) | (refine CalB (placesHas_ok hc hE) (by decide) (fun _ => ?_) (fun _ => ?_)) | (refine CalB (peopleHas_ok hc hE) (by decide) (fun _ => ?_) (fun _ => ?_)) | (refine CalB (textsHas_ok hc hE) (by decide) (fun _ => ?_) (fun _ => ?_)) | (refine CalB (petHas_ok hc hE) (by decide) (fun _ => ?_) (fun _ => ?_)) | (refine CalB (billHas_ok hc hE) (by decide) (fun _ => ?_) (fun _ => ?_)) | (refine CalB rIsKnot_ok (by decide) (fun _ => ?_) (fun _ => ?_)) | (refine CalB rIsNight_ok (by decide) (fun _ => ?_) (fun _ => ?_)) | (refine refuseDays_br hc hm (fun _ => ?_) (fun g u hg uc um => ?_)) | (refine bk_40_53 ?_) | (refine bk_40_80 ?_) | split | fail);
  all_goals try (refine CalI.to (refuse_ok hc hm (by omega)) (by decide) ?_; rintro _ u ⟨rfl, uc, um⟩; refine en_163 ?_; repeat' (first | (rw [if_pos (by omega)]) | (rw [if_neg (by omega)]) | (refine And.intro (by first | omega | exact Or.inl trivial | exact Or.inr trivial | exact ⟨trivial, trivial⟩ | fail) ?_) | (refine CalT in_ok (by decide) (by omega) ?_) | (refine CalF in_ok (by decide) (by omega) ?_) | (refine CalT (isPlace_ok um hR) (by decide) (by omega) ?_) | (refine CalF (isPlace_ok um hR) (by decide) (by omega) ?_) | (refine CalT (isPerson_ok um hR) (by decide) (by omega) ?_) | (refine CalF (isPerson_ok um hR) (by decide) (by omega) ?_) | (refine CalT (isText_ok um hR) (by decide) (by omega) ?_) | (refine CalF (isText_ok um hR) (by decide) (by omega) ?_) | (refine CalT (isPetitionAt_ok um hR) (by decide) (by omega) ?_) | (refine CalF (isPetitionAt_ok um hR) (by decide) (by omega) ?_) | (refine CalT (isLine_ok um hR) (by decide) (by omega) ?_) | (refine CalF (isLine_ok um hR) (by decide) (by omega) ?_) | (refine CalT mIsKnot_ok (by decide) (by omega) ?_) | (refine CalF mIsKnot_ok (by decide) (by omega) ?_) | (refine CalT mIsNight_ok (by decide) (by omega) ?_) | (refine CalF mIsNight_ok (by decide) (by omega) ?_) | (refine bk_175_75 ?_) | (refine CalE.to bounds_ok (by decide) ?_) | (refine CalE.to wrongDays_ok (by decide) ?_) | (exact CalK (fin_rf hT hO uc um (by omega) (by omega)) (by decide)) | (exact CalK (fin_rfF hT hO uc um (by omega) (by omega)) (by decide)) | fail);;)
  all_goals try (exfalso; omega)
  all_goals try (obtain ⟨rfl, hg⟩ | ⟨rfl, hg⟩ := hg);
  all_goals try (refine en_163 ?_; repeat' (first | (rw [if_pos (by omega)]) | (rw [if_neg (by omega)]) | (refine And.intro (by first | omega | exact Or.inl trivial | exact Or.inr trivial | exact ⟨trivial, trivial⟩ | fail) ?_) | (refine CalT in_ok (by decide) (by omega) ?_) | (refine CalF in_ok (by decide) (by omega) ?_) | (refine CalT (isPlace_ok um hR) (by decide) (by omega) ?_) | (refine CalF (isPlace_ok um hR) (by decide) (by omega) ?_) | (refine CalT (isPerson_ok um hR) (by decide) (by omega) ?_) | (refine CalF (isPerson_ok um hR) (by decide) (by omega) ?_) | (refine CalT (isText_ok um hR) (by decide) (by omega) ?_) | (refine CalF (isText_ok um hR) (by decide) (by omega) ?_) | (refine CalT (isPetitionAt_ok um hR) (by decide) (by omega) ?_) | (refine CalF (isPetitionAt_ok um hR) (by decide) (by omega) ?_) | (refine CalT (isLine_ok um hR) (by decide) (by omega) ?_) | (refine CalF (isLine_ok um hR) (by decide) (by omega) ?_) | (refine CalT mIsKnot_ok (by decide) (by omega) ?_) | (refine CalF mIsKnot_ok (by decide) (by omega) ?_) | (refine CalT mIsNight_ok (by decide) (by omega) ?_) | (refine CalF mIsNight_ok (by decide) (by omega) ?_) | (refine bk_175_75 ?_) | (refine CalE.to bounds_ok (by decide) ?_) | (refine CalE.to wrongDays_ok (by decide) ?_) | (exact CalK (fin_rf hT hO uc um (by omega) (by omega)) (by decide)) | (exact CalK (fin_rfF hT hO uc um (by omega) (by omega)) (by decide)) | fail);;)
  all_goals (
    rw [wr_id (x := a * 2) (by omega) (by omega), wr_id (x := a * 2 + b) (by omega) (by omega)]
    have h1 := rolF_b hR a b c e
    have h8 := hR.M_rolls
    refine CalE.to (find_ok hc hm hE hR (p := a) (t := b) (by omega) (by omega)) (by decide) ?_
    have e1 : ∀ f : Wd → Int → Int, f = valF ∨ f = wroF → f τ (if rolF τ a b c e < 0 then -9 else rolF τ a b c e) = f τ (rolF τ a b c e) := by
      intro f hf
      split
      · rename_i hlt
        rcases hf with rfl | rfl <;> simp [valF, wroF, hlt]
      · rfl
    have um := hm
    first
    | refine CalE.to (valueOf_ok hc hE hR (by split <;> omega)) (by decide) ?_
      rw [e1 valF (Or.inl rfl)]
    | refine CalE.to (wrongOf_ok hc hE hR (by split <;> omega)) (by decide) ?_
      rw [e1 wroF (Or.inr rfl)]
    refine en_163 ?_
    repeat' (first | (rw [if_pos (by omega)]) | (rw [if_neg (by omega)]) | (refine And.intro (by first | omega | exact Or.inl trivial | exact Or.inr trivial | exact ⟨trivial, trivial⟩ | fail) ?_) | (refine CalT in_ok (by decide) (by omega) ?_) | (refine CalF in_ok (by decide) (by omega) ?_) | (refine CalT (isPlace_ok um hR) (by decide) (by omega) ?_) | (refine CalF (isPlace_ok um hR) (by decide) (by omega) ?_) | (refine CalT (isPerson_ok um hR) (by decide) (by omega) ?_) | (refine CalF (isPerson_ok um hR) (by decide) (by omega) ?_) | (refine CalT (isText_ok um hR) (by decide) (by omega) ?_) | (refine CalF (isText_ok um hR) (by decide) (by omega) ?_) | (refine CalT (isPetitionAt_ok um hR) (by decide) (by omega) ?_) | (refine CalF (isPetitionAt_ok um hR) (by decide) (by omega) ?_) | (refine CalT (isLine_ok um hR) (by decide) (by omega) ?_) | (refine CalF (isLine_ok um hR) (by decide) (by omega) ?_) | (refine CalT mIsKnot_ok (by decide) (by omega) ?_) | (refine CalF mIsKnot_ok (by decide) (by omega) ?_) | (refine CalT mIsNight_ok (by decide) (by omega) ?_) | (refine CalF mIsNight_ok (by decide) (by omega) ?_) | (refine bk_175_75 ?_) | (refine CalE.to bounds_ok (by decide) ?_) | (refine CalE.to wrongDays_ok (by decide) ?_) | (exact CalK (fin_rf hT hO uc um (by omega) (by omega)) (by decide)) | (exact CalK (fin_rfF hT hO uc um (by omega) (by omega)) (by decide)) | fail);
    refine CalE.to (rollOn_ok hm hR) (by decide) ?_
    simp only [r150 hm, r151 hm]
    first | unfold valF | unfold wroF
    repeat' (first | split | (refine And.intro (by first | omega | exact Or.inl trivial | exact Or.inr trivial | exact ⟨trivial, trivial⟩ | fail) ?_) | fail)
    all_goals (first | exact OKW.of hO hc hm | (refine ⟨rfl, OKW.of hO hc hm⟩)))
theorem mlist_2 (hm : pm w = τ) (hR : RNG τ) {p j k : Int} {d : Nat} (hd : 2 ≤ d) {Q : Option AV → Wd → Prop} (hQ : Q (some (.inl (lrF τ p j k))) w) : Ev none (Cal d) (cd 168) Q (85, [some (.inr (.inr 12)), some (.inl p), some (.inl j), some (.inl k), some (.inl 2), some (.inl 0), some (.inl 0), none], [], w) := by
  have hb := hR.M_places
  have key := Ev.count (sc := none) (C := Cal d) (cdk := cd 168) (Q := Q) (N := (τ 12 1).toNat) (S := fun i => (85, [some (.inr (.inr 12)), some (.inl p), some (.inl j), some (.inl k), some (.inl 2), some (.inl (lrN τ p j k i)), some (.inl (i : Int)), none], [], w)) (fun i hi h => ?_) ?_ 0 (Nat.zero_le _)
  · exact key
  · refine bk_168_85 ?_
    have h3 := lrN_b τ p j k i
    simp only [r12_1 hm]
    rw [if_pos (by omega), if_pos trivial]
    refine CalE.to (scoreOf_ok hm hR (by omega)) hd ?_
    refine CalE.to (scoreOf_ok hm hR (by omega)) hd ?_
    rw [wr_s (by omega), wr_id (x := _ + 1) (by omega) (by omega), wr_id (x := _ + 0) (by omega) (by omega)]
    split
    all_goals refine h.cast ?_
    all_goals (simp [lrN_s, *])
  · refine bk_168_85 ?_
    simp only [r12_1 hm]
    rw [if_neg (by omega)]
    exact hQ
theorem mlist_3 (hm : pm w = τ) (hR : RNG τ) {p j k : Int} {d : Nat} (hd : 2 ≤ d) {Q : Option AV → Wd → Prop} (hQ : Q (some (.inl (grF τ p j k))) w) : Ev none (Cal d) (cd 168) Q (85, [some (.inr (.inr 12)), some (.inl p), some (.inl j), some (.inl k), some (.inl 3), some (.inl 0), some (.inl 0), none], [], w) := by
  have hb := hR.M_places
  have key := Ev.count (sc := none) (C := Cal d) (cdk := cd 168) (Q := Q) (N := (τ 12 1).toNat) (S := fun i => (85, [some (.inr (.inr 12)), some (.inl p), some (.inl j), some (.inl k), some (.inl 3), some (.inl (grN τ p j k i)), some (.inl (i : Int)), none], [], w)) (fun i hi h => ?_) ?_ 0 (Nat.zero_le _)
  · exact key
  · refine bk_168_85 ?_
    have h3 := grN_b τ p j k i
    simp only [r12_1 hm]
    rw [if_pos (by omega)]
    try rw [if_neg (by decide)]
    rw [wr_s (by omega), wr_id (x := _ + 0) (by omega) (by omega)]
    split
    · refine h.cast ?_
      simp [grN_s, *]
    · refine CalE.to (scoreOf_ok hm hR (by omega)) hd ?_
      refine CalE.to (scoreOf_ok hm hR (by omega)) hd ?_
      rw [wr_id (x := _ + 1) (by omega) (by omega)]
      split
      all_goals refine h.cast ?_
      all_goals (simp [grN_s, *])
      all_goals omega
  · refine bk_168_85 ?_
    simp only [r12_1 hm]
    rw [if_neg (by omega)]
    exact hQ
theorem both_list (hT : TFr T) (hO : OKW T w) {a b c e : Int} : Cal 12 28 [.inr (.inr 11), .inl a, .inl b, .inl c, .inl e] w (rI fun x u => Cal 12 168 [.inr (.inr 12), .inl a, .inl b, .inl c, .inl e] u (rI fun y v => x = y ∧ OKW T v)) := by
  obtain ⟨κ, hc⟩ : ∃ κ, pc w = κ := ⟨_, rfl⟩
  obtain ⟨τ, hm⟩ : ∃ τ, pm w = τ := ⟨_, rfl⟩
  unfold OKW at hO
  rw [hc, hm] at hO
  obtain ⟨hE, hR, ht⟩ := id hO
  have hp := hR.M_places
  have e1 := (r5_4 hc).trans hE.Places_size
  refine en_28 ?_
  repeat' (first | (rw [if_neg (show ¬ (1 : Int) = 0 by decide)]) | (rw [if_pos (show (0 : Int) = 0 from rfl)]) | (rw [if_pos trivial]) | (refine And.intro (by first | omega | exact Or.inl trivial | exact Or.inr trivial | exact ⟨trivial, trivial⟩ | fail) ?_) | (refine CalB isWithin_ok (by decide) (fun _ => ?_) (fun _ => ?_)) | (refine CalB isPatronOrNone_ok (by decide) (fun _ => ?_) (fun _ => ?_)) | (refine CalB (placesHas_ok hc hE) (by decide) (fun _ => ?_) (fun _ => ?_)) | (refine CalB (peopleHas_ok hc hE) (by decide) (fun _ => ?_) (fun _ => ?_)) | (refine CalB (textsHas_ok hc hE) (by decide) (fun _ => ?_) (fun _ => ?_)) | (refine CalB (petHas_ok hc hE) (by decide) (fun _ => ?_) (fun _ => ?_)) | (refine CalB (billHas_ok hc hE) (by decide) (fun _ => ?_) (fun _ => ?_)) | (refine CalB rIsKnot_ok (by decide) (fun _ => ?_) (fun _ => ?_)) | (refine CalB rIsNight_ok (by decide) (fun _ => ?_) (fun _ => ?_)) | (refine refuseDays_br hc hm (fun _ => ?_) (fun g u hg uc um => ?_)) | (refine bk_40_53 ?_) | (refine bk_40_80 ?_) | split | fail);
  all_goals try (refine CalI.to (refuse_ok hc hm (by omega)) (by decide) ?_; rintro _ u ⟨rfl, uc, um⟩; refine en_168 ?_; repeat' (first | (rw [if_pos (by omega)]) | (rw [if_neg (by omega)]) | (refine And.intro (by first | omega | exact Or.inl trivial | exact Or.inr trivial | exact ⟨trivial, trivial⟩ | fail) ?_) | (refine CalT in_ok (by decide) (by omega) ?_) | (refine CalF in_ok (by decide) (by omega) ?_) | (refine CalT (isPlace_ok um hR) (by decide) (by omega) ?_) | (refine CalF (isPlace_ok um hR) (by decide) (by omega) ?_) | (refine CalT (isPerson_ok um hR) (by decide) (by omega) ?_) | (refine CalF (isPerson_ok um hR) (by decide) (by omega) ?_) | (refine CalT (isText_ok um hR) (by decide) (by omega) ?_) | (refine CalF (isText_ok um hR) (by decide) (by omega) ?_) | (refine CalT (isPetitionAt_ok um hR) (by decide) (by omega) ?_) | (refine CalF (isPetitionAt_ok um hR) (by decide) (by omega) ?_) | (refine CalT (isLine_ok um hR) (by decide) (by omega) ?_) | (refine CalF (isLine_ok um hR) (by decide) (by omega) ?_) | (refine CalT mIsKnot_ok (by decide) (by omega) ?_) | (refine CalF mIsKnot_ok (by decide) (by omega) ?_) | (refine CalT mIsNight_ok (by decide) (by omega) ?_) | (refine CalF mIsNight_ok (by decide) (by omega) ?_) | (refine bk_175_75 ?_) | (refine CalE.to bounds_ok (by decide) ?_) | (refine CalE.to wrongDays_ok (by decide) ?_) | (exact CalK (fin_rf hT hO uc um (by omega) (by omega)) (by decide)) | (exact CalK (fin_rfF hT hO uc um (by omega) (by omega)) (by decide)) | fail);;)
  all_goals try (exfalso; omega)
  all_goals try (obtain ⟨rfl, hg⟩ | ⟨rfl, hg⟩ := hg);
  all_goals try (refine en_168 ?_; repeat' (first | (rw [if_pos (by omega)]) | (rw [if_neg (by omega)]) | (refine And.intro (by first | omega | exact Or.inl trivial | exact Or.inr trivial | exact ⟨trivial, trivial⟩ | fail) ?_) | (refine CalT in_ok (by decide) (by omega) ?_) | (refine CalF in_ok (by decide) (by omega) ?_) | (refine CalT (isPlace_ok um hR) (by decide) (by omega) ?_) | (refine CalF (isPlace_ok um hR) (by decide) (by omega) ?_) | (refine CalT (isPerson_ok um hR) (by decide) (by omega) ?_) | (refine CalF (isPerson_ok um hR) (by decide) (by omega) ?_) | (refine CalT (isText_ok um hR) (by decide) (by omega) ?_) | (refine CalF (isText_ok um hR) (by decide) (by omega) ?_) | (refine CalT (isPetitionAt_ok um hR) (by decide) (by omega) ?_) | (refine CalF (isPetitionAt_ok um hR) (by decide) (by omega) ?_) | (refine CalT (isLine_ok um hR) (by decide) (by omega) ?_) | (refine CalF (isLine_ok um hR) (by decide) (by omega) ?_) | (refine CalT mIsKnot_ok (by decide) (by omega) ?_) | (refine CalF mIsKnot_ok (by decide) (by omega) ?_) | (refine CalT mIsNight_ok (by decide) (by omega) ?_) | (refine CalF mIsNight_ok (by decide) (by omega) ?_) | (refine bk_175_75 ?_) | (refine CalE.to bounds_ok (by decide) ?_) | (refine CalE.to wrongDays_ok (by decide) ?_) | (exact CalK (fin_rf hT hO uc um (by omega) (by omega)) (by decide)) | (exact CalK (fin_rfF hT hO uc um (by omega) (by omega)) (by decide)) | fail);;)
  all_goals (
    refine CalV.to (drawList_ok hc hm hE hR e1) (by decide) ?_
    rintro u ⟨hL, uc, um⟩
    have hq := hL.2 a.toNat (by omega)
    rw [show ((a.toNat : Nat) : Int) = a by omega] at hq
    first
    | refine CalE.to (rankOf_ok hR (by omega) hL) (by decide) ?_
      refine en_168 ?_
      repeat' (first | (rw [if_pos (by omega)]) | (rw [if_neg (by omega)]) | (refine And.intro (by first | omega | exact Or.inl trivial | exact Or.inr trivial | exact ⟨trivial, trivial⟩ | fail) ?_) | (refine CalT in_ok (by decide) (by omega) ?_) | (refine CalF in_ok (by decide) (by omega) ?_) | (refine CalT (isPlace_ok um hR) (by decide) (by omega) ?_) | (refine CalF (isPlace_ok um hR) (by decide) (by omega) ?_) | (refine CalT (isPerson_ok um hR) (by decide) (by omega) ?_) | (refine CalF (isPerson_ok um hR) (by decide) (by omega) ?_) | (refine CalT (isText_ok um hR) (by decide) (by omega) ?_) | (refine CalF (isText_ok um hR) (by decide) (by omega) ?_) | (refine CalT (isPetitionAt_ok um hR) (by decide) (by omega) ?_) | (refine CalF (isPetitionAt_ok um hR) (by decide) (by omega) ?_) | (refine CalT (isLine_ok um hR) (by decide) (by omega) ?_) | (refine CalF (isLine_ok um hR) (by decide) (by omega) ?_) | (refine CalT mIsKnot_ok (by decide) (by omega) ?_) | (refine CalF mIsKnot_ok (by decide) (by omega) ?_) | (refine CalT mIsNight_ok (by decide) (by omega) ?_) | (refine CalF mIsNight_ok (by decide) (by omega) ?_) | (refine bk_175_75 ?_) | (refine CalE.to bounds_ok (by decide) ?_) | (refine CalE.to wrongDays_ok (by decide) ?_) | (exact CalK (fin_rf hT hO uc um (by omega) (by omega)) (by decide)) | (exact CalK (fin_rfF hT hO uc um (by omega) (by omega)) (by decide)) | fail);
      refine CalE.to (mRankOf_ok um hR) (by decide) ?_
      exact ⟨rfl, OKW.of hO uc um⟩
    | refine CalE.to (leastRankOf_ok hR (by omega) hL) (by decide) ?_
      refine en_168 ?_
      repeat' (first | (rw [if_pos (by omega)]) | (rw [if_neg (by omega)]) | (refine And.intro (by first | omega | exact Or.inl trivial | exact Or.inr trivial | exact ⟨trivial, trivial⟩ | fail) ?_) | (refine CalT in_ok (by decide) (by omega) ?_) | (refine CalF in_ok (by decide) (by omega) ?_) | (refine CalT (isPlace_ok um hR) (by decide) (by omega) ?_) | (refine CalF (isPlace_ok um hR) (by decide) (by omega) ?_) | (refine CalT (isPerson_ok um hR) (by decide) (by omega) ?_) | (refine CalF (isPerson_ok um hR) (by decide) (by omega) ?_) | (refine CalT (isText_ok um hR) (by decide) (by omega) ?_) | (refine CalF (isText_ok um hR) (by decide) (by omega) ?_) | (refine CalT (isPetitionAt_ok um hR) (by decide) (by omega) ?_) | (refine CalF (isPetitionAt_ok um hR) (by decide) (by omega) ?_) | (refine CalT (isLine_ok um hR) (by decide) (by omega) ?_) | (refine CalF (isLine_ok um hR) (by decide) (by omega) ?_) | (refine CalT mIsKnot_ok (by decide) (by omega) ?_) | (refine CalF mIsKnot_ok (by decide) (by omega) ?_) | (refine CalT mIsNight_ok (by decide) (by omega) ?_) | (refine CalF mIsNight_ok (by decide) (by omega) ?_) | (refine bk_175_75 ?_) | (refine CalE.to bounds_ok (by decide) ?_) | (refine CalE.to wrongDays_ok (by decide) ?_) | (exact CalK (fin_rf hT hO uc um (by omega) (by omega)) (by decide)) | (exact CalK (fin_rfF hT hO uc um (by omega) (by omega)) (by decide)) | fail);
      obtain rfl : e = 2 := by omega
      exact mlist_2 um hR (by decide) ⟨rfl, OKW.of hO uc um⟩
    | refine CalE.to (greatestRankOf_ok hR (by omega) hL) (by decide) ?_
      refine en_168 ?_
      repeat' (first | (rw [if_pos (by omega)]) | (rw [if_neg (by omega)]) | (refine And.intro (by first | omega | exact Or.inl trivial | exact Or.inr trivial | exact ⟨trivial, trivial⟩ | fail) ?_) | (refine CalT in_ok (by decide) (by omega) ?_) | (refine CalF in_ok (by decide) (by omega) ?_) | (refine CalT (isPlace_ok um hR) (by decide) (by omega) ?_) | (refine CalF (isPlace_ok um hR) (by decide) (by omega) ?_) | (refine CalT (isPerson_ok um hR) (by decide) (by omega) ?_) | (refine CalF (isPerson_ok um hR) (by decide) (by omega) ?_) | (refine CalT (isText_ok um hR) (by decide) (by omega) ?_) | (refine CalF (isText_ok um hR) (by decide) (by omega) ?_) | (refine CalT (isPetitionAt_ok um hR) (by decide) (by omega) ?_) | (refine CalF (isPetitionAt_ok um hR) (by decide) (by omega) ?_) | (refine CalT (isLine_ok um hR) (by decide) (by omega) ?_) | (refine CalF (isLine_ok um hR) (by decide) (by omega) ?_) | (refine CalT mIsKnot_ok (by decide) (by omega) ?_) | (refine CalF mIsKnot_ok (by decide) (by omega) ?_) | (refine CalT mIsNight_ok (by decide) (by omega) ?_) | (refine CalF mIsNight_ok (by decide) (by omega) ?_) | (refine bk_175_75 ?_) | (refine CalE.to bounds_ok (by decide) ?_) | (refine CalE.to wrongDays_ok (by decide) ?_) | (exact CalK (fin_rf hT hO uc um (by omega) (by omega)) (by decide)) | (exact CalK (fin_rfF hT hO uc um (by omega) (by omega)) (by decide)) | fail);
      obtain rfl : e = 3 := by omega
      exact mlist_3 um hR (by decide) ⟨rfl, OKW.of hO uc um⟩
    | refine ⟨⟨by omega, by omega⟩, ?_⟩
      rw [hq.2.1]
      refine en_168 ?_
      repeat' (first | (rw [if_pos (by omega)]) | (rw [if_neg (by omega)]) | (refine And.intro (by first | omega | exact Or.inl trivial | exact Or.inr trivial | exact ⟨trivial, trivial⟩ | fail) ?_) | (refine CalT in_ok (by decide) (by omega) ?_) | (refine CalF in_ok (by decide) (by omega) ?_) | (refine CalT (isPlace_ok um hR) (by decide) (by omega) ?_) | (refine CalF (isPlace_ok um hR) (by decide) (by omega) ?_) | (refine CalT (isPerson_ok um hR) (by decide) (by omega) ?_) | (refine CalF (isPerson_ok um hR) (by decide) (by omega) ?_) | (refine CalT (isText_ok um hR) (by decide) (by omega) ?_) | (refine CalF (isText_ok um hR) (by decide) (by omega) ?_) | (refine CalT (isPetitionAt_ok um hR) (by decide) (by omega) ?_) | (refine CalF (isPetitionAt_ok um hR) (by decide) (by omega) ?_) | (refine CalT (isLine_ok um hR) (by decide) (by omega) ?_) | (refine CalF (isLine_ok um hR) (by decide) (by omega) ?_) | (refine CalT mIsKnot_ok (by decide) (by omega) ?_) | (refine CalF mIsKnot_ok (by decide) (by omega) ?_) | (refine CalT mIsNight_ok (by decide) (by omega) ?_) | (refine CalF mIsNight_ok (by decide) (by omega) ?_) | (refine bk_175_75 ?_) | (refine CalE.to bounds_ok (by decide) ?_) | (refine CalE.to wrongDays_ok (by decide) ?_) | (exact CalK (fin_rf hT hO uc um (by omega) (by omega)) (by decide)) | (exact CalK (fin_rfF hT hO uc um (by omega) (by omega)) (by decide)) | fail);
      refine CalE.to (scoreOf_ok um hR (by omega)) (by decide) ?_
      exact ⟨rfl, OKW.of hO uc um⟩)
end
