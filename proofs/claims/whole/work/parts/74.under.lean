/-! under; check -/
theorem has_p {w : Wd} {a n : Int} (h1 : w 5 4 = n) : Cal 1 19 [.inr (.inr 5), .inl a] w (rI fun y u => y = b2 (0 ≤ a ∧ a < n) ∧ u = w) := by
  refine en_19 ?_
  simp only [h1]
  try unfold b2
  repeat' (first | split | (refine And.intro (by first | omega | exact Or.inl trivial | exact Or.inr trivial | exact ⟨trivial, trivial⟩ | fail) ?_) | fail)
  all_goals (first | rfl | exact ⟨rfl, rfl⟩ | exact ⟨by omega, rfl⟩ | fail)
/-! the number of ints in the row is nothing to the bill -/
theorem rolN_r (τ : Wd) (p t j k : Int) (n : Nat) : rolN (wst τ 12 87 0) p t j k n = rolN τ p t j k n := by
  induction n with
  | zero => rfl
  | succ n ih => rw [rolN_s, rolN_s, ih]; rfl
theorem rolF_r (τ : Wd) (p t j k : Int) : rolF (wst τ 12 87 0) p t j k = rolF τ p t j k := rolN_r τ p t j k _
theorem trm_r (τ : Wd) (p j k b t : Int) : trm (wst τ 12 87 0) p j k b t = trm τ p j k b t := by
  unfold trm
  rw [rolF_r]
  rfl
theorem scN_r (τ : Wd) (p j k b : Int) (n : Nat) : scN (wst τ 12 87 0) p j k b n = scN τ p j k b n := by
  induction n with
  | zero => rfl
  | succ n ih => rw [scN_s, scN_s, ih, trm_r]; rfl
theorem scF_r (τ : Wd) (p j k b : Int) : scF (wst τ 12 87 0) p j k b = scF τ p j k b := scN_r τ p j k b 2
theorem rkN_r (τ : Wd) (p j k : Int) (n : Nat) : rkN (wst τ 12 87 0) p j k n = rkN τ p j k n := by
  induction n with
  | zero => rfl
  | succ n ih => rw [rkN_s, rkN_s, ih, scF_r, scF_r]
theorem rkF_r (τ : Wd) (p j k : Int) : rkF (wst τ 12 87 0) p j k = rkF τ p j k := rkN_r τ p j k _
theorem valF_r (τ : Wd) (r : Int) : valF (wst τ 12 87 0) r = valF τ r := rfl
theorem unS_r (τ : Wd) (z : Nat) (d : Int) (p n : Nat) : unS (wst τ 12 87 0) z d p n = unS τ z d p n := by
  induction n with
  | zero => rfl
  | succ n ih =>
    rw [unS_s, unS_s, ih, show (wst τ 12 87 0) 12 0 = τ 12 0 from rfl, rkF_r, rolF_r, valF_r]
    rfl
theorem seF_r (τ : Wd) (z : Nat) (d : Int) (p : Nat) : seF (wst τ 12 87 0) z d p = seF τ z d p := unS_r τ z d p _
theorem stN_r (τ : Wd) (x : Int) (n : Nat) : stN (wst τ 12 87 0) x n = stN τ x n := by
  induction n with
  | zero => rfl
  | succ n ih => rw [stN_s, stN_s, ih]; rfl
theorem stF_r (τ : Wd) (x : Int) : stF (wst τ 12 87 0) x = stF τ x := stN_r τ x _
section
variable {w κ τ : Wd} {T : Wd → Wd → Prop}
theorem both_under (hT : TFr T) (hO : OKW T w) {a b c e : Int} (ha : in32 a) : Cal 12 116 [.inr (.inr 11), .inl a, .inl b, .inl c, .inl e] w (rI fun x u => Cal 12 216 [.inr (.inr 12), .inl a, .inl b, .inl c, .inl e] u (rI fun y v => x = y ∧ OKW T v)) := by
  obtain ⟨κ, hc⟩ : ∃ κ, pc w = κ := ⟨_, rfl⟩
  obtain ⟨τ, hm⟩ : ∃ τ, pm w = τ := ⟨_, rfl⟩
  unfold OKW at hO
  rw [hc, hm] at hO
  obtain ⟨hE, hR, ht⟩ := id hO
  unfold in32 at ha
  have hb := hR.M_places
  refine en_116 ?_
  refine CalB (hasOthers_g hc hE hR (x := a) (by omega)) (by decide) (fun q => ?_) (fun q => ?_)
  · rw [if_neg (by decide)]
    refine CalI.to (refuse_ok hc hm (by omega)) (by decide) ?_; rintro _ u ⟨rfl, uc, um⟩;
    refine en_216 ?_
    refine CalF (isSet_ok um hR) (by decide) q ?_
    rw [if_pos rfl]
    exact CalK (fin_rf hT hO uc um (by omega) rfl) (by decide)
  · rw [if_pos rfl]
    have q' := Decidable.not_not.1 q
    refine CalB (placesHas_ok hc hE) (by decide) (fun r => ?_) (fun r => ?_)
    · rw [if_neg (by decide)]
      have mid : ∀ {u : Wd} {K : Int → Wd → Prop}, pm u = τ → Cal 11 160 [.inl e, .inl 0, .inl 1] u (rI fun v5 w5 => (if v5 = 0 then Cal 11 158 [.inr (.inr 12), .inl (-2)] w5 (rI fun v6 w6 => K v6 w6) else Cal 11 167 [.inl c, .inl 0, .inl 2000] w5 (rI fun v7 w7 => (if v7 < 0 then Cal 11 167 [.inl c, .inl 0, .inl 2000] w7 (rI fun v8 w8 => Cal 11 158 [.inr (.inr 12), .inl v8] w8 (rI fun v9 w9 => K v9 w9)) else Cal 11 217 [.inr (.inr 12), .inl a, .inl c] w7 (rV fun w10 => (if e = 0 then ((0 ≤ b ∧ b < 16) ∧ K (w10 187 b.toNat) w10) else ((0 ≤ b ∧ b < 16) ∧ (if (w10 188 b.toNat) < 0 then K (-9) w10 else ((0 ≤ b ∧ b < 16) ∧ K (w10 188 b.toNat) w10)))))))) ) → Cal 12 216 [.inr (.inr 12), .inl a, .inl b, .inl c, .inl e] u (rI K) := by
        intro u K um h
        refine en_216 ?_
        refine CalT (isSet_ok um hR) (by decide) q' ?_
        rw [if_neg (by decide)]
        refine CalT (isPlace_ok um hR) (by decide) r ?_
        rw [if_neg (by decide)]
        exact h
      refine CalB isWithin_ok (by decide) (fun s => ?_) (fun s => ?_)
      · rw [if_neg (by decide)]
        refine refuseDays_br hc hm (fun t => ?_) (fun g u hg uc um => ?_)
        · rw [if_pos rfl]
          obtain ⟨z, h1, h2⟩ := stF_n hR a
          obtain ⟨p, rfl⟩ : ∃ p : Nat, b = (p : Int) := ⟨b.toNat, by omega⟩
          refine CalV.to (applyBill_ok hc hm hE hR h1) (by decide) ?_
          rintro u ⟨uc, um, _, hu⟩
          have hup := hu p r.2
          have fin : ∀ x : Int, x = (if e = 0 then seF τ z c p else ct (teF τ z c p)) → Cal 12 216 [.inr (.inr 12), .inl a, .inl (p : Int), .inl c, .inl e] u (rI fun y v => x = y ∧ OKW T v) := by
            intro x hx
            refine mid um ?_
            refine CalT in_ok (by decide) s ?_
            rw [if_neg (by decide)]
            repeat' (first | (rw [if_pos (by omega)]) | (rw [if_neg (by omega)]) | (refine And.intro (by first | omega | exact Or.inl trivial | exact Or.inr trivial | exact ⟨trivial, trivial⟩ | fail) ?_) | (refine CalT in_ok (by decide) (by omega) ?_) | (refine CalF in_ok (by decide) (by omega) ?_) | (refine CalT (isPlace_ok um hR) (by decide) (by omega) ?_) | (refine CalF (isPlace_ok um hR) (by decide) (by omega) ?_) | (refine CalT (isPerson_ok um hR) (by decide) (by omega) ?_) | (refine CalF (isPerson_ok um hR) (by decide) (by omega) ?_) | (refine CalT (isText_ok um hR) (by decide) (by omega) ?_) | (refine CalF (isText_ok um hR) (by decide) (by omega) ?_) | (refine CalT (isPetitionAt_ok um hR) (by decide) (by omega) ?_) | (refine CalF (isPetitionAt_ok um hR) (by decide) (by omega) ?_) | (refine CalT (isLine_ok um hR) (by decide) (by omega) ?_) | (refine CalF (isLine_ok um hR) (by decide) (by omega) ?_) | (refine CalT mIsKnot_ok (by decide) (by omega) ?_) | (refine CalF mIsKnot_ok (by decide) (by omega) ?_) | (refine CalT mIsNight_ok (by decide) (by omega) ?_) | (refine CalF mIsNight_ok (by decide) (by omega) ?_) | (refine bk_175_75 ?_) | (refine CalE.to bounds_ok (by decide) ?_) | (refine CalE.to wrongDays_ok (by decide) ?_) | (exact CalK (fin_rf hT hO uc um (by omega) (by omega)) (by decide)) | (exact CalK (fin_rfF hT hO uc um (by omega) (by omega)) (by decide)) | fail);
            refine CalV.to (findUnder_ok um hR h1) (by decide) ?_
            rintro v ⟨vc, vm, _, _, hv⟩
            have hvp := hv p r.2
            have hk := OKW.of hO (vc.trans uc) vm
            rw [tn, hvp.1, hvp.2]
            unfold ct at hx
            refine ite_i (fun g => ?_) (fun g => ?_)
            · rw [if_pos g] at hx
              exact ⟨by omega, hx, hk⟩
            · rw [if_neg g] at hx
              refine ⟨by omega, ite_i (fun y => ?_) (fun y => ?_)⟩
              · rw [if_pos y] at hx
                exact ⟨hx, hk⟩
              · rw [if_neg y] at hx
                exact ⟨by omega, hx, hk⟩
          rw [tn]
          refine ite_i (fun g => ?_) (fun g => ?_)
          · exact ⟨by omega, fin _ (by rw [if_pos g]; exact hup.1)⟩
          · exact ⟨by omega, fin _ (by rw [if_neg g]; exact hup.2)⟩
        · rw [if_neg (by omega)]
          (obtain ⟨rfl, hg⟩ | ⟨rfl, hg⟩ := hg);
          all_goals (
            refine mid um ?_
            refine CalT in_ok (by decide) s ?_
            rw [if_neg (by decide)]
            repeat' (first | (rw [if_pos (by omega)]) | (rw [if_neg (by omega)]) | (refine And.intro (by first | omega | exact Or.inl trivial | exact Or.inr trivial | exact ⟨trivial, trivial⟩ | fail) ?_) | (refine CalT in_ok (by decide) (by omega) ?_) | (refine CalF in_ok (by decide) (by omega) ?_) | (refine CalT (isPlace_ok um hR) (by decide) (by omega) ?_) | (refine CalF (isPlace_ok um hR) (by decide) (by omega) ?_) | (refine CalT (isPerson_ok um hR) (by decide) (by omega) ?_) | (refine CalF (isPerson_ok um hR) (by decide) (by omega) ?_) | (refine CalT (isText_ok um hR) (by decide) (by omega) ?_) | (refine CalF (isText_ok um hR) (by decide) (by omega) ?_) | (refine CalT (isPetitionAt_ok um hR) (by decide) (by omega) ?_) | (refine CalF (isPetitionAt_ok um hR) (by decide) (by omega) ?_) | (refine CalT (isLine_ok um hR) (by decide) (by omega) ?_) | (refine CalF (isLine_ok um hR) (by decide) (by omega) ?_) | (refine CalT mIsKnot_ok (by decide) (by omega) ?_) | (refine CalF mIsKnot_ok (by decide) (by omega) ?_) | (refine CalT mIsNight_ok (by decide) (by omega) ?_) | (refine CalF mIsNight_ok (by decide) (by omega) ?_) | (refine bk_175_75 ?_) | (refine CalE.to bounds_ok (by decide) ?_) | (refine CalE.to wrongDays_ok (by decide) ?_) | (exact CalK (fin_rf hT hO uc um (by omega) (by omega)) (by decide)) | (exact CalK (fin_rfF hT hO uc um (by omega) (by omega)) (by decide)) | fail);;)
      · rw [if_pos rfl]
        refine CalI.to (refuse_ok hc hm (by omega)) (by decide) ?_; rintro _ u ⟨rfl, uc, um⟩;
        refine mid um ?_
        refine CalF in_ok (by decide) s ?_
        rw [if_pos rfl]
        exact CalK (fin_rf hT hO uc um (by omega) rfl) (by decide)
    · rw [if_pos rfl]
      refine CalI.to (refuse_ok hc hm (by omega)) (by decide) ?_; rintro _ u ⟨rfl, uc, um⟩;
      refine en_216 ?_
      refine CalT (isSet_ok um hR) (by decide) q' ?_
      rw [if_neg (by decide)]
      refine CalF (isPlace_ok um hR) (by decide) r ?_
      rw [if_pos rfl]
      exact CalK (fin_rf hT hO uc um (by omega) rfl) (by decide)
/-- the row is wrong at i -/
def rwB (τ : Wd) (z : Nat) (d : Int) (i : Nat) : Prop := ¬ ((i : Int) < τ 12 1 ∧ τ 205 i = seF τ z d i)
theorem rcheck_l {n z : Nat} {d' : Int} (hn : n ≤ 20) (hb : τ 12 1 ≤ 16) (h1 : w 5 4 = τ 12 1) (h2 : ∀ j, w 143 j = τ 205 j) (h3 : ∀ q : Nat, (q : Int) < τ 12 1 → w 17 q = seF τ z d' q) {d : Nat} (hd : 1 ≤ d) {Q : Option AV → Wd → Prop} (hQ : ∀ y, FST (rwB τ z d') n y → Q (some (.inl y)) w) : Ev none (Cal d) (cd 153) Q (50, [some (.inr (.inr 11)), none, none, none, some (.inl (n : Int)), some (.inl 0)], [], w) := by
  have key := Ev.inv (sc := none) (C := Cal d) (cdk := cd 153) (Q := Q) (N := n) (I := fun i t => t = (50, [some (.inr (.inr 11)), none, none, none, some (.inl (n : Int)), some (.inl (i : Int))], [], w) ∧ ∀ j, j < i → ¬ rwB τ z d' j) (fun i hi t ht h => ?_) (fun t ht => ?_) 0 (Nat.zero_le _)
  · exact key _ ⟨rfl, fun j hj => absurd hj (Nat.not_lt_zero j)⟩
  · obtain ⟨rfl, hn2⟩ := ht
    refine bk_153_50 ?_
    rw [if_pos (by omega), wr_s (show i < 2000000 by omega)]
    refine CalB (has_p h1) hd (fun q => ?_) (fun q => ?_)
    · rw [if_neg (by decide)]
      simp only [tn, h2, h3 i q.2]
      refine ⟨by omega, by omega, ite_i (fun r => ?_) (fun r => ?_)⟩
      · refine h _ ⟨rfl, fun j hj => ?_⟩
        rcases Nat.lt_or_ge j i with g | g
        · exact hn2 j g
        · obtain rfl : j = i := by omega
          exact fun y => y ⟨q.2, r⟩
      · exact hQ _ (Or.inr ⟨i, hi, rfl, fun y => r y.2, hn2⟩)
    · rw [if_pos rfl]
      exact hQ _ (Or.inr ⟨i, hi, rfl, fun y => q ⟨by omega, y.1⟩, hn2⟩)
  · obtain ⟨rfl, hn2⟩ := ht
    refine bk_153_50 ?_
    rw [if_neg (by omega)]
    exact hQ _ (Or.inl ⟨rfl, hn2⟩)
theorem mcheck_l {n z : Nat} {d' : Int} (hn : n ≤ 20) (hb : τ 12 1 ≤ 16) (h1 : w 12 1 = τ 12 1) (h2 : ∀ j, w 205 j = τ 205 j) (h3 : ∀ q : Nat, (q : Int) < τ 12 1 → w 187 q = seF τ z d' q) {d : Nat} {Q : Option AV → Wd → Prop} (hQ : ∀ y, FST (rwB τ z d') n y → Q (some (.inl y)) w) : Ev none (Cal d) (cd 245) Q (57, [some (.inr (.inr 12)), none, none, some (.inl (n : Int)), some (.inl 0)], [], w) := by
  have key := Ev.inv (sc := none) (C := Cal d) (cdk := cd 245) (Q := Q) (N := n) (I := fun i t => t = (57, [some (.inr (.inr 12)), none, none, some (.inl (n : Int)), some (.inl (i : Int))], [], w) ∧ ∀ j, j < i → ¬ rwB τ z d' j) (fun i hi t ht h => ?_) (fun t ht => ?_) 0 (Nat.zero_le _)
  · exact key _ ⟨rfl, fun j hj => absurd hj (Nat.not_lt_zero j)⟩
  · obtain ⟨rfl, hn2⟩ := ht
    refine bk_245_57 ?_
    rw [if_pos (by omega), wr_s (show i < 2000000 by omega)]
    simp only [tn, h1, h2]
    refine ite_i (fun q => ?_) (fun q => ?_)
    · rw [h3 i q]
      refine ⟨by omega, by omega, ite_i (fun r => ?_) (fun r => ?_)⟩
      · refine h _ ⟨rfl, fun j hj => ?_⟩
        rcases Nat.lt_or_ge j i with g | g
        · exact hn2 j g
        · obtain rfl : j = i := by omega
          exact fun y => y ⟨q, r⟩
      · exact hQ _ (Or.inr ⟨i, hi, rfl, fun y => r y.2, hn2⟩)
    · exact hQ _ (Or.inr ⟨i, hi, rfl, fun y => q y.1, hn2⟩)
  · obtain ⟨rfl, hn2⟩ := ht
    refine bk_245_57 ?_
    rw [if_neg (by omega)]
    exact hQ _ (Or.inl ⟨rfl, hn2⟩)
theorem OKT.row0 (hT : TFr T) (h : OKT T κ τ) : OKT T (wst κ 11 14 0) (wst τ 12 87 0) := by
  obtain ⟨hE, hR, ht⟩ := h
  refine ⟨⟨hE.R_today, ?_, hE.Places_size, hE.Places_olds, hE.Rolls_size, hE.People_size, hE.People_rights, hE.Tape_size, hE.Texts_size, hE.Petitions_size, hE.Sales_size, hE.Members_size, hE.Bill_size, hE.R_row, hE.Places_seats, hE.Places_patrons, hE.Places_bases, hE.Places_sides, hE.Places_oldPlaces, hE.Places_oldTexts, hE.Places_oldDays, hE.Rolls_asOf, hE.Rolls_toldOn, hE.Rolls_values, hE.Rolls_wrongs, hE.Rolls_weights, hE.People_homes, hE.People_sinces, hE.People_wishes, hE.People_debts, hE.People_away, hE.People_rightPersons, hE.People_rightPlaces, hE.People_rightKinds, hE.People_rightValues, hE.People_rightSinces, hE.Tape_bytes, hE.Sales_sold, hE.Sales_froms, hE.Sales_tos, hE.Members_leans, hE.Bill_kinds, hE.Bill_amounts, hE.Bill_limits, hE.Bill_needs, hE.Knots_bars, hE.Knots_reads, hE.refu, hE.subj, hE.ends, hE.inKn, hE.told0, hE.told1, hE.told2, hE.told3, hE.told4, hE.told5, hE.told6, hE.told7, hE.told8, hE.told9, hE.want0, hE.want1, hE.want2, hE.want3, hE.want4, hE.want5, hE.want6, hE.want7, hE.leas0, hE.leas1, hE.leas2, hE.leas3, hE.leas4, hE.leas5, hE.leas6, hE.leas7, hE.most0, hE.most1, hE.most2, hE.most3, hE.most4, hE.most5, hE.most6, hE.most7, hE.plan0⟩, ⟨hR.M_day, hR.M_places, hR.M_sends, hR.M_patronOf, hR.M_bases, hR.M_sideOf, hR.M_rolls, hR.M_rDay, hR.M_rTold, hR.M_rValue, hR.M_rWrong, hR.M_weights, hR.M_rPlace, hR.M_rWhat, hR.M_people, hR.M_home, hR.M_since, hR.M_wish, hR.M_debt, hR.M_isGone, hR.M_rights, hR.M_gWho, hR.M_gPlace, hR.M_gKind, hR.M_gSize, hR.M_gSince, hR.M_tapeMany, hR.M_tape, hR.M_texts, hR.M_petitions, hR.M_writtenMany, hR.M_olds, hR.M_oPlace, hR.M_oDay, hR.M_oText, hR.M_sales, hR.M_sPlace, hR.M_sFrom, hR.M_toldFact, hR.M_members, hR.M_knot, hR.M_lean, hR.M_lines, hR.M_lKind, hR.M_lMany, hR.M_lX, hR.M_lHangs, hR.M_lText, hR.M_wants, hR.M_bars, hR.M_reads, hR.M_leastThere, hR.M_mostThere, ?_⟩, hT κ _ τ _ ⟨rfl, rfl, fun r hr => ?_, rfl, rfl, rfl, rfl, rfl, rfl⟩ ht⟩
  · simp [wst_ap]
  · simp [wst_ap]
  · (funext j; simp only [wst_ap]; repeat (rw [if_neg (by omega)]));
theorem both_check (hT : TFr T) (hO : OKW T w) {a b : Int} (ha : in32 a) : Cal 12 153 [.inr (.inr 11), .inl a, .inl b] w (rI fun x u => Cal 12 245 [.inr (.inr 12), .inl a, .inl b] u (rI fun y v => x = y ∧ OKW T v)) := by
  obtain ⟨κ, hc⟩ : ∃ κ, pc w = κ := ⟨_, rfl⟩
  obtain ⟨τ, hm⟩ : ∃ τ, pm w = τ := ⟨_, rfl⟩
  unfold OKW at hO
  rw [hc, hm] at hO
  obtain ⟨hE, hR, ht⟩ := id hO
  unfold in32 at ha
  have hb := hR.M_places
  have hrm := hR.M_rowMany
  refine en_153 ?_
  refine CalB (hasOthers_g hc hE hR (x := a) (by omega)) (by decide) (fun q => ?_) (fun q => ?_)
  · rw [if_neg (by decide)]
    refine CalI.to (refuse_ok hc hm (by omega)) (by decide) ?_; rintro _ u ⟨rfl, uc, um⟩;
    refine en_245 ?_
    refine CalF (isSet_ok um hR) (by decide) q ?_
    rw [if_pos rfl]
    exact CalK (fin_rf hT hO uc um (by omega) rfl) (by decide)
  · rw [if_pos rfl]
    have q' := Decidable.not_not.1 q
    refine refuseDays_br hc hm (fun t => ?_) (fun g u hg uc um => ?_)
    · rw [if_pos rfl]
      obtain ⟨z, h1, h2⟩ := stF_n hR a
      refine CalV.to (applyBill_ok hc hm hE hR h1) (by decide) ?_
      rintro u ⟨uc, um, _, hu⟩
      obtain ⟨n, hn⟩ : ∃ n : Nat, τ 12 87 = (n : Int) := ⟨(τ 12 87).toNat, by omega⟩
      have e1 : u 11 14 = (n : Int) := ((r11_14 uc).trans hE.R_rowSize).trans hn
      rw [e1]
      generalize hv : wst u 11 14 0 = v
      have vc : pc v = wst κ 11 14 0 := by rw [← hv, pc_in rfl, uc]
      have vm : pm v = τ := by rw [← hv, pm_out rfl]; exact um
      have v1 : v 5 4 = τ 12 1 := by rw [← hv]; exact (r5_4 uc).trans hE.Places_size
      have v2 : ∀ j, v 143 j = τ 205 j := fun j => by rw [← hv]; exact (r143 uc j).trans (hE.R_row j)
      have v3 : ∀ q : Nat, (q : Int) < τ 12 1 → v 17 q = seF τ z b q := fun j hj => by rw [← hv]; exact (hu j hj).1
      refine rcheck_l (by omega) hb.2 v1 v2 v3 (by decide) (fun x hx => ?_)
      refine en_245 ?_
      refine CalT (isSet_ok vm hR) (by decide) q' ?_
      rw [if_neg (by decide)]
      repeat' (first | (rw [if_pos (by omega)]) | (rw [if_neg (by omega)]) | (refine And.intro (by first | omega | exact Or.inl trivial | exact Or.inr trivial | exact ⟨trivial, trivial⟩ | fail) ?_) | (refine CalT in_ok (by decide) (by omega) ?_) | (refine CalF in_ok (by decide) (by omega) ?_) | (refine CalT (isPlace_ok um hR) (by decide) (by omega) ?_) | (refine CalF (isPlace_ok um hR) (by decide) (by omega) ?_) | (refine CalT (isPerson_ok um hR) (by decide) (by omega) ?_) | (refine CalF (isPerson_ok um hR) (by decide) (by omega) ?_) | (refine CalT (isText_ok um hR) (by decide) (by omega) ?_) | (refine CalF (isText_ok um hR) (by decide) (by omega) ?_) | (refine CalT (isPetitionAt_ok um hR) (by decide) (by omega) ?_) | (refine CalF (isPetitionAt_ok um hR) (by decide) (by omega) ?_) | (refine CalT (isLine_ok um hR) (by decide) (by omega) ?_) | (refine CalF (isLine_ok um hR) (by decide) (by omega) ?_) | (refine CalT mIsKnot_ok (by decide) (by omega) ?_) | (refine CalF mIsKnot_ok (by decide) (by omega) ?_) | (refine CalT mIsNight_ok (by decide) (by omega) ?_) | (refine CalF mIsNight_ok (by decide) (by omega) ?_) | (refine bk_175_75 ?_) | (refine CalE.to bounds_ok (by decide) ?_) | (refine CalE.to wrongDays_ok (by decide) ?_) | (exact CalK (fin_rf hT hO uc um (by omega) (by omega)) (by decide)) | (exact CalK (fin_rfF hT hO uc um (by omega) (by omega)) (by decide)) | fail);
      rw [r12_87 vm, hn]
      generalize hx' : wst v 12 87 0 = x'
      have xc : pc x' = wst κ 11 14 0 := by rw [← hx', pc_out rfl]; exact vc
      have xm : pm x' = wst τ 12 87 0 := by rw [← hx', pm_in rfl, vm]
      have hR2 : RNG (wst τ 12 87 0) := (OKT.row0 hT ⟨hE, hR, ht⟩).2.1
      refine CalV.to (findUnder_ok xm hR2 (x := a) (z := z) ((stF_r τ a).trans h1)) (by decide) ?_
      rintro y ⟨yc, ym, _, _, hy⟩
      have y1 := r12_1 ym
      have y2 := r205 ym
      refine mcheck_l (τ := τ) (by omega) hb.2 y1 (fun j => y2 j) (fun j hj => (hy j hj).1.trans (seF_r τ z b j)) (fun r hr => ?_)
      exact ⟨FST_u hx hr (fun _ _ => Iff.rfl), OKW.of (OKT.row0 hT ⟨hE, hR, ht⟩) (yc.trans xc) ym⟩
    · rw [if_neg (by omega)]
      (obtain ⟨rfl, hg⟩ | ⟨rfl, hg⟩ := hg);
      all_goals (
        refine en_245 ?_
        refine CalT (isSet_ok um hR) (by decide) q' ?_
        rw [if_neg (by decide)]
        repeat' (first | (rw [if_pos (by omega)]) | (rw [if_neg (by omega)]) | (refine And.intro (by first | omega | exact Or.inl trivial | exact Or.inr trivial | exact ⟨trivial, trivial⟩ | fail) ?_) | (refine CalT in_ok (by decide) (by omega) ?_) | (refine CalF in_ok (by decide) (by omega) ?_) | (refine CalT (isPlace_ok um hR) (by decide) (by omega) ?_) | (refine CalF (isPlace_ok um hR) (by decide) (by omega) ?_) | (refine CalT (isPerson_ok um hR) (by decide) (by omega) ?_) | (refine CalF (isPerson_ok um hR) (by decide) (by omega) ?_) | (refine CalT (isText_ok um hR) (by decide) (by omega) ?_) | (refine CalF (isText_ok um hR) (by decide) (by omega) ?_) | (refine CalT (isPetitionAt_ok um hR) (by decide) (by omega) ?_) | (refine CalF (isPetitionAt_ok um hR) (by decide) (by omega) ?_) | (refine CalT (isLine_ok um hR) (by decide) (by omega) ?_) | (refine CalF (isLine_ok um hR) (by decide) (by omega) ?_) | (refine CalT mIsKnot_ok (by decide) (by omega) ?_) | (refine CalF mIsKnot_ok (by decide) (by omega) ?_) | (refine CalT mIsNight_ok (by decide) (by omega) ?_) | (refine CalF mIsNight_ok (by decide) (by omega) ?_) | (refine bk_175_75 ?_) | (refine CalE.to bounds_ok (by decide) ?_) | (refine CalE.to wrongDays_ok (by decide) ?_) | (exact CalK (fin_rf hT hO uc um (by omega) (by omega)) (by decide)) | (exact CalK (fin_rfF hT hO uc um (by omega) (by omega)) (by decide)) | fail);;)
end
