/-! the first of a kind; ranked -/
def fsN (P : Nat → Bool) : Nat → Nat → Int
  | 0, _ => -9
  | n + 1, i => if P i = true then (i : Int) else fsN P n (i + 1)
def fsF (P : Nat → Bool) (N : Nat) : Int := fsN P N 0
theorem fsN_s {P : Nat → Bool} {N i : Nat} (h : i < N) : fsN P (N - i) i = if P i = true then (i : Int) else fsN P (N - (i + 1)) (i + 1) := by
  obtain ⟨m, hm⟩ : ∃ m, N - i = m + 1 := ⟨N - i - 1, by omega⟩
  rw [hm, show N - (i + 1) = m by omega]
  rfl
theorem fsN_e {P : Nat → Bool} {N : Nat} : fsN P (N - N) N = -9 := by rw [Nat.sub_self]; rfl
theorem fsF_c {P P' : Nat → Bool} {N : Nat} (h : ∀ i, i < N → P i = P' i) : fsF P N = fsF P' N := by
  have k : ∀ n i, i + n = N → fsN P n i = fsN P' n i := by
    intro n
    induction n with
    | zero => intro i _; rfl
    | succ n ih =>
      intro i hi
      unfold fsN
      rw [h i (by omega), ih (i + 1) (by omega)]
  exact k N 0 (by omega)
section
variable {w κ τ : Wd} {T : Wd → Wd → Prop}
theorem mranked_l (hm : pm w = τ) (hR : RNG τ) {a j k : Int} {d : Nat} (hd : 3 ≤ d) {Q : Option AV → Wd → Prop} (hQ : Q (some (.inl (fsF (fun p => decide (rkF τ p j k = a)) (τ 12 1).toNat))) w) : Ev none (Cal d) (cd 171) Q (21, [some (.inr (.inr 12)), some (.inl a), some (.inl j), some (.inl k), some (.inl 0)], [], w) := by
  have hb := hR.M_places
  have key := Ev.inv (sc := none) (C := Cal d) (cdk := cd 171) (Q := Q) (N := (τ 12 1).toNat) (I := fun i s => s = (21, [some (.inr (.inr 12)), some (.inl a), some (.inl j), some (.inl k), some (.inl (i : Int))], [], w) ∧ fsF (fun p => decide (rkF τ p j k = a)) (τ 12 1).toNat = fsN (fun p => decide (rkF τ p j k = a)) ((τ 12 1).toNat - i) i) (fun i hi s hs h => ?_) (fun s hs => ?_) 0 (Nat.zero_le _)
  · exact key _ ⟨rfl, rfl⟩
  · obtain ⟨rfl, hf⟩ := hs
    refine bk_171_21 ?_
    simp only [r12_1 hm]
    rw [if_pos (by omega)]
    refine CalE.to (mRankOf_ok hm hR) hd ?_
    rw [fsN_s hi] at hf
    simp only [decide_eq_true_eq] at hf
    split
    · rename_i q
      rw [if_pos q] at hf
      rw [hf] at hQ
      exact hQ
    · rename_i q
      rw [if_neg q] at hf
      rw [wr_s (by omega)]
      exact h _ ⟨rfl, hf⟩
  · obtain ⟨rfl, hf⟩ := hs
    refine bk_171_21 ?_
    simp only [r12_1 hm]
    rw [if_neg (by omega)]
    rw [fsN_e] at hf
    rw [hf] at hQ
    exact hQ
theorem rranked_l (hc : pc w = κ) (hE : κ 5 4 = τ 12 1) (hR : RNG τ) {a j k : Int} (hL : DL τ j k w) {d : Nat} (hd : 1 ≤ d) {Q : Option AV → Wd → Prop} (hQ : Q (some (.inl (fsF (fun p => decide (rkF τ p j k = a)) (τ 12 1).toNat))) w) : Ev none (Cal d) (cd 35) Q (35, [some (.inr (.inr 11)), some (.inl a), none, none, none, some (.inl 0)], [], w) := by
  have hb := hR.M_places
  have e1 := (r5_4 hc).trans hE
  have key := Ev.inv (sc := none) (C := Cal d) (cdk := cd 35) (Q := Q) (N := (τ 12 1).toNat) (I := fun i s => s = (35, [some (.inr (.inr 11)), some (.inl a), none, none, none, some (.inl (i : Int))], [], w) ∧ fsF (fun p => decide (rkF τ p j k = a)) (τ 12 1).toNat = fsN (fun p => decide (rkF τ p j k = a)) ((τ 12 1).toNat - i) i) (fun i hi s hs h => ?_) (fun s hs => ?_) 0 (Nat.zero_le _)
  · exact key _ ⟨rfl, rfl⟩
  · obtain ⟨rfl, hf⟩ := hs
    refine bk_35_35 ?_
    simp only [e1]
    rw [if_pos (by omega)]
    refine CalE.to (rankOf_ok hR (by omega) hL) hd ?_
    rw [fsN_s hi] at hf
    simp only [decide_eq_true_eq] at hf
    split
    · rename_i q
      rw [if_pos q] at hf
      rw [hf] at hQ
      exact hQ
    · rename_i q
      rw [if_neg q] at hf
      rw [wr_s (by omega)]
      exact h _ ⟨rfl, hf⟩
  · obtain ⟨rfl, hf⟩ := hs
    refine bk_35_35 ?_
    simp only [e1]
    rw [if_neg (by omega)]
    rw [fsN_e] at hf
    rw [hf] at hQ
    exact hQ
theorem both_ranked (hT : TFr T) (hO : OKW T w) {a b c : Int} : Cal 12 35 [.inr (.inr 11), .inl a, .inl b, .inl c] w (rI fun x u => Cal 12 171 [.inr (.inr 12), .inl a, .inl b, .inl c] u (rI fun y v => x = y ∧ OKW T v)) := by
  obtain ⟨κ, hc⟩ : ∃ κ, pc w = κ := ⟨_, rfl⟩
  obtain ⟨τ, hm⟩ : ∃ τ, pm w = τ := ⟨_, rfl⟩
  unfold OKW at hO
  rw [hc, hm] at hO
  obtain ⟨hE, hR, ht⟩ := id hO
  have hp := hR.M_places
  have e1 := (r5_4 hc).trans hE.Places_size
  refine en_35 ?_
  repeat' (first | (rw [if_neg (show ¬ (1 : Int) = 0 by decide)]) | (rw [if_pos (show (0 : Int) = 0 from rfl)]) | (rw [if_pos trivial]) | (refine And.intro (by first | omega | exact Or.inl trivial | exact Or.inr trivial | exact ⟨trivial, trivial⟩ | fail) ?_) | (refine CalB isWithin_ok (by decide) (fun _ => ?_) (fun _ => ?_)) | (refine CalB isPatronOrNone_ok (by decide) (fun _ => ?_) (fun _ => ?_)) | (refine CalB (placesHas_ok hc hE) (by decide) (fun _ => ?_) (fun _ => ?_)) | (refine CalB (peopleHas_ok hc hE) (by decide) (fun _ => ?_) (fun _ => ?_)) | (refine CalB (textsHas_ok hc hE) (by decide) (fun _ => ?_) (fun _ => ?_)) | (refine CalB (petHas_ok hc hE) (by decide) (fun _ => ?_) (fun _ => ?_)) | (refine CalB (billHas_ok hc hE) (by decide) (fun _ => ?_) (fun _ => ?_)) | (refine CalB rIsKnot_ok (by decide) (fun _ => ?_) (fun _ => ?_)) | (refine CalB rIsNight_ok (by decide) (fun _ => ?_) (fun _ => ?_)) | (refine refuseDays_br hc hm (fun _ => ?_) (fun g u hg uc um => ?_)) | (refine bk_40_53 ?_) | (refine bk_40_80 ?_) | split | fail);
  all_goals try (obtain ⟨rfl, hg⟩ | ⟨rfl, hg⟩ := hg);
  all_goals try (refine en_171 ?_; repeat' (first | (rw [if_pos (by omega)]) | (rw [if_neg (by omega)]) | (refine And.intro (by first | omega | exact Or.inl trivial | exact Or.inr trivial | exact ⟨trivial, trivial⟩ | fail) ?_) | (refine CalT in_ok (by decide) (by omega) ?_) | (refine CalF in_ok (by decide) (by omega) ?_) | (refine CalT (isPlace_ok um hR) (by decide) (by omega) ?_) | (refine CalF (isPlace_ok um hR) (by decide) (by omega) ?_) | (refine CalT (isPerson_ok um hR) (by decide) (by omega) ?_) | (refine CalF (isPerson_ok um hR) (by decide) (by omega) ?_) | (refine CalT (isText_ok um hR) (by decide) (by omega) ?_) | (refine CalF (isText_ok um hR) (by decide) (by omega) ?_) | (refine CalT (isPetitionAt_ok um hR) (by decide) (by omega) ?_) | (refine CalF (isPetitionAt_ok um hR) (by decide) (by omega) ?_) | (refine CalT (isLine_ok um hR) (by decide) (by omega) ?_) | (refine CalF (isLine_ok um hR) (by decide) (by omega) ?_) | (refine CalT mIsKnot_ok (by decide) (by omega) ?_) | (refine CalF mIsKnot_ok (by decide) (by omega) ?_) | (refine CalT mIsNight_ok (by decide) (by omega) ?_) | (refine CalF mIsNight_ok (by decide) (by omega) ?_) | (refine bk_175_75 ?_) | (refine CalE.to bounds_ok (by decide) ?_) | (refine CalE.to wrongDays_ok (by decide) ?_) | (exact CalK (fin_rf hT hO uc um (by omega) (by omega)) (by decide)) | (exact CalK (fin_rfF hT hO uc um (by omega) (by omega)) (by decide)) | fail);;)
  all_goals try (exfalso; omega)
  all_goals (
    refine CalV.to (drawList_ok hc hm hE hR e1) (by decide) ?_
    rintro u ⟨hL, uc, um⟩
    refine rranked_l uc hE.Places_size hR hL (by decide) ?_
    refine en_171 ?_
    repeat' (first | (rw [if_pos (by omega)]) | (rw [if_neg (by omega)]) | (refine And.intro (by first | omega | exact Or.inl trivial | exact Or.inr trivial | exact ⟨trivial, trivial⟩ | fail) ?_) | (refine CalT in_ok (by decide) (by omega) ?_) | (refine CalF in_ok (by decide) (by omega) ?_) | (refine CalT (isPlace_ok um hR) (by decide) (by omega) ?_) | (refine CalF (isPlace_ok um hR) (by decide) (by omega) ?_) | (refine CalT (isPerson_ok um hR) (by decide) (by omega) ?_) | (refine CalF (isPerson_ok um hR) (by decide) (by omega) ?_) | (refine CalT (isText_ok um hR) (by decide) (by omega) ?_) | (refine CalF (isText_ok um hR) (by decide) (by omega) ?_) | (refine CalT (isPetitionAt_ok um hR) (by decide) (by omega) ?_) | (refine CalF (isPetitionAt_ok um hR) (by decide) (by omega) ?_) | (refine CalT (isLine_ok um hR) (by decide) (by omega) ?_) | (refine CalF (isLine_ok um hR) (by decide) (by omega) ?_) | (refine CalT mIsKnot_ok (by decide) (by omega) ?_) | (refine CalF mIsKnot_ok (by decide) (by omega) ?_) | (refine CalT mIsNight_ok (by decide) (by omega) ?_) | (refine CalF mIsNight_ok (by decide) (by omega) ?_) | (refine bk_175_75 ?_) | (refine CalE.to bounds_ok (by decide) ?_) | (refine CalE.to wrongDays_ok (by decide) ?_) | (exact CalK (fin_rf hT hO uc um (by omega) (by omega)) (by decide)) | (exact CalK (fin_rfF hT hO uc um (by omega) (by omega)) (by decide)) | fail);
    try rw [if_neg (by omega)]
    refine mranked_l um hR (by decide) ?_
    exact ⟨rfl, OKW.of hO uc um⟩)
end
