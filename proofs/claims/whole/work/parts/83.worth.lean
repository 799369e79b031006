/-! worth; gain -/
section
variable {w κ τ : Wd}
theorem both_worth (hO : OKW TXT w) {a b c : Int} : Cal 12 89 [.inr (.inr 11), .inl a, .inl b, .inl c] w (rI fun x u => Cal 12 199 [.inr (.inr 12), .inl a, .inl b, .inl c] u (rI fun y v => x = y ∧ OKW TXT v)) := by
  have hO2 := hO
  have hT := TXT_fr
  obtain ⟨κ, hc⟩ : ∃ κ, pc w = κ := ⟨_, rfl⟩
  obtain ⟨τ, hm⟩ : ∃ τ, pm w = τ := ⟨_, rfl⟩
  unfold OKW at hO
  rw [hc, hm] at hO
  obtain ⟨hE, hR, ht⟩ := id hO
  have hpp := hR.M_people
  have hpl := hR.M_places
  have hday := hR.M_day
  refine en_89 ?_
  refine CalB (placesHas_ok hc hE) (by decide) (fun q2 => ?_) (fun q2 => ?_)
  · rw [if_neg (by decide)]
    refine ite_i (fun r1 => ?_) (fun r1 => ?_)
    · refine CalI.to (refuse_ok hc hm (by omega)) (by decide) ?_; rintro _ u ⟨rfl, uc, um⟩;
      refine en_199 ?_
      repeat' (first | (rw [if_pos (by omega)]) | (rw [if_neg (by omega)]) | (refine And.intro (by first | omega | exact Or.inl trivial | exact Or.inr trivial | exact ⟨trivial, trivial⟩ | fail) ?_) | (refine CalT in_ok (by decide) (by omega) ?_) | (refine CalF in_ok (by decide) (by omega) ?_) | (refine CalT (isPlace_ok um hR) (by decide) (by omega) ?_) | (refine CalF (isPlace_ok um hR) (by decide) (by omega) ?_) | (refine CalT (isPerson_ok um hR) (by decide) (by omega) ?_) | (refine CalF (isPerson_ok um hR) (by decide) (by omega) ?_) | (refine CalT (isText_ok um hR) (by decide) (by omega) ?_) | (refine CalF (isText_ok um hR) (by decide) (by omega) ?_) | (refine CalT (isPetitionAt_ok um hR) (by decide) (by omega) ?_) | (refine CalF (isPetitionAt_ok um hR) (by decide) (by omega) ?_) | (refine CalT (isLine_ok um hR) (by decide) (by omega) ?_) | (refine CalF (isLine_ok um hR) (by decide) (by omega) ?_) | (refine CalT mIsKnot_ok (by decide) (by omega) ?_) | (refine CalF mIsKnot_ok (by decide) (by omega) ?_) | (refine CalT mIsNight_ok (by decide) (by omega) ?_) | (refine CalF mIsNight_ok (by decide) (by omega) ?_) | (refine bk_175_75 ?_) | (refine CalE.to bounds_ok (by decide) ?_) | (refine CalE.to wrongDays_ok (by decide) ?_) | (exact CalK (fin_rf hT hO uc um (by omega) (by omega)) (by decide)) | (exact CalK (fin_rfF hT hO uc um (by omega) (by omega)) (by decide)) | fail);
    refine ite_i (fun r2 => ?_) (fun r2 => ?_)
    · refine CalI.to (refuse_ok hc hm (by omega)) (by decide) ?_; rintro _ u ⟨rfl, uc, um⟩;
      refine en_199 ?_
      repeat' (first | (rw [if_pos (by omega)]) | (rw [if_neg (by omega)]) | (refine And.intro (by first | omega | exact Or.inl trivial | exact Or.inr trivial | exact ⟨trivial, trivial⟩ | fail) ?_) | (refine CalT in_ok (by decide) (by omega) ?_) | (refine CalF in_ok (by decide) (by omega) ?_) | (refine CalT (isPlace_ok um hR) (by decide) (by omega) ?_) | (refine CalF (isPlace_ok um hR) (by decide) (by omega) ?_) | (refine CalT (isPerson_ok um hR) (by decide) (by omega) ?_) | (refine CalF (isPerson_ok um hR) (by decide) (by omega) ?_) | (refine CalT (isText_ok um hR) (by decide) (by omega) ?_) | (refine CalF (isText_ok um hR) (by decide) (by omega) ?_) | (refine CalT (isPetitionAt_ok um hR) (by decide) (by omega) ?_) | (refine CalF (isPetitionAt_ok um hR) (by decide) (by omega) ?_) | (refine CalT (isLine_ok um hR) (by decide) (by omega) ?_) | (refine CalF (isLine_ok um hR) (by decide) (by omega) ?_) | (refine CalT mIsKnot_ok (by decide) (by omega) ?_) | (refine CalF mIsKnot_ok (by decide) (by omega) ?_) | (refine CalT mIsNight_ok (by decide) (by omega) ?_) | (refine CalF mIsNight_ok (by decide) (by omega) ?_) | (refine bk_175_75 ?_) | (refine CalE.to bounds_ok (by decide) ?_) | (refine CalE.to wrongDays_ok (by decide) ?_) | (exact CalK (fin_rf hT hO uc um (by omega) (by omega)) (by decide)) | (exact CalK (fin_rfF hT hO uc um (by omega) (by omega)) (by decide)) | fail);
    refine ite_i (fun r3 => ?_) (fun r3 => ?_)
    · refine CalI.to (refuse_ok hc hm (by omega)) (by decide) ?_; rintro _ u ⟨rfl, uc, um⟩;
      refine en_199 ?_
      repeat' (first | (rw [if_pos (by omega)]) | (rw [if_neg (by omega)]) | (refine And.intro (by first | omega | exact Or.inl trivial | exact Or.inr trivial | exact ⟨trivial, trivial⟩ | fail) ?_) | (refine CalT in_ok (by decide) (by omega) ?_) | (refine CalF in_ok (by decide) (by omega) ?_) | (refine CalT (isPlace_ok um hR) (by decide) (by omega) ?_) | (refine CalF (isPlace_ok um hR) (by decide) (by omega) ?_) | (refine CalT (isPerson_ok um hR) (by decide) (by omega) ?_) | (refine CalF (isPerson_ok um hR) (by decide) (by omega) ?_) | (refine CalT (isText_ok um hR) (by decide) (by omega) ?_) | (refine CalF (isText_ok um hR) (by decide) (by omega) ?_) | (refine CalT (isPetitionAt_ok um hR) (by decide) (by omega) ?_) | (refine CalF (isPetitionAt_ok um hR) (by decide) (by omega) ?_) | (refine CalT (isLine_ok um hR) (by decide) (by omega) ?_) | (refine CalF (isLine_ok um hR) (by decide) (by omega) ?_) | (refine CalT mIsKnot_ok (by decide) (by omega) ?_) | (refine CalF mIsKnot_ok (by decide) (by omega) ?_) | (refine CalT mIsNight_ok (by decide) (by omega) ?_) | (refine CalF mIsNight_ok (by decide) (by omega) ?_) | (refine bk_175_75 ?_) | (refine CalE.to bounds_ok (by decide) ?_) | (refine CalE.to wrongDays_ok (by decide) ?_) | (exact CalK (fin_rf hT hO uc um (by omega) (by omega)) (by decide)) | (exact CalK (fin_rfF hT hO uc um (by omega) (by omega)) (by decide)) | fail);
    refine ite_i (fun r4 => ?_) (fun r4 => ?_)
    · refine CalI.to (refuse_ok hc hm (by omega)) (by decide) ?_; rintro _ u ⟨rfl, uc, um⟩;
      refine en_199 ?_
      repeat' (first | (rw [if_pos (by omega)]) | (rw [if_neg (by omega)]) | (refine And.intro (by first | omega | exact Or.inl trivial | exact Or.inr trivial | exact ⟨trivial, trivial⟩ | fail) ?_) | (refine CalT in_ok (by decide) (by omega) ?_) | (refine CalF in_ok (by decide) (by omega) ?_) | (refine CalT (isPlace_ok um hR) (by decide) (by omega) ?_) | (refine CalF (isPlace_ok um hR) (by decide) (by omega) ?_) | (refine CalT (isPerson_ok um hR) (by decide) (by omega) ?_) | (refine CalF (isPerson_ok um hR) (by decide) (by omega) ?_) | (refine CalT (isText_ok um hR) (by decide) (by omega) ?_) | (refine CalF (isText_ok um hR) (by decide) (by omega) ?_) | (refine CalT (isPetitionAt_ok um hR) (by decide) (by omega) ?_) | (refine CalF (isPetitionAt_ok um hR) (by decide) (by omega) ?_) | (refine CalT (isLine_ok um hR) (by decide) (by omega) ?_) | (refine CalF (isLine_ok um hR) (by decide) (by omega) ?_) | (refine CalT mIsKnot_ok (by decide) (by omega) ?_) | (refine CalF mIsKnot_ok (by decide) (by omega) ?_) | (refine CalT mIsNight_ok (by decide) (by omega) ?_) | (refine CalF mIsNight_ok (by decide) (by omega) ?_) | (refine bk_175_75 ?_) | (refine CalE.to bounds_ok (by decide) ?_) | (refine CalE.to wrongDays_ok (by decide) ?_) | (exact CalK (fin_rf hT hO uc um (by omega) (by omega)) (by decide)) | (exact CalK (fin_rfF hT hO uc um (by omega) (by omega)) (by decide)) | fail);
    obtain ⟨p, rfl⟩ : ∃ p : Nat, a = (p : Int) := ⟨a.toNat, by omega⟩
    obtain ⟨Y, rfl⟩ : ∃ Y : Nat, b = (Y : Int) := ⟨b.toNat, by omega⟩
    obtain ⟨S, rfl⟩ : ∃ S : Nat, c = (S : Int) := ⟨c.toNat, by omega⟩
    have hbb := hR.M_bases p
    obtain ⟨B, hB⟩ : ∃ B : Nat, τ 146 p = (B : Int) := ⟨(τ 146 p).toNat, by omega⟩
    obtain ⟨n, hn⟩ : ∃ n : Nat, τ 12 13 = (n : Int) := ⟨(τ 12 13).toNat, by omega⟩
    have eB : w 81 p = (B : Int) := ((r81 hc p).trans (hE.Places_bases p)).trans hB
    have eD : w 11 15 = τ 12 0 := (r11_15 hc).trans hE.R_today
    have m1 : B * Y ≤ 999 * 7 := Nat.mul_le_mul (by omega) (by omega)
    have m2 : B * Y * (100 - S) ≤ 999 * 7 * 100 := Nat.mul_le_mul m1 (by omega)
    have k1 : (B : Int) * (Y : Int) = ((B * Y : Nat) : Int) := (Int.natCast_mul _ _).symm
    have k2 : wr (100 - (S : Int)) = ((100 - S : Nat) : Int) := by rw [wr_id (by omega) (by omega)]; omega
    have k3 : ((B * Y : Nat) : Int) * ((100 - S : Nat) : Int) = ((B * Y * (100 - S) : Nat) : Int) := (Int.natCast_mul _ _).symm
    generalize hX : B * Y * (100 - S) = X at m2 k3
    have hW : idv (wr (wr ((B : Int) * (Y : Int)) * wr (100 - (S : Int)))) 100 = ((X / 100 : Nat) : Int) := by
      rw [k1, wr_id (x := ((B * Y : Nat) : Int)) (by omega) (by omega), k2, k3, wr_id (by omega) (by omega)]
      exact idv_n (b := 100) (by omega) (by decide)
    generalize hWW : X / 100 = W at hW
    have hWb : W ≤ 6993 := by omega
    have hL : idv (W : Int) 20 = ((W / 20 : Nat) : Int) := idv_n (b := 20) (by omega) (by decide)
    generalize hLL : W / 20 = L at hL
    have hLb : L ≤ 349 := by omega
    simp only [tn, eB, eD]
    rw [hW]
    refine ⟨by omega, by decide, ?_⟩
    refine CalE.to (textOn_ok hc hm hE hR) (by decide) ?_
    have hob := oldF_b hR p (τ 12 0)
    have lb : ∀ i, i ≤ n → L * cbN (fun i => mayB κ τ i p (oldF τ p (τ 12 0)) (τ 12 0)) i ≤ 349 * 40 := fun i hi => Nat.mul_le_mul hLb (by have := cb_b (fun i => mayB κ τ i p (oldF τ p (τ 12 0)) (τ 12 0)) i; omega)
    have ls : ∀ i, L * cbN (fun i => mayB κ τ i p (oldF τ p (τ 12 0)) (τ 12 0)) (i + 1) = L * cbN (fun i => mayB κ τ i p (oldF τ p (τ 12 0)) (τ 12 0)) i + (if mayB κ τ i p (oldF τ p (τ 12 0)) (τ 12 0) = true then L else 0) := by
      intro i
      rw [cb_s, Nat.mul_add]
      split
      · rw [Nat.mul_one]
      · rw [Nat.mul_zero]
    have cs := cb_s (fun i => mayB κ τ i p (oldF τ p (τ 12 0)) (τ 12 0))
    have cbb := cb_b (fun i => mayB κ τ i p (oldF τ p (τ 12 0)) (τ 12 0))
    have mid : ∀ (x : Int) (u : Wd), pc u = κ → pm u = τ → x = max 0 ((W : Int) - ((L * cbN (fun i => mayB κ τ i p (oldF τ p (τ 12 0)) (τ 12 0)) n : Nat) : Int)) → Cal 12 199 [.inr (.inr 12), .inl (p : Int), .inl (Y : Int), .inl (S : Int)] u (rI fun y v => x = y ∧ OKW TXT v) := by
      intro x u uc um hx
      refine en_199 ?_
      repeat' (first | (rw [if_pos (by omega)]) | (rw [if_neg (by omega)]) | (refine And.intro (by first | omega | exact Or.inl trivial | exact Or.inr trivial | exact ⟨trivial, trivial⟩ | fail) ?_) | (refine CalT in_ok (by decide) (by omega) ?_) | (refine CalF in_ok (by decide) (by omega) ?_) | (refine CalT (isPlace_ok um hR) (by decide) (by omega) ?_) | (refine CalF (isPlace_ok um hR) (by decide) (by omega) ?_) | (refine CalT (isPerson_ok um hR) (by decide) (by omega) ?_) | (refine CalF (isPerson_ok um hR) (by decide) (by omega) ?_) | (refine CalT (isText_ok um hR) (by decide) (by omega) ?_) | (refine CalF (isText_ok um hR) (by decide) (by omega) ?_) | (refine CalT (isPetitionAt_ok um hR) (by decide) (by omega) ?_) | (refine CalF (isPetitionAt_ok um hR) (by decide) (by omega) ?_) | (refine CalT (isLine_ok um hR) (by decide) (by omega) ?_) | (refine CalF (isLine_ok um hR) (by decide) (by omega) ?_) | (refine CalT mIsKnot_ok (by decide) (by omega) ?_) | (refine CalF mIsKnot_ok (by decide) (by omega) ?_) | (refine CalT mIsNight_ok (by decide) (by omega) ?_) | (refine CalF mIsNight_ok (by decide) (by omega) ?_) | (refine bk_175_75 ?_) | (refine CalE.to bounds_ok (by decide) ?_) | (refine CalE.to wrongDays_ok (by decide) ?_) | (exact CalK (fin_rf hT hO uc um (by omega) (by omega)) (by decide)) | (exact CalK (fin_rfF hT hO uc um (by omega) (by omega)) (by decide)) | fail);
      have fB : u 146 p = (B : Int) := (r146 um p).trans hB
      have fD : u 12 0 = τ 12 0 := r12_0 um
      simp only [tn, fB, fD]
      rw [hW, hL]
      refine CalE.to (oldOn_ok um hR) (by decide) ?_
      generalize hQ : (rI fun y v => x = y ∧ OKW TXT v) = Q
      have key := Ev.inv (sc := none) (C := Cal 11) (cdk := cd 199) (Q := Q) (N := n) (I := fun i t => ∃ v : Wd, t = (88, [some (.inr (.inr 12)), some (.inl (p : Int)), none, none, some (.inl ((W : Int) - ((L * cbN (fun i => mayB κ τ i p (oldF τ p (τ 12 0)) (τ 12 0)) i : Nat) : Int))), some (.inl (L : Int)), some (.inl (oldF τ p (τ 12 0))), some (.inl (i : Int))], [], v) ∧ pc v = κ ∧ pm v = τ) (fun i hi t ht2 h => ?_) (fun t ht2 => ?_) 0 (Nat.zero_le _)
      · refine key _ ⟨u, ?_, uc, um⟩
        rw [show cbN (fun i => mayB κ τ i p (oldF τ p (τ 12 0)) (τ 12 0)) 0 = 0 from rfl, Nat.mul_zero, show (W : Int) - ((0 : Nat) : Int) = (W : Int) by omega]
        rfl
      · obtain ⟨v, rfl, vc, vm⟩ := ht2
        refine bk_199_88 ?_
        have l1 := lb i (by omega)
        have l2 := ls i
        have gD : v 12 0 = τ 12 0 := r12_0 vm
        simp only [r12_13 vm, hn, gD, wr_s (show i < 2000000 by omega)]
        rw [if_pos (by omega), wr_id (x := _ - 0) (by omega) (by omega), wr_id (x := _ - (L : Int)) (by omega) (by omega)]
        refine CalI.to (mayBy_c vm hR ht (by omega) hob.2 (by omega)) (by decide) ?_
        rintro _ x1 ⟨rfl, xc, xm, _⟩
        cases hb : mayB κ τ i p (oldF τ p (τ 12 0)) (τ 12 0)
        · rw [hb, if_neg (by decide)] at l2
          rw [if_pos (show bI false = 0 from rfl)]
          refine h _ ⟨x1, ?_, xc.trans vc, xm⟩
          rw [l2]
          simp
        · rw [hb, if_pos rfl] at l2
          rw [if_neg (show ¬ bI true = 0 by decide)]
          refine h _ ⟨x1, ?_, xc.trans vc, xm⟩
          rw [l2, show (W : Int) - ((L * cbN (fun i => mayB κ τ i p (oldF τ p (τ 12 0)) (τ 12 0)) i + L : Nat) : Int) = (W : Int) - ((L * cbN (fun i => mayB κ τ i p (oldF τ p (τ 12 0)) (τ 12 0)) i : Nat) : Int) - (L : Int) by omega]
      · obtain ⟨v, rfl, vc, vm⟩ := ht2
        refine bk_199_88 ?_
        simp only [r12_13 vm, hn]
        rw [if_neg (by omega), ← hQ]
        have hk := OKW.of hO vc vm
        refine ite_i (fun z => ⟨?_, hk⟩) (fun z => ⟨?_, hk⟩)
        · omega
        · omega
    generalize hQ : (rI fun x u => Cal 12 199 [.inr (.inr 12), .inl (p : Int), .inl (Y : Int), .inl (S : Int)] u (rI fun y v => x = y ∧ OKW TXT v)) = Q
    have key := Ev.inv (sc := none) (C := Cal 11) (cdk := cd 89) (Q := Q) (N := n) (I := fun i t => ∃ v : Wd, t = (93, [some (.inr (.inr 11)), some (.inl (p : Int)), none, none, some (.inl (W : Int)), some (.inl ((cbN (fun i => mayB κ τ i p (oldF τ p (τ 12 0)) (τ 12 0)) i : Nat) : Int)), some (.inl (if oldF τ p (τ 12 0) < 0 then -9 else oldF τ p (τ 12 0))), some (.inl (i : Int))], [], v) ∧ pc v = κ ∧ pm v = τ) (fun i hi t ht2 h => ?_) (fun t ht2 => ?_) 0 (Nat.zero_le _)
    · exact key _ ⟨w, rfl, hc, hm⟩
    · obtain ⟨v, rfl, vc, vm⟩ := ht2
      refine bk_89_93 ?_
      have gD : v 11 15 = τ 12 0 := (r11_15 vc).trans hE.R_today
      have gP : v 3 5 = (n : Int) := ((r3_5 vc).trans hE.People_size).trans hn
      have c1 := cbb i
      have c2 := cs i
      rw [gP, gD, if_pos (by omega), wr_s (show i < 2000000 by omega), wr_s (by omega)]
      refine CalI.to (isVoter_c vc vm hE hR ht (by omega) (by omega)) (by decide) ?_
      rintro _ x1 ⟨rfl, xc, xm, _⟩
      have em : mayB κ τ i p (if oldF τ p (τ 12 0) < 0 then -9 else oldF τ p (τ 12 0)) (τ 12 0) = mayB κ τ i p (oldF τ p (τ 12 0)) (τ 12 0) := mayB_ct κ τ i p _ _
      rw [em]
      cases hb : mayB κ τ i p (oldF τ p (τ 12 0)) (τ 12 0)
      · rw [hb, if_neg (by decide)] at c2
        rw [if_pos (show bI false = 0 from rfl)]
        refine h _ ⟨x1, ?_, xc, xm⟩
        rw [c2]
        rfl
      · rw [hb, if_pos rfl] at c2
        rw [if_neg (show ¬ bI true = 0 by decide)]
        refine h _ ⟨x1, ?_, xc, xm⟩
        rw [c2]
    · obtain ⟨v, rfl, vc, vm⟩ := ht2
      refine bk_89_93 ?_
      have gP : v 3 5 = (n : Int) := ((r3_5 vc).trans hE.People_size).trans hn
      have l1 := lb n (by omega)
      rw [gP, if_neg (by omega), hL, ← Int.natCast_mul, wr_id (x := ((L * _ : Nat) : Int)) (by omega) (by omega), wr_id (by omega) (by omega), ← hQ]
      exact ⟨by decide, mid _ v vc vm rfl⟩
  · rw [if_pos rfl]
    refine CalI.to (refuse_ok hc hm (by omega)) (by decide) ?_; rintro _ u ⟨rfl, uc, um⟩;
    refine en_199 ?_
    repeat' (first | (rw [if_pos (by omega)]) | (rw [if_neg (by omega)]) | (refine And.intro (by first | omega | exact Or.inl trivial | exact Or.inr trivial | exact ⟨trivial, trivial⟩ | fail) ?_) | (refine CalT in_ok (by decide) (by omega) ?_) | (refine CalF in_ok (by decide) (by omega) ?_) | (refine CalT (isPlace_ok um hR) (by decide) (by omega) ?_) | (refine CalF (isPlace_ok um hR) (by decide) (by omega) ?_) | (refine CalT (isPerson_ok um hR) (by decide) (by omega) ?_) | (refine CalF (isPerson_ok um hR) (by decide) (by omega) ?_) | (refine CalT (isText_ok um hR) (by decide) (by omega) ?_) | (refine CalF (isText_ok um hR) (by decide) (by omega) ?_) | (refine CalT (isPetitionAt_ok um hR) (by decide) (by omega) ?_) | (refine CalF (isPetitionAt_ok um hR) (by decide) (by omega) ?_) | (refine CalT (isLine_ok um hR) (by decide) (by omega) ?_) | (refine CalF (isLine_ok um hR) (by decide) (by omega) ?_) | (refine CalT mIsKnot_ok (by decide) (by omega) ?_) | (refine CalF mIsKnot_ok (by decide) (by omega) ?_) | (refine CalT mIsNight_ok (by decide) (by omega) ?_) | (refine CalF mIsNight_ok (by decide) (by omega) ?_) | (refine bk_175_75 ?_) | (refine CalE.to bounds_ok (by decide) ?_) | (refine CalE.to wrongDays_ok (by decide) ?_) | (exact CalK (fin_rf hT hO uc um (by omega) (by omega)) (by decide)) | (exact CalK (fin_rfF hT hO uc um (by omega) (by omega)) (by decide)) | fail);
end
