/-! may, furrows, worth -/
def cbN (P : Nat → Bool) : Nat → Nat
  | 0 => 0
  | n + 1 => cbN P n + (if P n = true then 1 else 0)
theorem cb_s (P : Nat → Bool) (n : Nat) : cbN P (n + 1) = cbN P n + (if P n = true then 1 else 0) := rfl
theorem cb_b (P : Nat → Bool) (n : Nat) : cbN P n ≤ n := by
  induction n with
  | zero => exact Nat.le_refl _
  | succ n ih => rw [cb_s]; split <;> omega
theorem cb_m (P : Nat → Bool) {a b : Nat} (h : a ≤ b) : cbN P a ≤ cbN P b := by
  induction h with
  | refl => exact Nat.le_refl _
  | step h ih => rw [cb_s]; omega
theorem bI_0 (b : Bool) : bI b = 0 ↔ b = false := by cases b <;> decide
section
variable {w κ τ : Wd}
theorem both_may (hO : OKW TXT w) {a b c e : Int} : Cal 12 75 [.inr (.inr 11), .inl a, .inl b, .inl c, .inl e] w (rI fun x u => Cal 12 189 [.inr (.inr 12), .inl a, .inl b, .inl c, .inl e] u (rI fun y v => x = y ∧ OKW TXT v)) := by
  have hO2 := hO
  have hT := TXT_fr
  obtain ⟨κ, hc⟩ : ∃ κ, pc w = κ := ⟨_, rfl⟩
  obtain ⟨τ, hm⟩ : ∃ τ, pm w = τ := ⟨_, rfl⟩
  unfold OKW at hO
  rw [hc, hm] at hO
  obtain ⟨hE, hR, ht⟩ := id hO
  have hpp := hR.M_people
  refine en_75 ?_
  refine CalB (peopleHas_ok hc hE) (by decide) (fun q1 => ?_) (fun q1 => ?_)
  · rw [if_neg (by decide)]
    refine CalB (placesHas_ok hc hE) (by decide) (fun q2 => ?_) (fun q2 => ?_)
    · rw [if_neg (by decide)]
      refine CalB isWithin_ok (by decide) (fun q3 => ?_) (fun q3 => ?_)
      · rw [if_neg (by decide)]
        refine refuseDays_br hc hm (fun q4 => ?_) (fun g u hg uc um => ?_)
        · rw [if_pos rfl]
          obtain ⟨n, rfl⟩ : ∃ n : Nat, a = (n : Int) := ⟨a.toNat, by omega⟩
          refine ite_i (fun q5 => ?_) (fun q5 => ?_)
          · refine CalE.to (textOn_ok hc hm hE hR) (by decide) ?_
            have hob := oldF_b hR b c
            refine CalI.to (isVoter_c hc hm hE hR ht q1.2 (by omega)) (by decide) ?_
            rintro _ u ⟨rfl, uc, um, _⟩
            have em : mayB κ τ n b (if oldF τ b c < 0 then -9 else oldF τ b c) c = mayB κ τ n b (oldF τ b c) c := mayB_ct κ τ n b _ c
            rw [em]
            have fin : ∀ x : Int, x = bI (mayB κ τ n b (oldF τ b c) c) → Cal 12 189 [.inr (.inr 12), .inl (n : Int), .inl b, .inl c, .inl e] u (rI fun y v => x = y ∧ OKW TXT v) := by
              intro x hx
              refine en_189 ?_
              repeat' (first | (rw [if_pos (by omega)]) | (rw [if_neg (by omega)]) | (refine And.intro (by first | omega | exact Or.inl trivial | exact Or.inr trivial | exact ⟨trivial, trivial⟩ | fail) ?_) | (refine CalT in_ok (by decide) (by omega) ?_) | (refine CalF in_ok (by decide) (by omega) ?_) | (refine CalT (isPlace_ok um hR) (by decide) (by omega) ?_) | (refine CalF (isPlace_ok um hR) (by decide) (by omega) ?_) | (refine CalT (isPerson_ok um hR) (by decide) (by omega) ?_) | (refine CalF (isPerson_ok um hR) (by decide) (by omega) ?_) | (refine CalT (isText_ok um hR) (by decide) (by omega) ?_) | (refine CalF (isText_ok um hR) (by decide) (by omega) ?_) | (refine CalT (isPetitionAt_ok um hR) (by decide) (by omega) ?_) | (refine CalF (isPetitionAt_ok um hR) (by decide) (by omega) ?_) | (refine CalT (isLine_ok um hR) (by decide) (by omega) ?_) | (refine CalF (isLine_ok um hR) (by decide) (by omega) ?_) | (refine CalT mIsKnot_ok (by decide) (by omega) ?_) | (refine CalF mIsKnot_ok (by decide) (by omega) ?_) | (refine CalT mIsNight_ok (by decide) (by omega) ?_) | (refine CalF mIsNight_ok (by decide) (by omega) ?_) | (refine bk_175_75 ?_) | (refine CalE.to bounds_ok (by decide) ?_) | (refine CalE.to wrongDays_ok (by decide) ?_) | (exact CalK (fin_rf hT hO uc um (by omega) (by omega)) (by decide)) | (exact CalK (fin_rfF hT hO uc um (by omega) (by omega)) (by decide)) | fail);
              refine CalE.to (oldOn_ok um hR) (by decide) ?_
              refine CalI.to (mayBy_c um hR ht q1.2 hob.2 (by omega)) (by decide) ?_
              rintro _ v ⟨rfl, vc, vm, _⟩
              have hk := OKW.of hO (vc.trans uc) vm
              cases hb : mayB κ τ n b (oldF τ b c) c
              · rw [hb] at hx
                rw [if_pos (show bI false = 0 from rfl)]
                exact ⟨hx, hk⟩
              · rw [hb] at hx
                rw [if_neg (show ¬ bI true = 0 by decide)]
                exact ⟨hx, hk⟩
            cases hb : mayB κ τ n b (oldF τ b c) c
            · rw [if_pos (show bI false = 0 from rfl)]
              exact fin 0 (by rw [hb]; rfl)
            · rw [if_neg (show ¬ bI true = 0 by decide)]
              exact fin 1 (by rw [hb]; rfl)
          · refine CalV.to (gather_ok hc hm hE hR (by omega) (by omega)) (by decide) ?_
            rintro u ⟨hf, uc, um⟩
            obtain ⟨k, rfl⟩ : ∃ k : Nat, e = (k : Int) + 1 := ⟨(e - 1).toNat, by omega⟩
            have w1 : wr ((k : Int) + 1 - 1) = (k : Int) := by rw [wr_id (by omega) (by omega)]; omega
            rw [w1, tn, hf k (by omega)]
            refine ⟨by omega, ?_⟩
            refine en_189 ?_
            repeat' (first | (rw [if_pos (by omega)]) | (rw [if_neg (by omega)]) | (refine And.intro (by first | omega | exact Or.inl trivial | exact Or.inr trivial | exact ⟨trivial, trivial⟩ | fail) ?_) | (refine CalT in_ok (by decide) (by omega) ?_) | (refine CalF in_ok (by decide) (by omega) ?_) | (refine CalT (isPlace_ok um hR) (by decide) (by omega) ?_) | (refine CalF (isPlace_ok um hR) (by decide) (by omega) ?_) | (refine CalT (isPerson_ok um hR) (by decide) (by omega) ?_) | (refine CalF (isPerson_ok um hR) (by decide) (by omega) ?_) | (refine CalT (isText_ok um hR) (by decide) (by omega) ?_) | (refine CalF (isText_ok um hR) (by decide) (by omega) ?_) | (refine CalT (isPetitionAt_ok um hR) (by decide) (by omega) ?_) | (refine CalF (isPetitionAt_ok um hR) (by decide) (by omega) ?_) | (refine CalT (isLine_ok um hR) (by decide) (by omega) ?_) | (refine CalF (isLine_ok um hR) (by decide) (by omega) ?_) | (refine CalT mIsKnot_ok (by decide) (by omega) ?_) | (refine CalF mIsKnot_ok (by decide) (by omega) ?_) | (refine CalT mIsNight_ok (by decide) (by omega) ?_) | (refine CalF mIsNight_ok (by decide) (by omega) ?_) | (refine bk_175_75 ?_) | (refine CalE.to bounds_ok (by decide) ?_) | (refine CalE.to wrongDays_ok (by decide) ?_) | (exact CalK (fin_rf hT hO uc um (by omega) (by omega)) (by decide)) | (exact CalK (fin_rfF hT hO uc um (by omega) (by omega)) (by decide)) | fail);
            refine CalV.to (findFacts_ok um hR (by omega) (by omega)) (by decide) ?_
            rintro v ⟨hf2, vm, vc⟩
            rw [w1, tn, hf2 k (by omega)]
            exact ⟨by omega, rfl, OKW.of hO (vc.trans uc) vm⟩
        · rw [if_neg (by omega)]
          (obtain ⟨rfl, hg⟩ | ⟨rfl, hg⟩ := hg);
          all_goals (refine en_189 ?_; repeat' (first | (rw [if_pos (by omega)]) | (rw [if_neg (by omega)]) | (refine And.intro (by first | omega | exact Or.inl trivial | exact Or.inr trivial | exact ⟨trivial, trivial⟩ | fail) ?_) | (refine CalT in_ok (by decide) (by omega) ?_) | (refine CalF in_ok (by decide) (by omega) ?_) | (refine CalT (isPlace_ok um hR) (by decide) (by omega) ?_) | (refine CalF (isPlace_ok um hR) (by decide) (by omega) ?_) | (refine CalT (isPerson_ok um hR) (by decide) (by omega) ?_) | (refine CalF (isPerson_ok um hR) (by decide) (by omega) ?_) | (refine CalT (isText_ok um hR) (by decide) (by omega) ?_) | (refine CalF (isText_ok um hR) (by decide) (by omega) ?_) | (refine CalT (isPetitionAt_ok um hR) (by decide) (by omega) ?_) | (refine CalF (isPetitionAt_ok um hR) (by decide) (by omega) ?_) | (refine CalT (isLine_ok um hR) (by decide) (by omega) ?_) | (refine CalF (isLine_ok um hR) (by decide) (by omega) ?_) | (refine CalT mIsKnot_ok (by decide) (by omega) ?_) | (refine CalF mIsKnot_ok (by decide) (by omega) ?_) | (refine CalT mIsNight_ok (by decide) (by omega) ?_) | (refine CalF mIsNight_ok (by decide) (by omega) ?_) | (refine bk_175_75 ?_) | (refine CalE.to bounds_ok (by decide) ?_) | (refine CalE.to wrongDays_ok (by decide) ?_) | (exact CalK (fin_rf hT hO uc um (by omega) (by omega)) (by decide)) | (exact CalK (fin_rfF hT hO uc um (by omega) (by omega)) (by decide)) | fail);;)
      · rw [if_pos rfl]
        refine CalI.to (refuse_ok hc hm (by omega)) (by decide) ?_; rintro _ u ⟨rfl, uc, um⟩;
        refine en_189 ?_
        repeat' (first | (rw [if_pos (by omega)]) | (rw [if_neg (by omega)]) | (refine And.intro (by first | omega | exact Or.inl trivial | exact Or.inr trivial | exact ⟨trivial, trivial⟩ | fail) ?_) | (refine CalT in_ok (by decide) (by omega) ?_) | (refine CalF in_ok (by decide) (by omega) ?_) | (refine CalT (isPlace_ok um hR) (by decide) (by omega) ?_) | (refine CalF (isPlace_ok um hR) (by decide) (by omega) ?_) | (refine CalT (isPerson_ok um hR) (by decide) (by omega) ?_) | (refine CalF (isPerson_ok um hR) (by decide) (by omega) ?_) | (refine CalT (isText_ok um hR) (by decide) (by omega) ?_) | (refine CalF (isText_ok um hR) (by decide) (by omega) ?_) | (refine CalT (isPetitionAt_ok um hR) (by decide) (by omega) ?_) | (refine CalF (isPetitionAt_ok um hR) (by decide) (by omega) ?_) | (refine CalT (isLine_ok um hR) (by decide) (by omega) ?_) | (refine CalF (isLine_ok um hR) (by decide) (by omega) ?_) | (refine CalT mIsKnot_ok (by decide) (by omega) ?_) | (refine CalF mIsKnot_ok (by decide) (by omega) ?_) | (refine CalT mIsNight_ok (by decide) (by omega) ?_) | (refine CalF mIsNight_ok (by decide) (by omega) ?_) | (refine bk_175_75 ?_) | (refine CalE.to bounds_ok (by decide) ?_) | (refine CalE.to wrongDays_ok (by decide) ?_) | (exact CalK (fin_rf hT hO uc um (by omega) (by omega)) (by decide)) | (exact CalK (fin_rfF hT hO uc um (by omega) (by omega)) (by decide)) | fail);
    · rw [if_pos rfl]
      refine CalI.to (refuse_ok hc hm (by omega)) (by decide) ?_; rintro _ u ⟨rfl, uc, um⟩;
      refine en_189 ?_
      repeat' (first | (rw [if_pos (by omega)]) | (rw [if_neg (by omega)]) | (refine And.intro (by first | omega | exact Or.inl trivial | exact Or.inr trivial | exact ⟨trivial, trivial⟩ | fail) ?_) | (refine CalT in_ok (by decide) (by omega) ?_) | (refine CalF in_ok (by decide) (by omega) ?_) | (refine CalT (isPlace_ok um hR) (by decide) (by omega) ?_) | (refine CalF (isPlace_ok um hR) (by decide) (by omega) ?_) | (refine CalT (isPerson_ok um hR) (by decide) (by omega) ?_) | (refine CalF (isPerson_ok um hR) (by decide) (by omega) ?_) | (refine CalT (isText_ok um hR) (by decide) (by omega) ?_) | (refine CalF (isText_ok um hR) (by decide) (by omega) ?_) | (refine CalT (isPetitionAt_ok um hR) (by decide) (by omega) ?_) | (refine CalF (isPetitionAt_ok um hR) (by decide) (by omega) ?_) | (refine CalT (isLine_ok um hR) (by decide) (by omega) ?_) | (refine CalF (isLine_ok um hR) (by decide) (by omega) ?_) | (refine CalT mIsKnot_ok (by decide) (by omega) ?_) | (refine CalF mIsKnot_ok (by decide) (by omega) ?_) | (refine CalT mIsNight_ok (by decide) (by omega) ?_) | (refine CalF mIsNight_ok (by decide) (by omega) ?_) | (refine bk_175_75 ?_) | (refine CalE.to bounds_ok (by decide) ?_) | (refine CalE.to wrongDays_ok (by decide) ?_) | (exact CalK (fin_rf hT hO uc um (by omega) (by omega)) (by decide)) | (exact CalK (fin_rfF hT hO uc um (by omega) (by omega)) (by decide)) | fail);
  · rw [if_pos rfl]
    refine CalI.to (refuse_ok hc hm (by omega)) (by decide) ?_; rintro _ u ⟨rfl, uc, um⟩;
    refine en_189 ?_
    repeat' (first | (rw [if_pos (by omega)]) | (rw [if_neg (by omega)]) | (refine And.intro (by first | omega | exact Or.inl trivial | exact Or.inr trivial | exact ⟨trivial, trivial⟩ | fail) ?_) | (refine CalT in_ok (by decide) (by omega) ?_) | (refine CalF in_ok (by decide) (by omega) ?_) | (refine CalT (isPlace_ok um hR) (by decide) (by omega) ?_) | (refine CalF (isPlace_ok um hR) (by decide) (by omega) ?_) | (refine CalT (isPerson_ok um hR) (by decide) (by omega) ?_) | (refine CalF (isPerson_ok um hR) (by decide) (by omega) ?_) | (refine CalT (isText_ok um hR) (by decide) (by omega) ?_) | (refine CalF (isText_ok um hR) (by decide) (by omega) ?_) | (refine CalT (isPetitionAt_ok um hR) (by decide) (by omega) ?_) | (refine CalF (isPetitionAt_ok um hR) (by decide) (by omega) ?_) | (refine CalT (isLine_ok um hR) (by decide) (by omega) ?_) | (refine CalF (isLine_ok um hR) (by decide) (by omega) ?_) | (refine CalT mIsKnot_ok (by decide) (by omega) ?_) | (refine CalF mIsKnot_ok (by decide) (by omega) ?_) | (refine CalT mIsNight_ok (by decide) (by omega) ?_) | (refine CalF mIsNight_ok (by decide) (by omega) ?_) | (refine bk_175_75 ?_) | (refine CalE.to bounds_ok (by decide) ?_) | (refine CalE.to wrongDays_ok (by decide) ?_) | (exact CalK (fin_rf hT hO uc um (by omega) (by omega)) (by decide)) | (exact CalK (fin_rfF hT hO uc um (by omega) (by omega)) (by decide)) | fail);
/-- who votes now and not a year ago -/
noncomputable def fuB (κ τ : Wd) (p t d : Int) (i : Nat) : Bool := mayB κ τ i p t d && !mayB κ τ i p t (d - 365)
theorem both_furrows (hO : OKW TXT w) {a b c : Int} : Cal 12 80 [.inr (.inr 11), .inl a, .inl b, .inl c] w (rI fun x u => Cal 12 194 [.inr (.inr 12), .inl a, .inl b, .inl c] u (rI fun y v => x = y ∧ OKW TXT v)) := by
  have hO2 := hO
  have hT := TXT_fr
  obtain ⟨κ, hc⟩ : ∃ κ, pc w = κ := ⟨_, rfl⟩
  obtain ⟨τ, hm⟩ : ∃ τ, pm w = τ := ⟨_, rfl⟩
  unfold OKW at hO
  rw [hc, hm] at hO
  obtain ⟨hE, hR, ht⟩ := id hO
  have hpp := hR.M_people
  refine en_80 ?_
  refine CalB (placesHas_ok hc hE) (by decide) (fun q2 => ?_) (fun q2 => ?_)
  · rw [if_neg (by decide)]
    refine CalB isWithin_ok (by decide) (fun q3 => ?_) (fun q3 => ?_)
    · rw [if_neg (by decide)]
      refine refuseDays_br hc hm (fun q4 => ?_) (fun g u hg uc um => ?_)
      · rw [if_pos rfl]
        refine CalE.to (textOn_ok hc hm hE hR) (by decide) ?_
        have hob := oldF_b hR a b
        obtain ⟨n, hn⟩ : ∃ n : Nat, τ 12 13 = (n : Int) := ⟨(τ 12 13).toNat, by omega⟩
        have e0 : w 3 5 = (n : Int) := ((r3_5 hc).trans hE.People_size).trans hn
        have w3 : wr (b - 365) = b - 365 := wr_id (by omega) (by omega)
        rw [e0, wr_id (x := (n : Int) - 1) (by omega) (by omega)]
        have mid : ∀ (x : Int) (u : Wd), pc u = κ → pm u = τ → x = (if c = 0 then (cbN (fuB κ τ a (oldF τ a b) b) n : Int) else fsF (fuB κ τ a (oldF τ a b) b) n) → Cal 12 194 [.inr (.inr 12), .inl a, .inl b, .inl c] u (rI fun y v => x = y ∧ OKW TXT v) := by
          intro x u uc um hx
          refine en_194 ?_
          repeat' (first | (rw [if_pos (by omega)]) | (rw [if_neg (by omega)]) | (refine And.intro (by first | omega | exact Or.inl trivial | exact Or.inr trivial | exact ⟨trivial, trivial⟩ | fail) ?_) | (refine CalT in_ok (by decide) (by omega) ?_) | (refine CalF in_ok (by decide) (by omega) ?_) | (refine CalT (isPlace_ok um hR) (by decide) (by omega) ?_) | (refine CalF (isPlace_ok um hR) (by decide) (by omega) ?_) | (refine CalT (isPerson_ok um hR) (by decide) (by omega) ?_) | (refine CalF (isPerson_ok um hR) (by decide) (by omega) ?_) | (refine CalT (isText_ok um hR) (by decide) (by omega) ?_) | (refine CalF (isText_ok um hR) (by decide) (by omega) ?_) | (refine CalT (isPetitionAt_ok um hR) (by decide) (by omega) ?_) | (refine CalF (isPetitionAt_ok um hR) (by decide) (by omega) ?_) | (refine CalT (isLine_ok um hR) (by decide) (by omega) ?_) | (refine CalF (isLine_ok um hR) (by decide) (by omega) ?_) | (refine CalT mIsKnot_ok (by decide) (by omega) ?_) | (refine CalF mIsKnot_ok (by decide) (by omega) ?_) | (refine CalT mIsNight_ok (by decide) (by omega) ?_) | (refine CalF mIsNight_ok (by decide) (by omega) ?_) | (refine bk_175_75 ?_) | (refine CalE.to bounds_ok (by decide) ?_) | (refine CalE.to wrongDays_ok (by decide) ?_) | (exact CalK (fin_rf hT hO uc um (by omega) (by omega)) (by decide)) | (exact CalK (fin_rfF hT hO uc um (by omega) (by omega)) (by decide)) | fail);
          refine CalE.to (oldOn_ok um hR) (by decide) ?_
          generalize hQ : (rI fun y v => x = y ∧ OKW TXT v) = Q
          have key := Ev.inv (sc := none) (C := Cal 11) (cdk := cd 194) (Q := Q) (N := n) (I := fun i t => ∃ (v : Wd) (y : Int), t = (72, [some (.inr (.inr 12)), some (.inl a), some (.inl b), some (.inl c), some (.inl (cbN (fuB κ τ a (oldF τ a b) b) i : Int)), some (.inl y), some (.inl (oldF τ a b)), some (.inl (i : Int))], [], v) ∧ pc v = κ ∧ pm v = τ ∧ ((y = -9 ∧ fsF (fuB κ τ a (oldF τ a b) b) n = fsN (fuB κ τ a (oldF τ a b) b) (n - i) i) ∨ (0 ≤ y ∧ fsF (fuB κ τ a (oldF τ a b) b) n = y))) (fun i hi t ht2 h => ?_) (fun t ht2 => ?_) 0 (Nat.zero_le _)
          · exact key _ ⟨u, -9, rfl, uc, um, Or.inl ⟨rfl, rfl⟩⟩
          · obtain ⟨v, y, rfl, vc, vm, hy⟩ := ht2
            refine bk_194_72 ?_
            have hs := cb_s (fuB κ τ a (oldF τ a b) b) i
            have hcb := cb_b (fuB κ τ a (oldF τ a b) b) i
            have hfs := fsN_s (P := fuB κ τ a (oldF τ a b) b) hi
            simp only [r12_13 vm, hn, w3, wr_s (show i < 2000000 by omega), wr_s (show cbN (fuB κ τ a (oldF τ a b) b) i < 2000000 by omega)]
            rw [if_pos (by omega)]
            refine CalI.to (mayBy_c vm hR ht (by omega) hob.2 (by omega)) (by decide) ?_
            rintro _ x1 ⟨rfl, xc, xm, _⟩
            cases hb1 : mayB κ τ i a (oldF τ a b) b
            · have hf : fuB κ τ a (oldF τ a b) b i = false := by unfold fuB; rw [hb1]; rfl
              rw [hf] at hs hfs
              rw [if_pos (show bI false = 0 from rfl)]
              rw [if_neg (by decide)] at hs hfs
              refine h _ ⟨x1, y, by rw [hs]; rfl, xc.trans vc, xm, ?_⟩
              rcases hy with ⟨h1, h2⟩ | hy
              · exact Or.inl ⟨h1, h2.trans hfs⟩
              · exact Or.inr hy
            · rw [if_neg (show ¬ bI true = 0 by decide)]
              refine CalI.to (mayBy_c xm hR ht (by omega) hob.2 (by omega)) (by decide) ?_
              rintro _ x2 ⟨rfl, xc2, xm2, _⟩
              cases hb2 : mayB κ τ i a (oldF τ a b) (b - 365)
              · have hf : fuB κ τ a (oldF τ a b) b i = true := by unfold fuB; rw [hb1, hb2]; rfl
                rw [hf] at hs hfs
                rw [if_pos (show bI false = 0 from rfl)]
                rw [if_pos rfl] at hs hfs
                rw [hs] at h
                refine ite_i (fun z => ?_) (fun z => ?_)
                · refine h _ ⟨x2, (i : Int), rfl, (xc2.trans xc).trans vc, xm2, Or.inr ⟨by omega, ?_⟩⟩
                  rcases hy with ⟨h1, h2⟩ | hy
                  · exact h2.trans hfs
                  · omega
                · refine h _ ⟨x2, y, rfl, (xc2.trans xc).trans vc, xm2, ?_⟩
                  rcases hy with ⟨h1, h2⟩ | hy
                  · omega
                  · exact Or.inr hy
              · have hf : fuB κ τ a (oldF τ a b) b i = false := by unfold fuB; rw [hb1, hb2]; rfl
                rw [hf] at hs hfs
                rw [if_neg (show ¬ bI true = 0 by decide)]
                rw [if_neg (by decide)] at hs hfs
                refine h _ ⟨x2, y, by rw [hs]; rfl, (xc2.trans xc).trans vc, xm2, ?_⟩
                rcases hy with ⟨h1, h2⟩ | hy
                · exact Or.inl ⟨h1, h2.trans hfs⟩
                · exact Or.inr hy
          · obtain ⟨v, y, rfl, vc, vm, hy⟩ := ht2
            refine bk_194_72 ?_
            simp only [r12_13 vm, hn]
            rw [if_neg (by omega), ← hQ]
            have hk := OKW.of hO vc vm
            rw [fsN_e] at hy
            refine ite_i (fun z => ?_) (fun z => ?_)
            · rw [if_pos z] at hx
              exact ⟨hx, hk⟩
            · rw [if_neg z] at hx
              refine ⟨?_, hk⟩
              omega
        generalize hQ : (rI fun x u => Cal 12 194 [.inr (.inr 12), .inl a, .inl b, .inl c] u (rI fun y v => x = y ∧ OKW TXT v)) = Q
        have key := Ev.inv (sc := none) (C := Cal 11) (cdk := cd 80) (Q := Q) (N := n) (I := fun i t => ∃ (v : Wd), t = (77, [some (.inr (.inr 11)), some (.inl a), some (.inl b), some (.inl c), none, some (.inl (if oldF τ a b < 0 then -9 else oldF τ a b)), some (.inl ((cbN (fuB κ τ a (oldF τ a b) b) n - cbN (fuB κ τ a (oldF τ a b) b) (n - i) : Nat) : Int)), some (.inl (fsN (fuB κ τ a (oldF τ a b) b) (n - (n - i)) (n - i))), some (.inl ((n : Int) - 1 - i))], [], v) ∧ pc v = κ ∧ pm v = τ) (fun i hi t ht2 h => ?_) (fun t ht2 => ?_) 0 (Nat.zero_le _)
        · refine key _ ⟨w, ?_, hc, hm⟩
          rw [Nat.sub_zero, fsN_e, Nat.sub_self, show (n : Int) - 1 - ((0 : Nat) : Int) = (n : Int) - 1 by omega]
          rfl
        · obtain ⟨v, rfl, vc, vm⟩ := ht2
          refine bk_80_77 ?_
          obtain ⟨k, hk⟩ : ∃ k, n - i = k + 1 := ⟨n - i - 1, by omega⟩
          have hk2 : n - (i + 1) = k := by omega
          have hs := cb_s (fuB κ τ a (oldF τ a b) b) k
          have hcm := cb_m (fuB κ τ a (oldF τ a b) b) (show k + 1 ≤ n by omega)
          have hcb := cb_b (fuB κ τ a (oldF τ a b) b) n
          have hfs := fsN_s (P := fuB κ τ a (oldF τ a b) b) (show k < n by omega)
          have hx8 : (n : Int) - 1 - i = (k : Int) := by omega
          have hx9 : wr ((k : Int) + (-1)) = (n : Int) - 1 - ((i + 1 : Nat) : Int) := by rw [wr_id (by omega) (by omega)]; omega
          rw [hk, hx8, w3, hx9, if_neg (by omega)]
          have e5 : ∀ d', mayB κ τ k a (if oldF τ a b < 0 then -9 else oldF τ a b) d' = mayB κ τ k a (oldF τ a b) d' := fun d' => mayB_ct κ τ k a _ d'
          rw [hk2] at h
          refine CalI.to (isVoter_c vc vm hE hR ht (by omega) (by omega)) (by decide) ?_
          rintro _ x1 ⟨rfl, xc, xm, _⟩
          rw [e5]
          cases hb1 : mayB κ τ k a (oldF τ a b) b
          · have hf : fuB κ τ a (oldF τ a b) b k = false := by unfold fuB; rw [hb1]; rfl
            rw [hf] at hs hfs
            rw [if_pos (show bI false = 0 from rfl)]
            rw [if_neg (by decide)] at hs hfs
            rw [hfs] at h
            refine h _ ⟨x1, ?_, xc, xm⟩
            rw [show cbN (fuB κ τ a (oldF τ a b) b) k = cbN (fuB κ τ a (oldF τ a b) b) (k + 1) from hs.symm]
          · rw [if_neg (show ¬ bI true = 0 by decide)]
            refine CalI.to (isVoter_c xc xm hE hR ht (by omega) (by omega)) (by decide) ?_
            rintro _ x2 ⟨rfl, xc2, xm2, _⟩
            rw [e5]
            cases hb2 : mayB κ τ k a (oldF τ a b) (b - 365)
            · have hf : fuB κ τ a (oldF τ a b) b k = true := by unfold fuB; rw [hb1, hb2]; rfl
              rw [hf] at hs hfs
              rw [if_pos (show bI false = 0 from rfl)]
              rw [if_pos rfl] at hs hfs
              rw [hfs] at h
              refine h _ ⟨x2, ?_, xc2, xm2⟩
              rw [wr_s (by omega), show cbN (fuB κ τ a (oldF τ a b) b) n - cbN (fuB κ τ a (oldF τ a b) b) (k + 1) + 1 = cbN (fuB κ τ a (oldF τ a b) b) n - cbN (fuB κ τ a (oldF τ a b) b) k by omega]
            · have hf : fuB κ τ a (oldF τ a b) b k = false := by unfold fuB; rw [hb1, hb2]; rfl
              rw [hf] at hs hfs
              rw [if_neg (show ¬ bI true = 0 by decide)]
              rw [if_neg (by decide)] at hs hfs
              rw [hfs] at h
              refine h _ ⟨x2, ?_, xc2, xm2⟩
              rw [show cbN (fuB κ τ a (oldF τ a b) b) k = cbN (fuB κ τ a (oldF τ a b) b) (k + 1) from hs.symm]
        · obtain ⟨v, rfl, vc, vm⟩ := ht2
          refine bk_80_77 ?_
          rw [if_pos (by omega), Nat.sub_self, Nat.sub_zero, ← hQ]
          have e0 : cbN (fuB κ τ a (oldF τ a b) b) 0 = 0 := rfl
          rw [e0, Nat.sub_zero]
          refine ite_i (fun z => mid _ v vc vm (by rw [if_pos z])) (fun z => mid _ v vc vm (by rw [if_neg z]; rfl))
      · rw [if_neg (by omega)]
        (obtain ⟨rfl, hg⟩ | ⟨rfl, hg⟩ := hg);
        all_goals (refine en_194 ?_; repeat' (first | (rw [if_pos (by omega)]) | (rw [if_neg (by omega)]) | (refine And.intro (by first | omega | exact Or.inl trivial | exact Or.inr trivial | exact ⟨trivial, trivial⟩ | fail) ?_) | (refine CalT in_ok (by decide) (by omega) ?_) | (refine CalF in_ok (by decide) (by omega) ?_) | (refine CalT (isPlace_ok um hR) (by decide) (by omega) ?_) | (refine CalF (isPlace_ok um hR) (by decide) (by omega) ?_) | (refine CalT (isPerson_ok um hR) (by decide) (by omega) ?_) | (refine CalF (isPerson_ok um hR) (by decide) (by omega) ?_) | (refine CalT (isText_ok um hR) (by decide) (by omega) ?_) | (refine CalF (isText_ok um hR) (by decide) (by omega) ?_) | (refine CalT (isPetitionAt_ok um hR) (by decide) (by omega) ?_) | (refine CalF (isPetitionAt_ok um hR) (by decide) (by omega) ?_) | (refine CalT (isLine_ok um hR) (by decide) (by omega) ?_) | (refine CalF (isLine_ok um hR) (by decide) (by omega) ?_) | (refine CalT mIsKnot_ok (by decide) (by omega) ?_) | (refine CalF mIsKnot_ok (by decide) (by omega) ?_) | (refine CalT mIsNight_ok (by decide) (by omega) ?_) | (refine CalF mIsNight_ok (by decide) (by omega) ?_) | (refine bk_175_75 ?_) | (refine CalE.to bounds_ok (by decide) ?_) | (refine CalE.to wrongDays_ok (by decide) ?_) | (exact CalK (fin_rf hT hO uc um (by omega) (by omega)) (by decide)) | (exact CalK (fin_rfF hT hO uc um (by omega) (by omega)) (by decide)) | fail);;)
    · rw [if_pos rfl]
      refine CalI.to (refuse_ok hc hm (by omega)) (by decide) ?_; rintro _ u ⟨rfl, uc, um⟩;
      refine en_194 ?_
      repeat' (first | (rw [if_pos (by omega)]) | (rw [if_neg (by omega)]) | (refine And.intro (by first | omega | exact Or.inl trivial | exact Or.inr trivial | exact ⟨trivial, trivial⟩ | fail) ?_) | (refine CalT in_ok (by decide) (by omega) ?_) | (refine CalF in_ok (by decide) (by omega) ?_) | (refine CalT (isPlace_ok um hR) (by decide) (by omega) ?_) | (refine CalF (isPlace_ok um hR) (by decide) (by omega) ?_) | (refine CalT (isPerson_ok um hR) (by decide) (by omega) ?_) | (refine CalF (isPerson_ok um hR) (by decide) (by omega) ?_) | (refine CalT (isText_ok um hR) (by decide) (by omega) ?_) | (refine CalF (isText_ok um hR) (by decide) (by omega) ?_) | (refine CalT (isPetitionAt_ok um hR) (by decide) (by omega) ?_) | (refine CalF (isPetitionAt_ok um hR) (by decide) (by omega) ?_) | (refine CalT (isLine_ok um hR) (by decide) (by omega) ?_) | (refine CalF (isLine_ok um hR) (by decide) (by omega) ?_) | (refine CalT mIsKnot_ok (by decide) (by omega) ?_) | (refine CalF mIsKnot_ok (by decide) (by omega) ?_) | (refine CalT mIsNight_ok (by decide) (by omega) ?_) | (refine CalF mIsNight_ok (by decide) (by omega) ?_) | (refine bk_175_75 ?_) | (refine CalE.to bounds_ok (by decide) ?_) | (refine CalE.to wrongDays_ok (by decide) ?_) | (exact CalK (fin_rf hT hO uc um (by omega) (by omega)) (by decide)) | (exact CalK (fin_rfF hT hO uc um (by omega) (by omega)) (by decide)) | fail);
  · rw [if_pos rfl]
    refine CalI.to (refuse_ok hc hm (by omega)) (by decide) ?_; rintro _ u ⟨rfl, uc, um⟩;
    refine en_194 ?_
    repeat' (first | (rw [if_pos (by omega)]) | (rw [if_neg (by omega)]) | (refine And.intro (by first | omega | exact Or.inl trivial | exact Or.inr trivial | exact ⟨trivial, trivial⟩ | fail) ?_) | (refine CalT in_ok (by decide) (by omega) ?_) | (refine CalF in_ok (by decide) (by omega) ?_) | (refine CalT (isPlace_ok um hR) (by decide) (by omega) ?_) | (refine CalF (isPlace_ok um hR) (by decide) (by omega) ?_) | (refine CalT (isPerson_ok um hR) (by decide) (by omega) ?_) | (refine CalF (isPerson_ok um hR) (by decide) (by omega) ?_) | (refine CalT (isText_ok um hR) (by decide) (by omega) ?_) | (refine CalF (isText_ok um hR) (by decide) (by omega) ?_) | (refine CalT (isPetitionAt_ok um hR) (by decide) (by omega) ?_) | (refine CalF (isPetitionAt_ok um hR) (by decide) (by omega) ?_) | (refine CalT (isLine_ok um hR) (by decide) (by omega) ?_) | (refine CalF (isLine_ok um hR) (by decide) (by omega) ?_) | (refine CalT mIsKnot_ok (by decide) (by omega) ?_) | (refine CalF mIsKnot_ok (by decide) (by omega) ?_) | (refine CalT mIsNight_ok (by decide) (by omega) ?_) | (refine CalF mIsNight_ok (by decide) (by omega) ?_) | (refine bk_175_75 ?_) | (refine CalE.to bounds_ok (by decide) ?_) | (refine CalE.to wrongDays_ok (by decide) ?_) | (exact CalK (fin_rf hT hO uc um (by omega) (by omega)) (by decide)) | (exact CalK (fin_rfF hT hO uc um (by omega) (by omega)) (by decide)) | fail);
end
