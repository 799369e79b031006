/-! texts and petitions: what the class keeps is what the reference wrote -/
def nT (τ : Wd) (t : Nat) : Nat := (τ 170 t).toNat
def hdT (τ : Wd) (t : Nat) : Nat → Int := hdF (fun i => τ 169 (40 * t + i)) (nT τ t)
def WTX (κ τ : Wd) (t : Nat) (T : List Int) : Prop := DER 0 (hdT τ t) 3 0 0 true (nT τ t) T ∧ κ 140 t = (T.length : Int) ∧ ∀ k x, T[k]? = some x → κ (120 + t) k = x
/-- a set of facts -/
def fS (s : Nat) (k : Nat) : Int := if s.testBit k = true then 1 else 0
def PTX (κ τ : Wd) (p : Nat) (T : List Int) : Prop := DER 1 (hdT τ (20 + p)) 3 0 0 true (nT τ (20 + p)) T ∧ ∃ z : Nat, κ 66 p = (z : Int) ∧ z < 65536 ∧ ∀ s, s < 16 → z.testBit s = vlF (fS s) 4 T
def TXT (κ τ : Wd) : Prop := (∀ j, 0 ≤ τ 169 j ∧ τ 169 j ≤ 255) ∧ (∀ t : Nat, (t : Int) < τ 12 31 → t < 20 ∧ ∃ T, WTX κ τ t T) ∧ (∀ p : Nat, (p : Int) < τ 12 32 → ∃ T, PTX κ τ p T) ∧ ∀ p : Nat, τ 12 32 ≤ (p : Int) → κ 66 p = 0
theorem hdT_c {τ τ' : Wd} {t : Nat} (h1 : τ' 170 t = τ 170 t) (h2 : ∀ i, i < nT τ t → τ' 169 (40 * t + i) = τ 169 (40 * t + i)) : hdT τ' t = hdT τ t ∧ nT τ' t = nT τ t := by
  have e : nT τ' t = nT τ t := by unfold nT; rw [h1]
  refine ⟨?_, e⟩
  funext i
  unfold hdT hdF
  rw [e]
  by_cases q : i < nT τ t
  · rw [if_pos q, if_pos q]
    exact h2 i q
  · rw [if_neg q, if_neg q]
theorem TXT_fr : TFr TXT := by
  intro κ κ' τ τ' h hx
  obtain ⟨_, h1, h2, _, h3, h4, h5, h6, h7⟩ := h
  obtain ⟨x1, x2, x3, x4⟩ := hx
  have hh : ∀ t, hdT τ' t = hdT τ t ∧ nT τ' t = nT τ t := fun t => hdT_c (by rw [h7]) (fun i _ => by rw [h6])
  refine ⟨fun j => by rw [h6]; exact x1 j, fun t ht => ?_, fun p hp => ?_, fun p hp => ?_⟩
  · rw [h4] at ht
    obtain ⟨q, T, t1, t2, t3⟩ := x2 t ht
    refine ⟨q, T, ?_, ?_, fun k x hk => ?_⟩
    · rw [(hh t).1, (hh t).2]; exact t1
    · rw [h1]; exact t2
    · have := h2 t q
      rw [show 119 + 1 + t = 120 + t by omega] at this
      rw [this]
      exact t3 k x hk
  · rw [h5] at hp
    obtain ⟨T, t1, t2⟩ := x3 p hp
    refine ⟨T, ?_, ?_⟩
    · rw [(hh (20 + p)).1, (hh (20 + p)).2]; exact t1
    · rw [h3]; exact t2
  · rw [h3]
    rw [h5] at hp
    exact x4 p hp
theorem hdT_ok {κ τ : Wd} (hx : TXT κ τ) (t : Nat) : HOK (hdT τ t) (nT τ t) := hdF_ok (fun i => hx.1 _) _
theorem nT_40 {τ : Wd} (hR : RNG τ) (t : Nat) : τ 170 t = (nT τ t : Int) ∧ nT τ t ≤ 40 := by
  have := hR.M_writtenMany t
  unfold nT
  omega
/-- the steps that the class keeps of a text -/
def stL (κ : Wd) (t : Nat) : List Int := (List.range (κ 140 t).toNat).map (κ (120 + t))
theorem stL_e {κ τ : Wd} {t : Nat} {T : List Int} (h : WTX κ τ t T) : stL κ t = T := by
  obtain ⟨_, h2, h3⟩ := h
  unfold stL
  rw [h2, tn]
  apply List.ext_getElem?
  intro k
  rw [List.getElem?_map]
  rcases Nat.lt_or_ge k T.length with g | g
  · rw [List.getElem?_range g, List.getElem?_eq_getElem g]
    show some _ = some _
    rw [h3 k T[k] (List.getElem?_eq_getElem g)]
  · rw [List.getElem?_eq_none g, List.getElem?_eq_none (by rw [List.length_range]; exact g)]
    rfl
/-- MAY VOTE -/
noncomputable def mayB (κ τ : Wd) (who : Nat) (p t d : Int) : Bool := if τ 158 who = 0 ∧ 0 ≤ t ∧ t < τ 12 31 then vlF (fcF τ who p d) 5 (stL κ t.toNat) else false
theorem shq_rul : ∀ t : Nat, t < 20 → shq (120 + t) = .inl (0, 40) := by decide +kernel
theorem isC_rul : ∀ t : Nat, t < 20 → ∀ j, isC (120 + t) j = true := by
  intro t ht j
  have h : ∀ t : Nat, t < 20 → isC (120 + t) = fun _ => true := by
    intro t ht
    rcases (by omega : t = 0 ∨ t = 1 ∨ t = 2 ∨ t = 3 ∨ t = 4 ∨ t = 5 ∨ t = 6 ∨ t = 7 ∨ t = 8 ∨ t = 9 ∨ t = 10 ∨ t = 11 ∨ t = 12 ∨ t = 13 ∨ t = 14 ∨ t = 15 ∨ t = 16 ∨ t = 17 ∨ t = 18 ∨ t = 19) with rfl | rfl | rfl | rfl | rfl | rfl | rfl | rfl | rfl | rfl | rfl | rfl | rfl | rfl | rfl | rfl | rfl | rfl | rfl | rfl
    all_goals rfl
  rw [h t ht]
theorem FRR_pm {w0 v : Wd} (h : FRR w0 v) : pm v = pm w0 := by
  funext c j
  show cond (isM c j) (v c j) 0 = cond (isM c j) (w0 c j) 0
  by_cases q : c = 12
  · subst q
    by_cases q1 : j = 39
    · subst q1; rfl
    · by_cases q2 : j = 40
      · subst q2; rfl
      · by_cases q3 : j = 41
        · subst q3; rfl
        · by_cases q4 : j = 43
          · subst q4; rfl
          · by_cases q5 : j = 45
            · subst q5; rfl
            · rw [h.2 j q1 q2 q3 q4 q5]
  · by_cases q1 : c = 171
    · subst q1; rfl
    · by_cases q2 : c = 172
      · subst q2; rfl
      · rw [h.1 c q q1 q2]
theorem FRR_pc {w0 v : Wd} (h : FRR w0 v) : pc v = pc w0 := by
  funext c j
  show cond (isC c j) (v c j) 0 = cond (isC c j) (w0 c j) 0
  by_cases q : c = 12
  · subst q; rfl
  · by_cases q1 : c = 171
    · subst q1; rfl
    · by_cases q2 : c = 172
      · subst q2; rfl
      · rw [h.1 c q q1 q2]
section
variable {w κ τ : Wd}
theorem isVoter_c (hc : pc w = κ) (hm : pm w = τ) (hE : EQ κ τ) (hR : RNG τ) (hX : TXT κ τ) {who : Nat} {p t d : Int} (hw : (who : Int) < τ 12 13) (hd : -365 ≤ d ∧ d ≤ 2000) : Cal 4 77 [.inr (.inr 11), .inl who, .inl p, .inl t, .inl d] w (rI fun y u => y = bI (mayB κ τ who p t d) ∧ pc u = κ ∧ pm u = τ ∧ ∀ c, ¬ c = 65 → u c = w c) := by
  have hp := hR.M_people
  have ht := hR.M_texts
  refine en_77 ?_
  refine CalT (peopleHas_ok hc hE) (by decide) (by omega) ?_
  have e : w 58 who = τ 158 who := (r58 hc who).trans (hE.People_away who)
  rw [if_neg (by decide)]
  simp only [tn, e]
  refine ⟨by omega, ?_⟩
  unfold mayB
  refine ite_i (fun q => ?_) (fun q => ?_)
  · refine CalB (textsHas_ok hc hE) (by decide) (fun r => ?_) (fun r => ?_)
    · rw [if_neg (by decide), if_pos ⟨q, r⟩]
      refine CalV.to (gatherK_ok hc hm hE hR hd (by omega)) (by decide) ?_
      rintro u ⟨hf, uc, um, uo⟩
      obtain ⟨a, rfl⟩ : ∃ a : Nat, t = (a : Int) := ⟨t.toNat, by omega⟩
      obtain ⟨_, T, hT⟩ := hX.2.1 a r.2
      have hok := hdT_ok hX a
      have hdb := der_b hok hT.1 (Nat.zero_le _)
      have hdl := hdb.2.2 rfl
      have hn := nT_40 hR a
      have hel : u 140 a = (T.length : Int) := (r140 uc a).trans hT.2.1
      simp only [tn]
      rw [stL_e hT, hel]
      refine ⟨by omega, by omega, ?_⟩
      have hrow : ∀ k x, T[k]? = some x → u (120 + a) k = x := fun k x hk => (mk_rd uc (isC_rul a (by omega) k)).trans (hT.2.2 k x hk)
      refine CalE.to (decide_c (m := 5) (f := fcF τ who p d) (shq_rul a (by omega)) rfl (by decide) (fun k hk => hf k (by omega)) hrow (by omega) (by omega) (der_s hok hT.1 (Nat.zero_le _) rfl) ⟨_, der_r hok _ _ hT.1 (Nat.zero_le _) []⟩ rfl) (by decide) ?_
      refine ⟨?_, rfl, uc, um, uo⟩
      cases vlF (fcF τ who p d) 5 T <;> decide
    · rw [if_pos rfl, if_neg (fun z => r z.2)]
      exact ⟨by decide, rfl, hc, hm, fun _ _ => rfl⟩
  · rw [if_neg (fun z => q z.1)]
    exact ⟨by decide, rfl, hc, hm, fun _ _ => rfl⟩
theorem doesHold_c (hm : pm w = τ) (hR : RNG τ) (hb : ∀ j, 0 ≤ τ 169 j ∧ τ 169 j ≤ 255) {t : Nat} {pt : Int} (ht : (t < 20 ∧ pt = 0) ∨ (20 ≤ t ∧ t < 30 ∧ pt = 1)) {f : Nat → Int} (hf : ∀ k, k < 5 → w 167 k = f k) {T : List Int} (hd : DER pt (hdT τ t) 3 0 0 true (nT τ t) T) {K : Int → Wd → Prop} (hK : ∀ v, pc v = pc w → pm v = τ → (∀ c, ¬ c = 12 → ¬ c = 171 → ¬ c = 172 → v c = w c) → K (bI (vlF f (mF pt) T)) v) : Cal 5 193 [.inr (.inr 12), .inl t] w (rI K) := by
  have hn := nT_40 hR t
  have h170 : w 170 t = (nT τ t : Int) := (r170 hm t).trans hn.1
  have b01 : ∀ b : Bool, bI b = 0 ∨ bI b = 1 := fun b => by cases b <;> decide
  have fin : ∀ p' : Int, p' = pt → Cal 4 179 [.inr (.inr 12)] (wst (wst (wst (wst w 12 35 1) 12 36 p') 12 37 ((40 * t : Nat) : Int)) 12 38 (nT τ t : Int)) (rI fun v1 w1 => (v1 = 0 ∨ v1 = 1) ∧ K v1 w1) := by
    rintro p' rfl
    generalize hw0 : wst (wst (wst (wst w 12 35 1) 12 36 p') 12 37 ((40 * t : Nat) : Int)) 12 38 (nT τ t : Int) = w0
    have c0 : pc w0 = pc w := by rw [← hw0, pc_out rfl, pc_out rfl, pc_out rfl, pc_out rfl]
    have m0 : pm w0 = τ := by rw [← hw0, pm_out rfl, pm_out rfl, pm_out rfl, pm_out rfl]; exact hm
    have o0 : ∀ c, ¬ c = 12 → w0 c = w c := by
      intro c hc
      rw [← hw0]
      exact off_w (off_w (off_w (off_w (fun _ _ => rfl)))) c hc
    have hH : HTR w0 (nT τ t) (hdT τ t) p' f := by
      refine ⟨by rw [← hw0]; rfl, hn.2, Or.inr ⟨by rw [← hw0]; show ¬ (1 : Int) = 0; decide, ?_, ?_, fun i hi => ?_⟩, hdF_ok (fun i => hb _) _, by rw [← hw0]; rfl, by omega, fun k hk => by rw [o0 167 (by decide)]; exact hf k hk⟩
      · rw [← hw0]; show 0 ≤ ((40 * t : Nat) : Int); omega
      · rw [← hw0]; show ((40 * t : Nat) : Int) ≤ 1160; omega
      · have e37 : w0 12 37 = ((40 * t : Nat) : Int) := by rw [← hw0]; rfl
        rw [e37, show ((40 * t : Nat) : Int) + (i : Int) = ((40 * t + i : Nat) : Int) by omega, tn]
        unfold hdT hdF
        rw [if_pos hi]
        exact r169 m0 (40 * t + i)
    refine readRule_c hH ⟨fun _ _ _ _ => rfl, fun _ _ _ _ _ _ => rfl⟩ hd (fun _ _ v hv _ => ?_) (fun g => absurd ⟨rfl, rfl⟩ g)
    exact ⟨b01 _, hK v ((FRR_pc hv).trans c0) ((FRR_pm hv).trans m0) (fun c c1 c2 c3 => (hv.1 c c1 c2 c3).trans (o0 c c1))⟩
  refine en_193 ?_
  have w1 : wr (40 * (t : Int)) = ((40 * t : Nat) : Int) := by rw [wr_id (by omega) (by omega)]; omega
  have e170 : ∀ x : Int, (wst (wst (wst w 12 35 1) 12 36 x) 12 37 ((40 * t : Nat) : Int)) 170 t = (nT τ t : Int) := fun x => h170
  refine ⟨by decide, ?_⟩
  rw [w1, tn, e170, e170]
  rcases ht with ⟨h1, h2⟩ | ⟨h1, h2, h3⟩
  · rw [if_pos (by omega)]
    exact ⟨by decide, by omega, fin 0 h2.symm⟩
  · rw [if_neg (by omega)]
    exact ⟨by decide, by omega, fin 1 h3.symm⟩
theorem mayBy_c (hm : pm w = τ) (hR : RNG τ) (hX : TXT κ τ) {who : Nat} {p t d : Int} (hw : (who : Int) < τ 12 13) (ht : t < max 0 (τ 12 31)) (hd : -365 ≤ d ∧ d ≤ 2000) : Cal 6 191 [.inr (.inr 12), .inl who, .inl p, .inl t, .inl d] w (rI fun y u => y = bI (mayB κ τ who p t d) ∧ pc u = pc w ∧ pm u = τ ∧ ∀ c, ¬ c = 12 → ¬ c = 167 → ¬ c = 171 → ¬ c = 172 → u c = w c) := by
  have hp := hR.M_people
  have htx := hR.M_texts
  have b01 : ∀ b : Bool, bI b = 0 ∨ bI b = 1 := fun b => by cases b <;> decide
  refine en_191 ?_
  simp only [tn, r158 hm]
  refine ⟨by omega, ?_⟩
  unfold mayB
  refine ite_i (fun q => ?_) (fun q => ?_)
  · refine ite_i (fun r => ?_) (fun r => ?_)
    · rw [if_neg (fun z => by omega)]
      exact ⟨by decide, rfl, rfl, hm, fun _ _ _ _ _ => rfl⟩
    · rw [if_pos ⟨q, by omega, by omega⟩]
      refine CalV.to (findFactsK_ok hm hR hd (by omega)) (by decide) ?_
      rintro u ⟨hf, um, uc, uo⟩
      obtain ⟨a, rfl⟩ : ∃ a : Nat, t = (a : Int) := ⟨t.toNat, by omega⟩
      obtain ⟨_, T, hT⟩ := hX.2.1 a (by omega)
      rw [tn, stL_e hT]
      refine CalK (doesHold_c um hR hX.1 (Or.inl ⟨by omega, rfl⟩) hf hT.1 (fun v vc vm vo => ?_)) (by decide)
      exact ⟨b01 _, rfl, vc.trans uc, vm, fun c c1 c2 c3 c4 => (vo c c1 c3 c4).trans (uo c c2)⟩
  · rw [if_neg (fun z => q z.1)]
    exact ⟨by decide, rfl, rfl, hm, fun _ _ _ _ _ => rfl⟩
theorem mayB_ct (κ τ : Wd) (who : Nat) (p t d : Int) : mayB κ τ who p (ct t) d = mayB κ τ who p t d := by
  unfold ct
  by_cases q : t < 0
  · rw [if_pos q]
    unfold mayB
    rw [if_neg (fun z => by omega), if_neg (fun z => by omega)]
  · rw [if_neg q]
end
