/-! the facts, as the class gathers them -/
section
variable {w κ τ : Wd}
/-- the facts after n rights, in the class's row -/
def FI (τ : Wd) (who p d : Int) (n : Nat) (u : Wd) : Prop := u 65 0 = (fcN τ who p d n).1 ∧ u 65 1 = (fcN τ who p d n).2.1 ∧ u 65 2 = (fcN τ who p d n).2.2.1 ∧ u 65 3 = fcF τ who p d 3
theorem addToFacts_ok (hc : pc w = κ) (hm : pm w = τ) (hE : EQ κ τ) (hR : RNG τ) {who p d : Int} (hd : -365 ≤ d ∧ d ≤ 2000) {i : Nat} (hi : (i : Int) < τ 12 19) (hI : FI τ who p d i w) (ha : τ 159 i = who ∧ τ 160 i = p ∧ τ 163 i ≤ d ∧ d < τ 164 i) : Cal 1 79 [.inr (.inr 3), .inl (i : Int), .inl d] w (rV fun u => FI τ who p d (i + 1) u ∧ pc u = κ ∧ pm u = τ) := by
  refine en_79 ?_
  obtain ⟨u0, u1, u2, u3⟩ := hI
  have hb := hR.M_rights
  have b := fcN_b hR who p d hd.2 i
  have h1 := hR.M_gSince i
  have h2 := hR.M_gSize i
  have h3 := hR.M_gKind i
  simp only [r61 hc, hE.People_rightKinds, r63 hc, hE.People_rightSinces, r62 hc, hE.People_rightValues, tn, u0, u1, u2]
  have hwr : τ 161 i = 1 → wr ((fcN τ who p d i).2.1 + τ 162 i) = (fcN τ who p d i).2.1 + τ 162 i := fun q => wr_id (by omega) (by omega)
  rw [wr_id (x := d - τ 163 i) (by omega) (by omega), wr_id (x := d - τ 163 i + 1) (by omega) (by omega)]
  repeat' (first | split | (refine And.intro (by first | omega | exact Or.inl trivial | exact Or.inr trivial | exact ⟨trivial, trivial⟩ | fail) ?_) | fail)
  all_goals refine ⟨⟨?_, ?_, ?_, ?_⟩, ?_, ?_⟩
  all_goals (first | (rw [pc_out rfl]; exact hc) | (rw [pm_out rfl]; exact hm) | skip)
  all_goals (first | (rw [fcN_s, if_pos ha] <;> (simp [wst_ap, *]; done)) | (rw [fcN_s, if_pos ha] <;> (simp [wst_ap, *]; omega)) | (simp [wst_ap, *]; done) | skip)
  all_goals (have hk : τ 161 i = 2 := by omega)
  all_goals (rw [fcN_s, if_pos ha]; simp only [wst_ap, hk]; simp <;> (repeat' split) <;> omega)
theorem gather_ok (hc : pc w = κ) (hm : pm w = τ) (hE : EQ κ τ) (hR : RNG τ) {who p d : Int} (hd : -365 ≤ d ∧ d ≤ 2000) (hw : 0 ≤ who ∧ who < 40) : Cal 2 78 [.inr (.inr 3), .inl who, .inl p, .inl d] w (rV fun u => (∀ i, i < 5 → u 65 i = fcF τ who p d i) ∧ pc u = κ ∧ pm u = τ) := by
  have hb := hR.M_rights
  generalize hQ : (rV fun u => (∀ i, i < 5 → u 65 i = fcF τ who p d i) ∧ pc u = κ ∧ pm u = τ) = Q
  have key := Ev.inv (sc := none) (C := Cal 1) (cdk := cd 78) (Q := Q) (N := (τ 12 19).toNat) (I := fun i s => ∃ u : Wd, s = (66, [some (.inr (.inr 3)), some (.inl who), some (.inl p), some (.inl d), none, some (.inl (fcN τ who p d i).2.2.2), some (.inl (i : Int)), none], [], u) ∧ pc u = κ ∧ pm u = τ ∧ FI τ who p d i u) (fun i hi s hs h => ?_) (fun s hs => ?_) 0 (Nat.zero_le _)
  · refine en_78 ?_
    refine CalVE.to (fill_ok (n := 5) rfl (by omega)) (by decide) ?_
    have fc : pc (fil w 65 0 (5 : Int).toNat) = κ := (fil_msk (fun _ => rfl)).trans hc
    have fm : pm (fil w 65 0 (5 : Int).toNat) = τ := (fil_msk (fun _ => rfl)).trans hm
    have h4 := hR.M_since who.toNat
    simp only [r54 fc, hE.People_homes, r55 fc, hE.People_sinces]
    rw [wr_id (x := d - τ 155 who.toNat) (by omega) (by omega), wr_id (x := d - τ 155 who.toNat + 1) (by omega) (by omega)]
    repeat' (first | split | (refine And.intro (by first | omega | exact Or.inl trivial | exact Or.inr trivial | exact ⟨trivial, trivial⟩ | fail) ?_) | fail)
    all_goals refine key _ ⟨_, rfl, ?_, ?_, ?_⟩
    all_goals (first | (rw [pc_out rfl]; exact fc) | (rw [pm_out rfl]; exact fm) | skip)
    all_goals unfold FI
    all_goals (simp [wst_ap, fil_ap, fcN, fcF, *] <;> omega)
  · obtain ⟨u, rfl, uc, um, uf⟩ := hs
    refine bk_78_66 ?_
    have he := hE.ends i
    simp only [r3_12 uc, hE.People_rights, r59 uc, hE.People_rightPersons, r60 uc, hE.People_rightPlaces, r63 uc, hE.People_rightSinces, r64 uc, r61 uc, hE.People_rightKinds, tn, wr_s (show i < 2000000 by omega)]
    rw [if_pos (by omega)]
    have hno : ∀ (x : Int), ¬ (τ 159 i = who ∧ τ 160 i = p ∧ τ 163 i ≤ d ∧ d < τ 164 i) → x = (fcN τ who p d i).2.2.2 → Ev none (Cal 1) (cd 78) Q (66, [some (.inr (.inr 3)), some (.inl who), some (.inl p), some (.inl d), none, some (.inl x), some (.inl ((i + 1 : Nat) : Int)), none], [], u) := fun x hn e => h _ ⟨u, by rw [fcN_s, if_neg hn, e], uc, um, by unfold FI at uf ⊢; rw [fcN_s, if_neg hn]; exact uf⟩
    repeat' (first | split | (refine And.intro (by first | omega | exact Or.inl trivial | exact Or.inr trivial | exact ⟨trivial, trivial⟩ | fail) ?_) | fail)
    all_goals (first | exact hno _ (by omega) rfl | skip)
    have ha : τ 159 i = who ∧ τ 160 i = p ∧ τ 163 i ≤ d ∧ d < τ 164 i := by omega
    refine CalV.to (addToFacts_ok uc um hE hR hd (by omega) uf ha) (by decide) ?_
    rintro v ⟨v1, v2, v3⟩
    exact h _ ⟨v, by rw [fcN_s, if_pos ha], v2, v3, v1⟩
  · obtain ⟨u, rfl, uc, um, u0, u1, u2, u3⟩ := hs
    refine bk_78_66 ?_
    simp only [r3_12 uc, hE.People_rights]
    rw [if_neg (by omega)]
    subst hQ
    repeat' (first | split | (refine And.intro (by first | omega | exact Or.inl trivial | exact Or.inr trivial | exact ⟨trivial, trivial⟩ | fail) ?_) | fail)
    all_goals (refine ⟨fun i hi => ?_, ?_, ?_⟩)
    all_goals (first | (rw [pc_out rfl]; exact uc) | (rw [pm_out rfl]; exact um) | skip)
    all_goals (obtain rfl | rfl | rfl | rfl | rfl : i = 0 ∨ i = 1 ∨ i = 2 ∨ i = 3 ∨ i = 4 := by omega)
    all_goals (first | (simp [wst_ap, u3]; done) | (simp [wst_ap, fcF, *]))
end
