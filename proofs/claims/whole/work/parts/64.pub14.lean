/-! falls -/
section
variable {w κ τ : Wd} {T : Wd → Wd → Prop}
def alF (τ : Wd) : Int := wr (ishl 1 (τ 12 61) - 1)
theorem all_ok (hc : pc w = κ) (hE : EQ κ τ) : Cal 1 109 [.inr (.inr 0)] w (rI fun y u => y = alF τ ∧ u = w) := by
  have e1 := (r0_4 hc).trans hE.Bill_size
  refine en_109 ?_
  simp only [e1]
  exact ⟨rfl, rfl⟩
theorem mall_ok (hm : pm w = τ) : Cal 1 215 [.inr (.inr 12)] w (rI fun y u => y = alF τ ∧ u = w) := by
  refine en_215 ?_
  simp only [r12_61 hm]
  exact ⟨rfl, rfl⟩
theorem allBut_ok (hc : pc w = κ) (hE : EQ κ τ) {x : Int} : Cal 2 115 [.inr (.inr 0), .inl x] w (rI fun y u => y = iand (alF τ) (ixor (ishl 1 x) (-1)) ∧ u = w) := by
  refine en_115 ?_
  refine CalE.to (all_ok hc hE) (by decide) ?_
  exact ⟨rfl, rfl⟩
theorem both_falls (hT : TFr T) (hO : OKW T w) {a : Int} : Cal 12 113 [.inr (.inr 11), .inl a] w (rI fun x u => Cal 12 213 [.inr (.inr 12), .inl a] u (rI fun y v => x = y ∧ OKW T v)) := by
  have hO2 := hO
  obtain ⟨κ, hc⟩ : ∃ κ, pc w = κ := ⟨_, rfl⟩
  obtain ⟨τ, hm⟩ : ∃ τ, pm w = τ := ⟨_, rfl⟩
  unfold OKW at hO
  rw [hc, hm] at hO
  obtain ⟨hE, hR, ht⟩ := id hO
  refine en_113 ?_
  refine CalB (billHas_ok hc hE) (by decide) (fun q => ?_) (fun q => ?_)
  · rw [if_neg (by decide)]
    refine CalE.to (all_ok hc hE) (by decide) ?_
    refine CalE.to (allBut_ok hc hE) (by decide) ?_
    refine CalE.to (standing_ok hc hE hR) (by decide) ?_
    refine en_213 ?_
    refine CalT (isLine_ok hm hR) (by decide) (by omega) ?_
    rw [if_neg (by decide)]
    refine CalE.to (mall_ok hm) (by decide) ?_
    refine CalE.to (mall_ok hm) (by decide) ?_
    refine CalE.to (mstanding_ok hm hR) (by decide) ?_
    exact ⟨rfl, hO2⟩
  · rw [if_pos rfl]
    refine CalI.to (refuse_ok hc hm (by omega)) (by decide) ?_; rintro _ u ⟨rfl, uc, um⟩;
    refine en_213 ?_
    refine CalF (isLine_ok um hR) (by decide) (by omega) ?_
    rw [if_pos rfl]
    exact CalK (fin_rf hT hO uc um (by omega) rfl) (by decide)
end
