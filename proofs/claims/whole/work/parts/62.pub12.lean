/-! count -/
def heN (τ : Wd) : Nat → Int
  | 0 => 0
  | n + 1 => heN τ n + (if τ 158 n = 0 then 1 else 0)
def heF (τ : Wd) : Int := heN τ (τ 12 13).toNat
theorem heN_s (τ : Wd) (n : Nat) : heN τ (n + 1) = heN τ n + (if τ 158 n = 0 then 1 else 0) := rfl
theorem heN_b (τ : Wd) (n : Nat) : 0 ≤ heN τ n ∧ heN τ n ≤ n := by
  induction n with
  | zero => exact ⟨Int.le_refl _, Int.le_refl _⟩
  | succ n ih =>
    rw [heN_s]
    split <;> omega
section
variable {w κ τ : Wd} {T : Wd → Wd → Prop}
theorem here_ok (hc : pc w = κ) (hE : EQ κ τ) (hR : RNG τ) : Cal 1 155 [.inr (.inr 3)] w (rI fun y u => y = heF τ ∧ u = w) := by
  have hb := hR.M_people
  have e1 := (r3_5 hc).trans hE.People_size
  generalize hQ : (rI fun y u => y = heF τ ∧ u = w) = Q
  have key := Ev.count (sc := none) (C := Cal 0) (cdk := cd 155) (Q := Q) (N := (τ 12 13).toNat) (S := fun i => (4, [some (.inr (.inr 3)), some (.inl (heN τ i)), some (.inl (i : Int))], [], w)) (fun i hi h => ?_) ?_ 0 (Nat.zero_le _)
  · exact en_155 key
  · refine bk_155_4 ?_
    have h3 := heN_b τ i
    have h4 : w 58 i = τ 158 i := (r58 hc i).trans (hE.People_away i)
    simp only [e1, tn, h4]
    rw [if_pos (by omega), wr_s (by omega), wr_id (x := _ + 1) (by omega) (by omega)]
    refine ⟨by omega, ?_⟩
    split
    all_goals refine h.cast ?_
    all_goals (simp [heN_s, *])
  · refine bk_155_4 ?_
    simp only [e1]
    rw [if_neg (by omega), ← hQ]
    exact ⟨rfl, rfl⟩
theorem mhere_l (hm : pm w = τ) (hR : RNG τ) {d : Nat} {Q : Option AV → Wd → Prop} (hQ : Q (some (.inl (heF τ))) w) : Ev none (Cal d) (cd 246) Q (105, [some (.inr (.inr 12)), none, some (.inl 0), some (.inl 0)], [], w) := by
  have hb := hR.M_people
  have key := Ev.count (sc := none) (C := Cal d) (cdk := cd 246) (Q := Q) (N := (τ 12 13).toNat) (S := fun i => (105, [some (.inr (.inr 12)), none, some (.inl (heN τ i)), some (.inl (i : Int))], [], w)) (fun i hi h => ?_) ?_ 0 (Nat.zero_le _)
  · exact key
  · refine bk_246_105 ?_
    have h3 := heN_b τ i
    have h4 : w 158 i = τ 158 i := r158 hm i
    simp only [r12_13 hm, tn, h4]
    rw [if_pos (by omega), wr_s (by omega), wr_id (x := _ + 1) (by omega) (by omega), wr_id (x := _ + 0) (by omega) (by omega)]
    refine ⟨by omega, ?_⟩
    split
    all_goals refine h.cast ?_
    all_goals (simp [heN_s, *])
  · refine bk_246_105 ?_
    simp only [r12_13 hm]
    rw [if_neg (by omega)]
    exact hQ
theorem both_count (hO : OKW T w) {a : Int} : Cal 12 154 [.inr (.inr 11), .inl a] w (rI fun x u => Cal 12 246 [.inr (.inr 12), .inl a] u (rI fun y v => x = y ∧ OKW T v)) := by
  have hO2 := hO
  obtain ⟨κ, hc⟩ : ∃ κ, pc w = κ := ⟨_, rfl⟩
  obtain ⟨τ, hm⟩ : ∃ τ, pm w = τ := ⟨_, rfl⟩
  unfold OKW at hO
  rw [hc, hm] at hO
  obtain ⟨hE, hR, ht⟩ := id hO
  by_cases h : 11 ≤ a ∧ a ≤ 16
  · obtain ⟨n, hn⟩ : ∃ n : Nat, a - 11 = (n : Int) := ⟨(a - 11).toNat, by omega⟩
    have f1 : w 141 n = w 166 (n + 1) := ((r141 hc n).trans (hE.refu n)).trans (r166 hm (n + 1)).symm
    refine en_154 ?_
    rw [if_neg (by omega), if_neg (by omega), wr_id (x := a - 11) (by omega) (by omega), hn, tn]
    refine ⟨by omega, ?_⟩
    refine en_246 ?_
    rw [wr_id (x := a - 10) (by omega) (by omega), show a - 10 = ((n + 1 : Nat) : Int) by omega, tn]
    obtain q | q | q | q | q | q := (show a = 11 ∨ a = 12 ∨ a = 13 ∨ a = 14 ∨ a = 15 ∨ a = 16 by omega)
    all_goals (
      repeat (first | rw [if_neg (by omega)] | (rw [if_pos (by omega)]; refine CalT in_ok (by decide) (by omega) ?_; rw [if_neg (by decide)]) | fail)
      exact ⟨by omega, f1, hO2⟩)
  · have h5 : a < 11 ∨ 16 < a := by omega
    have f0 : w 11 15 = w 12 0 := ((r11_15 hc).trans hE.R_today).trans (r12_0 hm).symm
    have f1 : w 11 14 = w 12 87 := ((r11_14 hc).trans hE.R_rowSize).trans (r12_87 hm).symm
    have f2 : w 5 4 = w 12 1 := ((r5_4 hc).trans hE.Places_size).trans (r12_1 hm).symm
    have f3 : w 7 5 = w 12 5 := ((r7_5 hc).trans hE.Rolls_size).trans (r12_5 hm).symm
    have f4 : w 3 5 = w 12 13 := ((r3_5 hc).trans hE.People_size).trans (r12_13 hm).symm
    have f5 : w 3 12 = w 12 19 := ((r3_12 hc).trans hE.People_rights).trans (r12_19 hm).symm
    have f6 : w 9 1 = w 12 30 := ((r9_1 hc).trans hE.Tape_size).trans (r12_30 hm).symm
    have f7 : w 10 2 = w 12 31 := ((r10_2 hc).trans hE.Texts_size).trans (r12_31 hm).symm
    have f8 : w 4 2 = w 12 32 := ((r4_2 hc).trans hE.Petitions_size).trans (r12_32 hm).symm
    have f9 : w 8 3 = w 12 50 := ((r8_3 hc).trans hE.Sales_size).trans (r12_50 hm).symm
    have f10 : w 2 1 = w 12 57 := ((r2_1 hc).trans hE.Members_size).trans (r12_57 hm).symm
    have f11 : w 0 4 = w 12 61 := ((r0_4 hc).trans hE.Bill_size).trans (r12_61 hm).symm
    have key : Ev none (Cal 11) (cd 154) (rI fun x u => Cal 12 246 [.inr (.inr 12), .inl a] u (rI fun y v => x = y ∧ OKW T v)) (22, [some (.inr (.inr 11)), some (.inl a)], [], w) := by
      refine bk_154_22 ?_
      repeat' (first | refine ite_i (fun _ => ?_) (fun _ => ?_) | fail)
      all_goals try (exfalso; omega)
      all_goals try (refine CalE.to (here_ok hc hE hR) (by decide) ?_)
      all_goals refine en_246 ?_
      all_goals (
        repeat (first | rw [if_neg (by omega)] | rw [if_pos (by omega)] | fail)
        first
        | exact ⟨by assumption, hO2⟩
        | exact ⟨rfl, hO2⟩
        | (refine mhere_l hm hR ?_; exact ⟨rfl, hO2⟩)
        | (refine CalF in_ok (by decide) (by omega) ?_; rw [if_pos rfl]; exact ⟨rfl, hO2⟩))
    refine en_154 ?_
    refine ite_i (fun _ => key) (fun _ => ?_)
    refine ite_i (fun _ => key) (fun _ => ?_)
    exfalso
    omega
end
