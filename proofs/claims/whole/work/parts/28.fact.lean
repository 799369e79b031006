/-! Arrays.fill; the facts of a person in a place on a day -/
def fil (w : Wd) (a : Nat) (v : Int) (n : Nat) : Wd := fun c j => if c = a ∧ j < n then v else w c j
theorem fil_ap (w : Wd) (a n : Nat) (v : Int) (c j : Nat) : fil w a v n c j = if c = a ∧ j < n then v else w c j := rfl
theorem fil_s (w : Wd) (a n : Nat) (v : Int) : wst (fil w a v n) a n v = fil w a v (n + 1) := by
  funext c j
  unfold wst fil
  by_cases h : c = a
  · subst h
    by_cases h1 : j = n
    · simp [h1]
    · by_cases h2 : j < n
      · simp [h1, h2, show j < n + 1 by omega]
      · simp [h1, h2, show ¬ j < n + 1 by omega]
  · simp [h]
theorem fil_msk {f : Nat → Nat → Bool} {w : Wd} {a : Nat} {v : Int} {n : Nat} (h : ∀ j, f a j = false) : msk f (fil w a v n) = msk f w := by
  funext c j
  unfold msk fil
  by_cases q : c = a
  · rw [q, h]; rfl
  · rw [if_neg (fun z => q z.1)]
theorem fill_ok {w : Wd} {a : Nat} {n v : Int} (hs : shq a = .inl (0, n)) (hn : 0 ≤ n ∧ n < 2000) : Cal 1 70 [.inr (.inr a), .inl v] w (rV fun u => u = fil w a v n.toNat) := by
  generalize hQ : (rV fun u => u = fil w a v n.toNat) = Q
  have key := Ev.count (sc := none) (C := Cal 0) (cdk := cd 70) (Q := Q) (N := n.toNat) (S := fun i => (5, [some (.inr (.inr a)), some (.inl v), some (.inl (i : Int)), some (.inl n)], [], fil w a v i)) (fun i hi h => ?_) ?_ 0 (Nat.zero_le _)
  · refine en_70 ?_
    unfold aL
    rw [hs]
    show Ev none (Cal 0) (cd 70) Q (5, _, [], w)
    refine key.cast ?_
    have : w = fil w a v 0 := by funext c j; simp [fil]
    rw [← this]
    rfl
  · refine bk_70_5 ?_
    rw [if_pos (by omega)]
    unfold aW
    rw [hs]
    show ((0 : Int) ≤ (i : Int) ∧ (i : Int) < n) ∧ _
    refine ⟨⟨by omega, by omega⟩, ?_⟩
    rw [tn, fil_s, wr_s (by omega)]
    exact h
  · refine bk_70_5 ?_
    rw [if_neg (by omega)]
    subst hQ
    rfl
/-- is roll of rights r there -/
def gAct (τ : Wd) (who p d : Int) (r : Nat) : Prop := τ 159 r = who ∧ τ 160 r = p ∧ τ 163 r ≤ d ∧ d < τ 164 r
/-- h, p, g and the kinds after n rights -/
def fcN (τ : Wd) (who p d : Int) : Nat → Int × Int × Int × Int
  | 0 => (0, 0, 0, 0)
  | n + 1 => if τ 159 n = who ∧ τ 160 n = p ∧ τ 163 n ≤ d ∧ d < τ 164 n then
      (if τ 161 n = 0 then max (fcN τ who p d n).1 (d - τ 163 n + 1) else (fcN τ who p d n).1,
       if τ 161 n = 1 then (fcN τ who p d n).2.1 + τ 162 n else (fcN τ who p d n).2.1,
       if τ 161 n = 2 then (if (fcN τ who p d n).2.2.1 = 0 ∨ τ 162 n < (fcN τ who p d n).2.2.1 then τ 162 n else (fcN τ who p d n).2.2.1) else (fcN τ who p d n).2.2.1,
       ior (fcN τ who p d n).2.2.2 (ishl 1 (τ 161 n)))
    else fcN τ who p d n
theorem fcN_s (τ : Wd) (who p d : Int) (n : Nat) : fcN τ who p d (n + 1) = if τ 159 n = who ∧ τ 160 n = p ∧ τ 163 n ≤ d ∧ d < τ 164 n then
      (if τ 161 n = 0 then max (fcN τ who p d n).1 (d - τ 163 n + 1) else (fcN τ who p d n).1,
       if τ 161 n = 1 then (fcN τ who p d n).2.1 + τ 162 n else (fcN τ who p d n).2.1,
       if τ 161 n = 2 then (if (fcN τ who p d n).2.2.1 = 0 ∨ τ 162 n < (fcN τ who p d n).2.2.1 then τ 162 n else (fcN τ who p d n).2.2.1) else (fcN τ who p d n).2.2.1,
       ior (fcN τ who p d n).2.2.2 (ishl 1 (τ 161 n)))
    else fcN τ who p d n := rfl
theorem fcN_b {τ : Wd} (hR : RNG τ) (who p d : Int) (hd : d ≤ 2000) : ∀ n : Nat, 0 ≤ (fcN τ who p d n).1 ∧ (fcN τ who p d n).1 ≤ 4001 ∧ 0 ≤ (fcN τ who p d n).2.1 ∧ (fcN τ who p d n).2.1 ≤ 99 * n ∧ 0 ≤ (fcN τ who p d n).2.2.1 ∧ (fcN τ who p d n).2.2.1 ≤ 3
  | 0 => by simp [fcN]
  | n + 1 => by
    have h := fcN_b hR who p d hd n
    have h1 := hR.M_gSince n
    have h2 := hR.M_gSize n
    have h3 := hR.M_gKind n
    rw [fcN_s]
    split
    · refine ⟨?_, ?_, ?_, ?_, ?_, ?_⟩
      all_goals dsimp only
      all_goals (repeat' split)
      all_goals omega
    · omega
/-- fact i of a person in a place on a day: h, p, g, d, y -/
def fcF (τ : Wd) (who p d : Int) (i : Nat) : Int :=
  if i = 0 then (fcN τ who p d (τ 12 19).toNat).1 else if i = 1 then (fcN τ who p d (τ 12 19).toNat).2.1 else if i = 2 then (fcN τ who p d (τ 12 19).toNat).2.2.1
  else if i = 3 then (if τ 154 who.toNat = p ∧ τ 155 who.toNat ≤ d then d - τ 155 who.toNat + 1 else 0) else (if (fcN τ who p d (τ 12 19).toNat).2.2.2 = 7 then 1 else 0)
section
variable {w κ τ : Wd}
theorem findFacts_ok (hm : pm w = τ) (hR : RNG τ) {who p d : Int} (hd : -365 ≤ d ∧ d ≤ 2000) (hw : 0 ≤ who ∧ who < 40) : Cal 1 192 [.inr (.inr 12), .inl who, .inl p, .inl d] w (rV fun u => (∀ i, i < 5 → u 167 i = fcF τ who p d i) ∧ pm u = τ ∧ pc u = pc w) := by
  have hb := hR.M_rights
  generalize hQ : (rV fun u => (∀ i, i < 5 → u 167 i = fcF τ who p d i) ∧ pm u = τ ∧ pc u = pc w) = Q
  have key2 := Ev.inv (sc := none) (C := Cal 0) (cdk := cd 192) (Q := Q) (N := (τ 12 19).toNat) (I := fun i s => ∃ u : Wd, s = (29, [some (.inr (.inr 12)), some (.inl who), some (.inl p), some (.inl d), some (.inl (fcN τ who p d i).2.2.2), some (.inl (i : Int))], [], u) ∧ pc u = pc w ∧ pm u = τ ∧ u 167 0 = (fcN τ who p d i).1 ∧ u 167 1 = (fcN τ who p d i).2.1 ∧ u 167 2 = (fcN τ who p d i).2.2.1) (fun i hi s hs h => ?_) (fun s hs => ?_) 0 (Nat.zero_le _)
  · have key := Ev.count (sc := none) (C := Cal 0) (cdk := cd 192) (Q := Q) (N := 5) (S := fun i => (3, [some (.inr (.inr 12)), some (.inl who), some (.inl p), some (.inl d), some (.inl (i : Int)), none], [], fil w 167 0 i)) (fun i hi h => ?_) ?_ 0 (Nat.zero_le _)
    · refine en_192 ?_
      refine key.cast ?_
      have : w = fil w 167 0 0 := by funext c j; simp [fil]
      rw [← this]
      rfl
    · refine bk_192_3 ?_
      rw [if_pos (by omega)]
      refine ⟨⟨by omega, by omega⟩, ?_⟩
      rw [tn, fil_s, wr_s (by omega)]
      exact h
    · refine bk_192_3 ?_
      rw [if_neg (by omega)]
      refine key2 _ ⟨_, rfl, fil_msk (fun _ => rfl), ?_, ?_, ?_, ?_⟩
      · exact (fil_msk (fun _ => rfl)).trans hm
      all_goals simp [fil, fcN]
  · obtain ⟨u, rfl, uc, um, u0, u1, u2⟩ := hs
    refine bk_192_29 ?_
    have b := fcN_b hR who p d hd.2 i
    have h1 := hR.M_gSince i
    have h2 := hR.M_gSize i
    have h3 := hR.M_gKind i
    simp only [r12_19 um, r159 um, r160 um, r163 um, r164 um, r161 um, r162 um, tn, u0, u1, u2, wr_s (show i < 2000000 by omega)]
    rw [if_pos (by omega)]
    have h' : ∀ (x : Int) (v : Wd), x = (fcN τ who p d (i + 1)).2.2.2 → pc v = pc w → pm v = τ → v 167 0 = (fcN τ who p d (i + 1)).1 → v 167 1 = (fcN τ who p d (i + 1)).2.1 → v 167 2 = (fcN τ who p d (i + 1)).2.2.1 → Ev none (Cal 0) (cd 192) Q (29, [some (.inr (.inr 12)), some (.inl who), some (.inl p), some (.inl d), some (.inl x), some (.inl ((i + 1 : Nat) : Int))], [], v) := fun x v e a b c d e' => h _ ⟨v, by rw [e], a, b, c, d, e'⟩
    rw [wr_id (x := d - τ 163 i) (by omega) (by omega), wr_id (x := d - τ 163 i + 1) (by omega) (by omega)]
    have hwr : τ 161 i = 1 → wr ((fcN τ who p d i).2.1 + τ 162 i) = (fcN τ who p d i).2.1 + τ 162 i := fun q => wr_id (by omega) (by omega)
    repeat' (first | split | (refine And.intro (by first | omega | exact Or.inl trivial | exact Or.inr trivial | exact ⟨trivial, trivial⟩ | fail) ?_) | fail)
    all_goals refine h' _ _ ?_ ?_ ?_ ?_ ?_ ?_
    all_goals (first | (rw [pc_out rfl]; exact uc) | exact uc | (rw [pm_out rfl]; exact um) | exact um | skip)
    all_goals (first | (rw [fcN_s, if_neg (by omega)] <;> first | assumption | rfl) | (rw [fcN_s, if_pos (by omega)] <;> (simp [wst_ap, *]; done)) | (rw [fcN_s, if_pos (by omega)] <;> (simp [wst_ap, *]; omega)) | skip)
  · obtain ⟨u, rfl, uc, um, u0, u1, u2⟩ := hs
    refine bk_192_29 ?_
    simp only [r12_19 um, r154 um, r155 um]
    rw [if_neg (by omega)]
    have h4 := hR.M_since who.toNat
    rw [wr_id (x := d - τ 155 who.toNat) (by omega) (by omega), wr_id (x := d - τ 155 who.toNat + 1) (by omega) (by omega)]
    subst hQ
    repeat' (first | split | (refine And.intro (by first | omega | exact Or.inl trivial | exact Or.inr trivial | exact ⟨trivial, trivial⟩ | fail) ?_) | fail)
    all_goals (refine ⟨fun i hi => ?_, ?_, ?_⟩)
    all_goals (first | (rw [pc_out rfl, pc_out rfl]; exact uc) | (rw [pm_out rfl, pm_out rfl]; exact um) | skip)
    all_goals (obtain rfl | rfl | rfl | rfl | rfl : i = 0 ∨ i = 1 ∨ i = 2 ∨ i = 3 ∨ i = 4 := by omega)
    all_goals (simp [wst_ap, fcF, *] <;> omega)
end
